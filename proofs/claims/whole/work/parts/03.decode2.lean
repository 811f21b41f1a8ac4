theorem dX5_readNumber_48 : decode cX5_readNumber 48 = .ok (.iadd, 1) := by decide +kernel
theorem dX5_readNumber_49 : decode cX5_readNumber 49 = .ok (.bipush 48, 2) := by decide +kernel
theorem dX5_readNumber_51 : decode cX5_readNumber 51 = .ok (.isub, 1) := by decide +kernel
theorem dX5_readNumber_52 : decode cX5_readNumber 52 = .ok (.putfield 73, 3) := by decide +kernel
theorem dX5_readNumber_55 : decode cX5_readNumber 55 = .ok (.aload_n 0, 1) := by decide +kernel
theorem dX5_readNumber_56 : decode cX5_readNumber 56 = .ok (.dup, 1) := by decide +kernel
theorem dX5_readNumber_57 : decode cX5_readNumber 57 = .ok (.getfield 33, 3) := by decide +kernel
theorem dX5_readNumber_60 : decode cX5_readNumber 60 = .ok (.iconst 1, 1) := by decide +kernel
theorem dX5_readNumber_61 : decode cX5_readNumber 61 = .ok (.iadd, 1) := by decide +kernel
theorem dX5_readNumber_62 : decode cX5_readNumber 62 = .ok (.putfield 33, 3) := by decide +kernel
theorem dX5_readNumber_65 : decode cX5_readNumber 65 = .ok (.goto (-60), 3) := by decide +kernel
theorem dX5_readNumber_68 : decode cX5_readNumber 68 = .ok (.aload_n 0, 1) := by decide +kernel
theorem dX5_readNumber_69 : decode cX5_readNumber 69 = .ok (.getfield 33, 3) := by decide +kernel
theorem dX5_readNumber_72 : decode cX5_readNumber 72 = .ok (.aload_n 0, 1) := by decide +kernel
theorem dX5_readNumber_73 : decode cX5_readNumber 73 = .ok (.getfield 43, 3) := by decide +kernel
theorem dX5_readNumber_76 : decode cX5_readNumber 76 = .ok (.isub, 1) := by decide +kernel
theorem dX5_readNumber_77 : decode cX5_readNumber 77 = .ok (.iconst 4, 1) := by decide +kernel
theorem dX5_readNumber_78 : decode cX5_readNumber 78 = .ok (.if_icmp .le 7, 3) := by decide +kernel
theorem dX5_readNumber_81 : decode cX5_readNumber 81 = .ok (.iconst 1, 1) := by decide +kernel
theorem dX5_readNumber_82 : decode cX5_readNumber 82 = .ok (.goto 4, 3) := by decide +kernel
theorem dX5_readNumber_85 : decode cX5_readNumber 85 = .ok (.iconst 2, 1) := by decide +kernel
theorem dX5_readNumber_86 : decode cX5_readNumber 86 = .ok (.ireturn, 1) := by decide +kernel
theorem dX5_readSign_0 : decode cX5_readSign 0 = .ok (.aload_n 0, 1) := by decide +kernel
theorem dX5_readSign_1 : decode cX5_readSign 1 = .ok (.getfield 9, 3) := by decide +kernel
theorem dX5_readSign_4 : decode cX5_readSign 4 = .ok (.aload_n 0, 1) := by decide +kernel
theorem dX5_readSign_5 : decode cX5_readSign 5 = .ok (.getfield 43, 3) := by decide +kernel
theorem dX5_readSign_8 : decode cX5_readSign 8 = .ok (.baload, 1) := by decide +kernel
theorem dX5_readSign_9 : decode cX5_readSign 9 = .ok (.istore_n 1, 1) := by decide +kernel
theorem dX5_readSign_10 : decode cX5_readSign 10 = .ok (.aload_n 0, 1) := by decide +kernel
theorem dX5_readSign_11 : decode cX5_readSign 11 = .ok (.aload_n 0, 1) := by decide +kernel
theorem dX5_readSign_12 : decode cX5_readSign 12 = .ok (.getfield 43, 3) := by decide +kernel
theorem dX5_readSign_15 : decode cX5_readSign 15 = .ok (.iconst 1, 1) := by decide +kernel
theorem dX5_readSign_16 : decode cX5_readSign 16 = .ok (.iadd, 1) := by decide +kernel
theorem dX5_readSign_17 : decode cX5_readSign 17 = .ok (.putfield 33, 3) := by decide +kernel
theorem dX5_readSign_20 : decode cX5_readSign 20 = .ok (.iload_n 1, 1) := by decide +kernel
theorem dX5_readSign_21 : decode cX5_readSign 21 = .ok (.tableswitch 105 40 61 #[103, 103, 103, 103, 105, 103, 105, 105, 105, 105, 105, 105, 105, 105, 105, 105, 105, 105, 105, 103, 103, 103], 103) := by decide +kernel
theorem dX5_readSign_124 : decode cX5_readSign 124 = .ok (.iload_n 1, 1) := by decide +kernel
theorem dX5_readSign_125 : decode cX5_readSign 125 = .ok (.ireturn, 1) := by decide +kernel
theorem dX5_readSign_126 : decode cX5_readSign 126 = .ok (.iconst 1, 1) := by decide +kernel
theorem dX5_readSign_127 : decode cX5_readSign 127 = .ok (.ireturn, 1) := by decide +kernel
theorem dX5_isLetter_0 : decode cX5_isLetter 0 = .ok (.iload_n 0, 1) := by decide +kernel
theorem dX5_isLetter_1 : decode cX5_isLetter 1 = .ok (.bipush 97, 2) := by decide +kernel
theorem dX5_isLetter_3 : decode cX5_isLetter 3 = .ok (.if_icmp .lt 13, 3) := by decide +kernel
theorem dX5_isLetter_6 : decode cX5_isLetter 6 = .ok (.iload_n 0, 1) := by decide +kernel
theorem dX5_isLetter_7 : decode cX5_isLetter 7 = .ok (.bipush 122, 2) := by decide +kernel
theorem dX5_isLetter_9 : decode cX5_isLetter 9 = .ok (.if_icmp .gt 7, 3) := by decide +kernel
theorem dX5_isLetter_12 : decode cX5_isLetter 12 = .ok (.iconst 1, 1) := by decide +kernel
theorem dX5_isLetter_13 : decode cX5_isLetter 13 = .ok (.goto 4, 3) := by decide +kernel
theorem dX5_isLetter_16 : decode cX5_isLetter 16 = .ok (.iconst 0, 1) := by decide +kernel
theorem dX5_isLetter_17 : decode cX5_isLetter 17 = .ok (.ireturn, 1) := by decide +kernel
theorem dX5_isFigure_0 : decode cX5_isFigure 0 = .ok (.iload_n 0, 1) := by decide +kernel
theorem dX5_isFigure_1 : decode cX5_isFigure 1 = .ok (.bipush 48, 2) := by decide +kernel
theorem dX5_isFigure_3 : decode cX5_isFigure 3 = .ok (.if_icmp .lt 13, 3) := by decide +kernel
theorem dX5_isFigure_6 : decode cX5_isFigure 6 = .ok (.iload_n 0, 1) := by decide +kernel
theorem dX5_isFigure_7 : decode cX5_isFigure 7 = .ok (.bipush 57, 2) := by decide +kernel
theorem dX5_isFigure_9 : decode cX5_isFigure 9 = .ok (.if_icmp .gt 7, 3) := by decide +kernel
theorem dX5_isFigure_12 : decode cX5_isFigure 12 = .ok (.iconst 1, 1) := by decide +kernel
theorem dX5_isFigure_13 : decode cX5_isFigure 13 = .ok (.goto 4, 3) := by decide +kernel
theorem dX5_isFigure_16 : decode cX5_isFigure 16 = .ok (.iconst 0, 1) := by decide +kernel
theorem dX5_isFigure_17 : decode cX5_isFigure 17 = .ok (.ireturn, 1) := by decide +kernel
theorem dX6_init_0 : decode cX6_init 0 = .ok (.aload_n 0, 1) := by decide +kernel
theorem dX6_init_1 : decode cX6_init 1 = .ok (.invokespecial 1, 3) := by decide +kernel
theorem dX6_init_4 : decode cX6_init 4 = .ok (.aload_n 0, 1) := by decide +kernel
theorem dX6_init_5 : decode cX6_init 5 = .ok (.iconst 3, 1) := by decide +kernel
theorem dX6_init_6 : decode cX6_init 6 = .ok (.putfield 7, 3) := by decide +kernel
theorem dX6_init_9 : decode cX6_init 9 = .ok (.aload_n 0, 1) := by decide +kernel
theorem dX6_init_10 : decode cX6_init 10 = .ok (.bipush 10, 2) := by decide +kernel
theorem dX6_init_12 : decode cX6_init 12 = .ok (.newarray .int, 2) := by decide +kernel
theorem dX6_init_14 : decode cX6_init 14 = .ok (.putfield 13, 3) := by decide +kernel
theorem dX6_init_17 : decode cX6_init 17 = .ok (.aload_n 0, 1) := by decide +kernel
theorem dX6_init_18 : decode cX6_init 18 = .ok (.bipush 10, 2) := by decide +kernel
theorem dX6_init_20 : decode cX6_init 20 = .ok (.newarray .int, 2) := by decide +kernel
theorem dX6_init_22 : decode cX6_init 22 = .ok (.putfield 17, 3) := by decide +kernel
theorem dX6_init_25 : decode cX6_init 25 = .ok (.return_, 1) := by decide +kernel
theorem dX6_isMarks_0 : decode cX6_isMarks 0 = .ok (.iload_n 0, 1) := by decide +kernel
theorem dX6_isMarks_1 : decode cX6_isMarks 1 = .ok (.ifCond .lt 14, 3) := by decide +kernel
theorem dX6_isMarks_4 : decode cX6_isMarks 4 = .ok (.iload_n 0, 1) := by decide +kernel
theorem dX6_isMarks_5 : decode cX6_isMarks 5 = .ok (.sipush 1024, 3) := by decide +kernel
theorem dX6_isMarks_8 : decode cX6_isMarks 8 = .ok (.if_icmp .ge 7, 3) := by decide +kernel
theorem dX6_isMarks_11 : decode cX6_isMarks 11 = .ok (.iconst 1, 1) := by decide +kernel
theorem dX6_isMarks_12 : decode cX6_isMarks 12 = .ok (.goto 4, 3) := by decide +kernel
theorem dX6_isMarks_15 : decode cX6_isMarks 15 = .ok (.iconst 0, 1) := by decide +kernel
theorem dX6_isMarks_16 : decode cX6_isMarks 16 = .ok (.ireturn, 1) := by decide +kernel
theorem dX6_has_0 : decode cX6_has 0 = .ok (.iload_n 1, 1) := by decide +kernel
theorem dX6_has_1 : decode cX6_has 1 = .ok (.ifCond .lt 15, 3) := by decide +kernel
theorem dX6_has_4 : decode cX6_has 4 = .ok (.iload_n 1, 1) := by decide +kernel
theorem dX6_has_5 : decode cX6_has 5 = .ok (.aload_n 0, 1) := by decide +kernel
theorem dX6_has_6 : decode cX6_has 6 = .ok (.getfield 20, 3) := by decide +kernel
theorem dX6_has_9 : decode cX6_has 9 = .ok (.if_icmp .ge 7, 3) := by decide +kernel
theorem dX6_has_12 : decode cX6_has 12 = .ok (.iconst 1, 1) := by decide +kernel
theorem dX6_has_13 : decode cX6_has 13 = .ok (.goto 4, 3) := by decide +kernel
theorem dX6_has_16 : decode cX6_has 16 = .ok (.iconst 0, 1) := by decide +kernel
theorem dX6_has_17 : decode cX6_has 17 = .ok (.ireturn, 1) := by decide +kernel
theorem dX6_add_0 : decode cX6_add 0 = .ok (.aload_n 0, 1) := by decide +kernel
theorem dX6_add_1 : decode cX6_add 1 = .ok (.getfield 13, 3) := by decide +kernel
theorem dX6_add_4 : decode cX6_add 4 = .ok (.aload_n 0, 1) := by decide +kernel
theorem dX6_add_5 : decode cX6_add 5 = .ok (.getfield 20, 3) := by decide +kernel
theorem dX6_add_8 : decode cX6_add 8 = .ok (.iload_n 1, 1) := by decide +kernel
theorem dX6_add_9 : decode cX6_add 9 = .ok (.iload_n 2, 1) := by decide +kernel
theorem dX6_add_10 : decode cX6_add 10 = .ok (.iand, 1) := by decide +kernel
theorem dX6_add_11 : decode cX6_add 11 = .ok (.iastore, 1) := by decide +kernel
theorem dX6_add_12 : decode cX6_add 12 = .ok (.aload_n 0, 1) := by decide +kernel
theorem dX6_add_13 : decode cX6_add 13 = .ok (.getfield 17, 3) := by decide +kernel
theorem dX6_add_16 : decode cX6_add 16 = .ok (.aload_n 0, 1) := by decide +kernel
theorem dX6_add_17 : decode cX6_add 17 = .ok (.getfield 20, 3) := by decide +kernel
theorem dX6_add_20 : decode cX6_add 20 = .ok (.iload_n 2, 1) := by decide +kernel
theorem dX6_add_21 : decode cX6_add 21 = .ok (.iastore, 1) := by decide +kernel
theorem dX6_add_22 : decode cX6_add 22 = .ok (.aload_n 0, 1) := by decide +kernel
theorem dX6_add_23 : decode cX6_add 23 = .ok (.dup, 1) := by decide +kernel
theorem dX6_add_24 : decode cX6_add 24 = .ok (.getfield 20, 3) := by decide +kernel
theorem dX6_add_27 : decode cX6_add 27 = .ok (.dup_x1, 1) := by decide +kernel
theorem dX6_add_28 : decode cX6_add 28 = .ok (.iconst 1, 1) := by decide +kernel
theorem dX6_add_29 : decode cX6_add 29 = .ok (.iadd, 1) := by decide +kernel
theorem dX6_add_30 : decode cX6_add 30 = .ok (.putfield 20, 3) := by decide +kernel
theorem dX6_add_33 : decode cX6_add 33 = .ok (.ireturn, 1) := by decide +kernel
theorem dX6_atOdds_0 : decode cX6_atOdds 0 = .ok (.aload_n 0, 1) := by decide +kernel
theorem dX6_atOdds_1 : decode cX6_atOdds 1 = .ok (.getfield 13, 3) := by decide +kernel
theorem dX6_atOdds_4 : decode cX6_atOdds 4 = .ok (.iload_n 1, 1) := by decide +kernel
theorem dX6_atOdds_5 : decode cX6_atOdds 5 = .ok (.iaload, 1) := by decide +kernel
theorem dX6_atOdds_6 : decode cX6_atOdds 6 = .ok (.aload_n 0, 1) := by decide +kernel
theorem dX6_atOdds_7 : decode cX6_atOdds 7 = .ok (.getfield 13, 3) := by decide +kernel
theorem dX6_atOdds_10 : decode cX6_atOdds 10 = .ok (.iload_n 2, 1) := by decide +kernel
theorem dX6_atOdds_11 : decode cX6_atOdds 11 = .ok (.iaload, 1) := by decide +kernel
theorem dX6_atOdds_12 : decode cX6_atOdds 12 = .ok (.ixor, 1) := by decide +kernel
theorem dX6_atOdds_13 : decode cX6_atOdds 13 = .ok (.aload_n 0, 1) := by decide +kernel
theorem dX6_atOdds_14 : decode cX6_atOdds 14 = .ok (.getfield 17, 3) := by decide +kernel
theorem dX6_atOdds_17 : decode cX6_atOdds 17 = .ok (.iload_n 1, 1) := by decide +kernel
theorem dX6_atOdds_18 : decode cX6_atOdds 18 = .ok (.iaload, 1) := by decide +kernel
theorem dX6_atOdds_19 : decode cX6_atOdds 19 = .ok (.iand, 1) := by decide +kernel
theorem dX6_atOdds_20 : decode cX6_atOdds 20 = .ok (.aload_n 0, 1) := by decide +kernel
theorem dX6_atOdds_21 : decode cX6_atOdds 21 = .ok (.getfield 17, 3) := by decide +kernel
theorem dX6_atOdds_24 : decode cX6_atOdds 24 = .ok (.iload_n 2, 1) := by decide +kernel
theorem dX6_atOdds_25 : decode cX6_atOdds 25 = .ok (.iaload, 1) := by decide +kernel
theorem dX6_atOdds_26 : decode cX6_atOdds 26 = .ok (.iand, 1) := by decide +kernel
theorem dX6_atOdds_27 : decode cX6_atOdds 27 = .ok (.ifCond .eq 7, 3) := by decide +kernel
theorem dX6_atOdds_30 : decode cX6_atOdds 30 = .ok (.iconst 1, 1) := by decide +kernel
theorem dX6_atOdds_31 : decode cX6_atOdds 31 = .ok (.goto 4, 3) := by decide +kernel
theorem dX6_atOdds_34 : decode cX6_atOdds 34 = .ok (.iconst 0, 1) := by decide +kernel
theorem dX6_atOdds_35 : decode cX6_atOdds 35 = .ok (.ireturn, 1) := by decide +kernel
theorem dX6_match_0 : decode cX6_match 0 = .ok (.aload_n 0, 1) := by decide +kernel
theorem dX6_match_1 : decode cX6_match 1 = .ok (.iload_n 1, 1) := by decide +kernel
theorem dX6_match_2 : decode cX6_match 2 = .ok (.iload_n 2, 1) := by decide +kernel
theorem dX6_match_3 : decode cX6_match 3 = .ok (.invokevirtual 23, 3) := by decide +kernel
theorem dX6_match_6 : decode cX6_match 6 = .ok (.ifCond .ne 30, 3) := by decide +kernel
theorem dX6_match_9 : decode cX6_match 9 = .ok (.aload_n 0, 1) := by decide +kernel
theorem dX6_match_10 : decode cX6_match 10 = .ok (.getfield 17, 3) := by decide +kernel
theorem dX6_match_13 : decode cX6_match 13 = .ok (.iload_n 1, 1) := by decide +kernel
theorem dX6_match_14 : decode cX6_match 14 = .ok (.iaload, 1) := by decide +kernel
theorem dX6_match_15 : decode cX6_match 15 = .ok (.aload_n 0, 1) := by decide +kernel
theorem dX6_match_16 : decode cX6_match 16 = .ok (.getfield 17, 3) := by decide +kernel
theorem dX6_match_19 : decode cX6_match 19 = .ok (.iload_n 2, 1) := by decide +kernel
theorem dX6_match_20 : decode cX6_match 20 = .ok (.iaload, 1) := by decide +kernel
theorem dX6_match_21 : decode cX6_match 21 = .ok (.iand, 1) := by decide +kernel
theorem dX6_match_22 : decode cX6_match 22 = .ok (.invokestatic 27, 3) := by decide +kernel
theorem dX6_match_25 : decode cX6_match 25 = .ok (.aload_n 0, 1) := by decide +kernel
theorem dX6_match_26 : decode cX6_match 26 = .ok (.getfield 7, 3) := by decide +kernel
theorem dX6_match_29 : decode cX6_match 29 = .ok (.if_icmp .lt 7, 3) := by decide +kernel
theorem dX6_match_32 : decode cX6_match 32 = .ok (.iconst 1, 1) := by decide +kernel
theorem dX6_match_33 : decode cX6_match 33 = .ok (.goto 4, 3) := by decide +kernel
theorem dX6_match_36 : decode cX6_match 36 = .ok (.iconst 0, 1) := by decide +kernel
theorem dX6_match_37 : decode cX6_match 37 = .ok (.ireturn, 1) := by decide +kernel
theorem dX6_thingOf_0 : decode cX6_thingOf 0 = .ok (.iconst 1, 1) := by decide +kernel
theorem dX6_thingOf_1 : decode cX6_thingOf 1 = .ok (.iload_n 1, 1) := by decide +kernel
theorem dX6_thingOf_2 : decode cX6_thingOf 2 = .ok (.ishl, 1) := by decide +kernel
theorem dX6_thingOf_3 : decode cX6_thingOf 3 = .ok (.istore_n 2, 1) := by decide +kernel
theorem dX6_thingOf_4 : decode cX6_thingOf 4 = .ok (.iconst 1, 1) := by decide +kernel
theorem dX6_thingOf_5 : decode cX6_thingOf 5 = .ok (.istore_n 3, 1) := by decide +kernel
theorem dX6_thingOf_6 : decode cX6_thingOf 6 = .ok (.iload_n 3, 1) := by decide +kernel
theorem dX6_thingOf_7 : decode cX6_thingOf 7 = .ok (.aload_n 0, 1) := by decide +kernel
theorem dX6_thingOf_8 : decode cX6_thingOf 8 = .ok (.getfield 20, 3) := by decide +kernel
theorem dX6_thingOf_11 : decode cX6_thingOf 11 = .ok (.if_icmp .ge 65, 3) := by decide +kernel
theorem dX6_thingOf_14 : decode cX6_thingOf 14 = .ok (.iload_n 2, 1) := by decide +kernel
theorem dX6_thingOf_15 : decode cX6_thingOf 15 = .ok (.istore 4, 2) := by decide +kernel
theorem dX6_thingOf_17 : decode cX6_thingOf 17 = .ok (.iconst 0, 1) := by decide +kernel
theorem dX6_thingOf_18 : decode cX6_thingOf 18 = .ok (.istore 5, 2) := by decide +kernel
theorem dX6_thingOf_20 : decode cX6_thingOf 20 = .ok (.iload 5, 2) := by decide +kernel
theorem dX6_thingOf_22 : decode cX6_thingOf 22 = .ok (.aload_n 0, 1) := by decide +kernel
theorem dX6_thingOf_23 : decode cX6_thingOf 23 = .ok (.getfield 20, 3) := by decide +kernel
theorem dX6_thingOf_26 : decode cX6_thingOf 26 = .ok (.if_icmp .ge 35, 3) := by decide +kernel
theorem dX6_thingOf_29 : decode cX6_thingOf 29 = .ok (.iload_n 2, 1) := by decide +kernel
theorem dX6_thingOf_30 : decode cX6_thingOf 30 = .ok (.iload 5, 2) := by decide +kernel
theorem dX6_thingOf_32 : decode cX6_thingOf 32 = .ok (.invokestatic 33, 3) := by decide +kernel
theorem dX6_thingOf_35 : decode cX6_thingOf 35 = .ok (.ifCond .ne 20, 3) := by decide +kernel
theorem dX6_thingOf_38 : decode cX6_thingOf 38 = .ok (.aload_n 0, 1) := by decide +kernel
theorem dX6_thingOf_39 : decode cX6_thingOf 39 = .ok (.iload_n 2, 1) := by decide +kernel
theorem dX6_thingOf_40 : decode cX6_thingOf 40 = .ok (.iload 5, 2) := by decide +kernel
theorem dX6_thingOf_42 : decode cX6_thingOf 42 = .ok (.invokevirtual 38, 3) := by decide +kernel
theorem dX6_thingOf_45 : decode cX6_thingOf 45 = .ok (.ifCond .eq 10, 3) := by decide +kernel
theorem dX6_thingOf_48 : decode cX6_thingOf 48 = .ok (.iload_n 2, 1) := by decide +kernel
theorem dX6_thingOf_49 : decode cX6_thingOf 49 = .ok (.iconst 1, 1) := by decide +kernel
theorem dX6_thingOf_50 : decode cX6_thingOf 50 = .ok (.iload 5, 2) := by decide +kernel
theorem dX6_thingOf_52 : decode cX6_thingOf 52 = .ok (.ishl, 1) := by decide +kernel
theorem dX6_thingOf_53 : decode cX6_thingOf 53 = .ok (.ior, 1) := by decide +kernel
theorem dX6_thingOf_54 : decode cX6_thingOf 54 = .ok (.istore_n 2, 1) := by decide +kernel
theorem dX6_thingOf_55 : decode cX6_thingOf 55 = .ok (.iinc 5 1, 3) := by decide +kernel
theorem dX6_thingOf_58 : decode cX6_thingOf 58 = .ok (.goto (-38), 3) := by decide +kernel
theorem dX6_thingOf_61 : decode cX6_thingOf 61 = .ok (.iload_n 2, 1) := by decide +kernel
theorem dX6_thingOf_62 : decode cX6_thingOf 62 = .ok (.iload 4, 2) := by decide +kernel
theorem dX6_thingOf_64 : decode cX6_thingOf 64 = .ok (.if_icmp .ne 6, 3) := by decide +kernel
theorem dX6_thingOf_67 : decode cX6_thingOf 67 = .ok (.goto 9, 3) := by decide +kernel
theorem dX6_thingOf_70 : decode cX6_thingOf 70 = .ok (.iinc 3 1, 3) := by decide +kernel
theorem dX6_thingOf_73 : decode cX6_thingOf 73 = .ok (.goto (-67), 3) := by decide +kernel
theorem dX6_thingOf_76 : decode cX6_thingOf 76 = .ok (.iload_n 2, 1) := by decide +kernel
theorem dX6_thingOf_77 : decode cX6_thingOf 77 = .ok (.ireturn, 1) := by decide +kernel
theorem dX6_matchesOneOf_0 : decode cX6_matchesOneOf 0 = .ok (.iconst 0, 1) := by decide +kernel
theorem dX6_matchesOneOf_1 : decode cX6_matchesOneOf 1 = .ok (.istore_n 3, 1) := by decide +kernel
theorem dX6_matchesOneOf_2 : decode cX6_matchesOneOf 2 = .ok (.iload_n 3, 1) := by decide +kernel
theorem dX6_matchesOneOf_3 : decode cX6_matchesOneOf 3 = .ok (.aload_n 0, 1) := by decide +kernel
theorem dX6_matchesOneOf_4 : decode cX6_matchesOneOf 4 = .ok (.getfield 20, 3) := by decide +kernel
theorem dX6_matchesOneOf_7 : decode cX6_matchesOneOf 7 = .ok (.if_icmp .ge 28, 3) := by decide +kernel
theorem dX6_matchesOneOf_10 : decode cX6_matchesOneOf 10 = .ok (.iload_n 1, 1) := by decide +kernel
theorem dX6_matchesOneOf_11 : decode cX6_matchesOneOf 11 = .ok (.iload_n 3, 1) := by decide +kernel
theorem dX6_matchesOneOf_12 : decode cX6_matchesOneOf 12 = .ok (.invokestatic 33, 3) := by decide +kernel
theorem dX6_matchesOneOf_15 : decode cX6_matchesOneOf 15 = .ok (.ifCond .eq 14, 3) := by decide +kernel
theorem dX6_matchesOneOf_18 : decode cX6_matchesOneOf 18 = .ok (.aload_n 0, 1) := by decide +kernel
theorem dX6_matchesOneOf_19 : decode cX6_matchesOneOf 19 = .ok (.iload_n 3, 1) := by decide +kernel
theorem dX6_matchesOneOf_20 : decode cX6_matchesOneOf 20 = .ok (.iload_n 2, 1) := by decide +kernel
theorem dX6_matchesOneOf_21 : decode cX6_matchesOneOf 21 = .ok (.invokevirtual 41, 3) := by decide +kernel
theorem dX6_matchesOneOf_24 : decode cX6_matchesOneOf 24 = .ok (.ifCond .eq 5, 3) := by decide +kernel
theorem dX6_matchesOneOf_27 : decode cX6_matchesOneOf 27 = .ok (.iconst 1, 1) := by decide +kernel
theorem dX6_matchesOneOf_28 : decode cX6_matchesOneOf 28 = .ok (.ireturn, 1) := by decide +kernel
theorem dX6_matchesOneOf_29 : decode cX6_matchesOneOf 29 = .ok (.iinc 3 1, 3) := by decide +kernel
theorem dX6_matchesOneOf_32 : decode cX6_matchesOneOf 32 = .ok (.goto (-30), 3) := by decide +kernel
theorem dX6_matchesOneOf_35 : decode cX6_matchesOneOf 35 = .ok (.iconst 0, 1) := by decide +kernel
theorem dX6_matchesOneOf_36 : decode cX6_matchesOneOf 36 = .ok (.ireturn, 1) := by decide +kernel
theorem dX6_countThings_0 : decode cX6_countThings 0 = .ok (.iconst 0, 1) := by decide +kernel
theorem dX6_countThings_1 : decode cX6_countThings 1 = .ok (.istore_n 2, 1) := by decide +kernel
theorem dX6_countThings_2 : decode cX6_countThings 2 = .ok (.iconst 0, 1) := by decide +kernel
theorem dX6_countThings_3 : decode cX6_countThings 3 = .ok (.istore_n 3, 1) := by decide +kernel
theorem dX6_countThings_4 : decode cX6_countThings 4 = .ok (.iconst 0, 1) := by decide +kernel
theorem dX6_countThings_5 : decode cX6_countThings 5 = .ok (.istore 4, 2) := by decide +kernel
theorem dX6_countThings_7 : decode cX6_countThings 7 = .ok (.iload 4, 2) := by decide +kernel
theorem dX6_countThings_9 : decode cX6_countThings 9 = .ok (.aload_n 0, 1) := by decide +kernel
theorem dX6_countThings_10 : decode cX6_countThings 10 = .ok (.getfield 20, 3) := by decide +kernel
theorem dX6_countThings_13 : decode cX6_countThings 13 = .ok (.if_icmp .ge 50, 3) := by decide +kernel
theorem dX6_countThings_16 : decode cX6_countThings 16 = .ok (.iload_n 3, 1) := by decide +kernel
theorem dX6_countThings_17 : decode cX6_countThings 17 = .ok (.iload 4, 2) := by decide +kernel
theorem dX6_countThings_19 : decode cX6_countThings 19 = .ok (.invokestatic 33, 3) := by decide +kernel
theorem dX6_countThings_22 : decode cX6_countThings 22 = .ok (.ifCond .eq 6, 3) := by decide +kernel
theorem dX6_countThings_25 : decode cX6_countThings 25 = .ok (.goto 32, 3) := by decide +kernel
theorem dX6_countThings_28 : decode cX6_countThings 28 = .ok (.aload_n 0, 1) := by decide +kernel
theorem dX6_countThings_29 : decode cX6_countThings 29 = .ok (.iload 4, 2) := by decide +kernel
theorem dX6_countThings_31 : decode cX6_countThings 31 = .ok (.invokevirtual 44, 3) := by decide +kernel
theorem dX6_countThings_34 : decode cX6_countThings 34 = .ok (.istore 5, 2) := by decide +kernel
theorem dX6_countThings_36 : decode cX6_countThings 36 = .ok (.iload_n 3, 1) := by decide +kernel
theorem dX6_countThings_37 : decode cX6_countThings 37 = .ok (.iload 5, 2) := by decide +kernel
theorem dX6_countThings_39 : decode cX6_countThings 39 = .ok (.ior, 1) := by decide +kernel
theorem dX6_countThings_40 : decode cX6_countThings 40 = .ok (.istore_n 3, 1) := by decide +kernel
theorem dX6_countThings_41 : decode cX6_countThings 41 = .ok (.iload_n 1, 1) := by decide +kernel
theorem dX6_countThings_42 : decode cX6_countThings 42 = .ok (.ifCond .eq 12, 3) := by decide +kernel
theorem dX6_countThings_45 : decode cX6_countThings 45 = .ok (.aload_n 0, 1) := by decide +kernel
theorem dX6_countThings_46 : decode cX6_countThings 46 = .ok (.iload 5, 2) := by decide +kernel
theorem dX6_countThings_48 : decode cX6_countThings 48 = .ok (.invokevirtual 47, 3) := by decide +kernel
theorem dX6_countThings_51 : decode cX6_countThings 51 = .ok (.ifCond .eq 6, 3) := by decide +kernel
theorem dX6_countThings_54 : decode cX6_countThings 54 = .ok (.iinc 2 1, 3) := by decide +kernel
theorem dX6_countThings_57 : decode cX6_countThings 57 = .ok (.iinc 4 1, 3) := by decide +kernel
theorem dX6_countThings_60 : decode cX6_countThings 60 = .ok (.goto (-53), 3) := by decide +kernel
theorem dX6_countThings_63 : decode cX6_countThings 63 = .ok (.iload_n 2, 1) := by decide +kernel
theorem dX6_countThings_64 : decode cX6_countThings 64 = .ok (.ireturn, 1) := by decide +kernel
theorem dX6_tellsCopy_0 : decode cX6_tellsCopy 0 = .ok (.iconst 0, 1) := by decide +kernel
theorem dX6_tellsCopy_1 : decode cX6_tellsCopy 1 = .ok (.istore_n 2, 1) := by decide +kernel
theorem dX6_tellsCopy_2 : decode cX6_tellsCopy 2 = .ok (.iload_n 2, 1) := by decide +kernel
theorem dX6_tellsCopy_3 : decode cX6_tellsCopy 3 = .ok (.aload_n 0, 1) := by decide +kernel
theorem dX6_tellsCopy_4 : decode cX6_tellsCopy 4 = .ok (.getfield 20, 3) := by decide +kernel
theorem dX6_tellsCopy_7 : decode cX6_tellsCopy 7 = .ok (.if_icmp .ge 54, 3) := by decide +kernel
theorem dX6_tellsCopy_10 : decode cX6_tellsCopy 10 = .ok (.iload_n 2, 1) := by decide +kernel
theorem dX6_tellsCopy_11 : decode cX6_tellsCopy 11 = .ok (.iconst 1, 1) := by decide +kernel
theorem dX6_tellsCopy_12 : decode cX6_tellsCopy 12 = .ok (.iadd, 1) := by decide +kernel
theorem dX6_tellsCopy_13 : decode cX6_tellsCopy 13 = .ok (.istore_n 3, 1) := by decide +kernel
theorem dX6_tellsCopy_14 : decode cX6_tellsCopy 14 = .ok (.iload_n 3, 1) := by decide +kernel
theorem dX6_tellsCopy_15 : decode cX6_tellsCopy 15 = .ok (.aload_n 0, 1) := by decide +kernel
theorem dX6_tellsCopy_16 : decode cX6_tellsCopy 16 = .ok (.getfield 20, 3) := by decide +kernel
theorem dX6_tellsCopy_19 : decode cX6_tellsCopy 19 = .ok (.if_icmp .ge 36, 3) := by decide +kernel
theorem dX6_tellsCopy_22 : decode cX6_tellsCopy 22 = .ok (.iload_n 1, 1) := by decide +kernel
theorem dX6_tellsCopy_23 : decode cX6_tellsCopy 23 = .ok (.iload_n 2, 1) := by decide +kernel
theorem dX6_tellsCopy_24 : decode cX6_tellsCopy 24 = .ok (.invokestatic 33, 3) := by decide +kernel
theorem dX6_tellsCopy_27 : decode cX6_tellsCopy 27 = .ok (.ifCond .eq 22, 3) := by decide +kernel
theorem dX6_tellsCopy_30 : decode cX6_tellsCopy 30 = .ok (.iload_n 1, 1) := by decide +kernel
theorem dX6_tellsCopy_31 : decode cX6_tellsCopy 31 = .ok (.iload_n 3, 1) := by decide +kernel
theorem dX6_tellsCopy_32 : decode cX6_tellsCopy 32 = .ok (.invokestatic 33, 3) := by decide +kernel
theorem dX6_tellsCopy_35 : decode cX6_tellsCopy 35 = .ok (.ifCond .eq 14, 3) := by decide +kernel
theorem dX6_tellsCopy_38 : decode cX6_tellsCopy 38 = .ok (.aload_n 0, 1) := by decide +kernel
theorem dX6_tellsCopy_39 : decode cX6_tellsCopy 39 = .ok (.iload_n 2, 1) := by decide +kernel
theorem dX6_tellsCopy_40 : decode cX6_tellsCopy 40 = .ok (.iload_n 3, 1) := by decide +kernel
theorem dX6_tellsCopy_41 : decode cX6_tellsCopy 41 = .ok (.invokevirtual 23, 3) := by decide +kernel
theorem dX6_tellsCopy_44 : decode cX6_tellsCopy 44 = .ok (.ifCond .eq 5, 3) := by decide +kernel
theorem dX6_tellsCopy_47 : decode cX6_tellsCopy 47 = .ok (.iconst 1, 1) := by decide +kernel
theorem dX6_tellsCopy_48 : decode cX6_tellsCopy 48 = .ok (.ireturn, 1) := by decide +kernel
theorem dX6_tellsCopy_49 : decode cX6_tellsCopy 49 = .ok (.iinc 3 1, 3) := by decide +kernel
theorem dX6_tellsCopy_52 : decode cX6_tellsCopy 52 = .ok (.goto (-38), 3) := by decide +kernel
theorem dX6_tellsCopy_55 : decode cX6_tellsCopy 55 = .ok (.iinc 2 1, 3) := by decide +kernel
theorem dX6_tellsCopy_58 : decode cX6_tellsCopy 58 = .ok (.goto (-56), 3) := by decide +kernel
theorem dX6_tellsCopy_61 : decode cX6_tellsCopy 61 = .ok (.iconst 0, 1) := by decide +kernel
theorem dX6_tellsCopy_62 : decode cX6_tellsCopy 62 = .ok (.ireturn, 1) := by decide +kernel
theorem dX7_init_0 : decode cX7_init 0 = .ok (.aload_n 0, 1) := by decide +kernel
theorem dX7_init_1 : decode cX7_init 1 = .ok (.invokespecial 1, 3) := by decide +kernel
theorem dX7_init_4 : decode cX7_init 4 = .ok (.aload_n 0, 1) := by decide +kernel
theorem dX7_init_5 : decode cX7_init 5 = .ok (.iconst 4, 1) := by decide +kernel
theorem dX7_init_6 : decode cX7_init 6 = .ok (.newarray .int, 2) := by decide +kernel
theorem dX7_init_8 : decode cX7_init 8 = .ok (.dup, 1) := by decide +kernel
theorem dX7_init_9 : decode cX7_init 9 = .ok (.iconst 0, 1) := by decide +kernel
theorem dX7_init_10 : decode cX7_init 10 = .ok (.iconst (-1), 1) := by decide +kernel
theorem dX7_init_11 : decode cX7_init 11 = .ok (.iastore, 1) := by decide +kernel
theorem dX7_init_12 : decode cX7_init 12 = .ok (.dup, 1) := by decide +kernel
theorem dX7_init_13 : decode cX7_init 13 = .ok (.iconst 1, 1) := by decide +kernel
theorem dX7_init_14 : decode cX7_init 14 = .ok (.iconst (-1), 1) := by decide +kernel
theorem dX7_init_15 : decode cX7_init 15 = .ok (.iastore, 1) := by decide +kernel
theorem dX7_init_16 : decode cX7_init 16 = .ok (.dup, 1) := by decide +kernel
theorem dX7_init_17 : decode cX7_init 17 = .ok (.iconst 2, 1) := by decide +kernel
theorem dX7_init_18 : decode cX7_init 18 = .ok (.iconst (-1), 1) := by decide +kernel
theorem dX7_init_19 : decode cX7_init 19 = .ok (.iastore, 1) := by decide +kernel
theorem dX7_init_20 : decode cX7_init 20 = .ok (.dup, 1) := by decide +kernel
theorem dX7_init_21 : decode cX7_init 21 = .ok (.iconst 3, 1) := by decide +kernel
theorem dX7_init_22 : decode cX7_init 22 = .ok (.iconst (-1), 1) := by decide +kernel
theorem dX7_init_23 : decode cX7_init 23 = .ok (.iastore, 1) := by decide +kernel
theorem dX7_init_24 : decode cX7_init 24 = .ok (.putfield 9, 3) := by decide +kernel
theorem dX7_init_27 : decode cX7_init 27 = .ok (.aload_n 0, 1) := by decide +kernel
theorem dX7_init_28 : decode cX7_init 28 = .ok (.iconst 4, 1) := by decide +kernel
theorem dX7_init_29 : decode cX7_init 29 = .ok (.newarray .int, 2) := by decide +kernel
theorem dX7_init_31 : decode cX7_init 31 = .ok (.putfield 13, 3) := by decide +kernel
theorem dX7_init_34 : decode cX7_init 34 = .ok (.aload_n 0, 1) := by decide +kernel
theorem dX7_init_35 : decode cX7_init 35 = .ok (.sipush 160, 3) := by decide +kernel
theorem dX7_init_38 : decode cX7_init 38 = .ok (.newarray .int, 2) := by decide +kernel
theorem dX7_init_40 : decode cX7_init 40 = .ok (.putfield 16, 3) := by decide +kernel
theorem dX7_init_43 : decode cX7_init 43 = .ok (.return_, 1) := by decide +kernel
theorem dX7_isSheet_0 : decode cX7_isSheet 0 = .ok (.iload_n 0, 1) := by decide +kernel
theorem dX7_isSheet_1 : decode cX7_isSheet 1 = .ok (.ifCond .lt 12, 3) := by decide +kernel
theorem dX7_isSheet_4 : decode cX7_isSheet 4 = .ok (.iload_n 0, 1) := by decide +kernel
theorem dX7_isSheet_5 : decode cX7_isSheet 5 = .ok (.iconst 4, 1) := by decide +kernel
theorem dX7_isSheet_6 : decode cX7_isSheet 6 = .ok (.if_icmp .ge 7, 3) := by decide +kernel
theorem dX7_isSheet_9 : decode cX7_isSheet 9 = .ok (.iconst 1, 1) := by decide +kernel
theorem dX7_isSheet_10 : decode cX7_isSheet 10 = .ok (.goto 4, 3) := by decide +kernel
theorem dX7_isSheet_13 : decode cX7_isSheet 13 = .ok (.iconst 0, 1) := by decide +kernel
theorem dX7_isSheet_14 : decode cX7_isSheet 14 = .ok (.ireturn, 1) := by decide +kernel
theorem dX7_isSort_0 : decode cX7_isSort 0 = .ok (.iload_n 0, 1) := by decide +kernel
theorem dX7_isSort_1 : decode cX7_isSort 1 = .ok (.ifCond .lt 12, 3) := by decide +kernel
theorem dX7_isSort_4 : decode cX7_isSort 4 = .ok (.iload_n 0, 1) := by decide +kernel
theorem dX7_isSort_5 : decode cX7_isSort 5 = .ok (.iconst 3, 1) := by decide +kernel
theorem dX7_isSort_6 : decode cX7_isSort 6 = .ok (.if_icmp .ge 7, 3) := by decide +kernel
theorem dX7_isSort_9 : decode cX7_isSort 9 = .ok (.iconst 1, 1) := by decide +kernel
theorem dX7_isSort_10 : decode cX7_isSort 10 = .ok (.goto 4, 3) := by decide +kernel
theorem dX7_isSort_13 : decode cX7_isSort 13 = .ok (.iconst 0, 1) := by decide +kernel
theorem dX7_isSort_14 : decode cX7_isSort 14 = .ok (.ireturn, 1) := by decide +kernel
theorem dX7_isMissing_0 : decode cX7_isMissing 0 = .ok (.aload_n 0, 1) := by decide +kernel
theorem dX7_isMissing_1 : decode cX7_isMissing 1 = .ok (.getfield 9, 3) := by decide +kernel
theorem dX7_isMissing_4 : decode cX7_isMissing 4 = .ok (.iload_n 1, 1) := by decide +kernel
theorem dX7_isMissing_5 : decode cX7_isMissing 5 = .ok (.iaload, 1) := by decide +kernel
theorem dX7_isMissing_6 : decode cX7_isMissing 6 = .ok (.iconst (-1), 1) := by decide +kernel
theorem dX7_isMissing_7 : decode cX7_isMissing 7 = .ok (.if_icmp .ne 7, 3) := by decide +kernel
theorem dX7_isMissing_10 : decode cX7_isMissing 10 = .ok (.iconst 1, 1) := by decide +kernel
theorem dX7_isMissing_11 : decode cX7_isMissing 11 = .ok (.goto 4, 3) := by decide +kernel
theorem dX7_isMissing_14 : decode cX7_isMissing 14 = .ok (.iconst 0, 1) := by decide +kernel
theorem dX7_isMissing_15 : decode cX7_isMissing 15 = .ok (.ireturn, 1) := by decide +kernel
theorem dX7_lose_0 : decode cX7_lose 0 = .ok (.aload_n 0, 1) := by decide +kernel
theorem dX7_lose_1 : decode cX7_lose 1 = .ok (.getfield 9, 3) := by decide +kernel
theorem dX7_lose_4 : decode cX7_lose 4 = .ok (.iload_n 1, 1) := by decide +kernel
theorem dX7_lose_5 : decode cX7_lose 5 = .ok (.iconst (-1), 1) := by decide +kernel
theorem dX7_lose_6 : decode cX7_lose 6 = .ok (.iastore, 1) := by decide +kernel
theorem dX7_lose_7 : decode cX7_lose 7 = .ok (.iconst 1, 1) := by decide +kernel
theorem dX7_lose_8 : decode cX7_lose 8 = .ok (.ireturn, 1) := by decide +kernel
theorem dX7_lay_0 : decode cX7_lay 0 = .ok (.aload_n 0, 1) := by decide +kernel
theorem dX7_lay_1 : decode cX7_lay 1 = .ok (.getfield 9, 3) := by decide +kernel
theorem dX7_lay_4 : decode cX7_lay 4 = .ok (.iload_n 1, 1) := by decide +kernel
theorem dX7_lay_5 : decode cX7_lay 5 = .ok (.iload_n 2, 1) := by decide +kernel
theorem dX7_lay_6 : decode cX7_lay 6 = .ok (.iastore, 1) := by decide +kernel
theorem dX7_lay_7 : decode cX7_lay 7 = .ok (.aload_n 0, 1) := by decide +kernel
theorem dX7_lay_8 : decode cX7_lay 8 = .ok (.getfield 13, 3) := by decide +kernel
theorem dX7_lay_11 : decode cX7_lay 11 = .ok (.iload_n 1, 1) := by decide +kernel
theorem dX7_lay_12 : decode cX7_lay 12 = .ok (.iload_n 3, 1) := by decide +kernel
theorem dX7_lay_13 : decode cX7_lay 13 = .ok (.iastore, 1) := by decide +kernel
theorem dX7_lay_14 : decode cX7_lay 14 = .ok (.iconst 0, 1) := by decide +kernel
theorem dX7_lay_15 : decode cX7_lay 15 = .ok (.istore 4, 2) := by decide +kernel
theorem dX7_lay_17 : decode cX7_lay 17 = .ok (.iload 4, 2) := by decide +kernel
theorem dX7_lay_19 : decode cX7_lay 19 = .ok (.iload_n 3, 1) := by decide +kernel
theorem dX7_lay_20 : decode cX7_lay 20 = .ok (.if_icmp .ge 22, 3) := by decide +kernel
theorem dX7_lay_23 : decode cX7_lay 23 = .ok (.aload_n 0, 1) := by decide +kernel
theorem dX7_lay_24 : decode cX7_lay 24 = .ok (.getfield 16, 3) := by decide +kernel
theorem dX7_lay_27 : decode cX7_lay 27 = .ok (.iload_n 1, 1) := by decide +kernel
theorem dX7_lay_28 : decode cX7_lay 28 = .ok (.bipush 40, 2) := by decide +kernel
theorem dX7_lay_30 : decode cX7_lay 30 = .ok (.imul, 1) := by decide +kernel
theorem dX7_lay_31 : decode cX7_lay 31 = .ok (.iload 4, 2) := by decide +kernel
theorem dX7_lay_33 : decode cX7_lay 33 = .ok (.iadd, 1) := by decide +kernel
theorem dX7_lay_34 : decode cX7_lay 34 = .ok (.iconst 0, 1) := by decide +kernel
theorem dX7_lay_35 : decode cX7_lay 35 = .ok (.iastore, 1) := by decide +kernel
theorem dX7_lay_36 : decode cX7_lay 36 = .ok (.iinc 4 1, 3) := by decide +kernel
theorem dX7_lay_39 : decode cX7_lay 39 = .ok (.goto (-22), 3) := by decide +kernel
theorem dX7_lay_42 : decode cX7_lay 42 = .ok (.iconst 1, 1) := by decide +kernel
theorem dX7_lay_43 : decode cX7_lay 43 = .ok (.ireturn, 1) := by decide +kernel
theorem dX7_holds_0 : decode cX7_holds 0 = .ok (.iload_n 2, 1) := by decide +kernel
theorem dX7_holds_1 : decode cX7_holds 1 = .ok (.ifCond .lt 23, 3) := by decide +kernel
theorem dX7_holds_4 : decode cX7_holds 4 = .ok (.iload_n 3, 1) := by decide +kernel
theorem dX7_holds_5 : decode cX7_holds 5 = .ok (.ifCond .lt 19, 3) := by decide +kernel
theorem dX7_holds_8 : decode cX7_holds 8 = .ok (.iload_n 2, 1) := by decide +kernel
theorem dX7_holds_9 : decode cX7_holds 9 = .ok (.aload_n 0, 1) := by decide +kernel
theorem dX7_holds_10 : decode cX7_holds 10 = .ok (.getfield 13, 3) := by decide +kernel
theorem dX7_holds_13 : decode cX7_holds 13 = .ok (.iload_n 1, 1) := by decide +kernel
theorem dX7_holds_14 : decode cX7_holds 14 = .ok (.iaload, 1) := by decide +kernel
theorem dX7_holds_15 : decode cX7_holds 15 = .ok (.iload_n 3, 1) := by decide +kernel
theorem dX7_holds_16 : decode cX7_holds 16 = .ok (.isub, 1) := by decide +kernel
theorem dX7_holds_17 : decode cX7_holds 17 = .ok (.if_icmp .gt 7, 3) := by decide +kernel
theorem dX7_holds_20 : decode cX7_holds 20 = .ok (.iconst 1, 1) := by decide +kernel
theorem dX7_holds_21 : decode cX7_holds 21 = .ok (.goto 4, 3) := by decide +kernel
theorem dX7_holds_24 : decode cX7_holds 24 = .ok (.iconst 0, 1) := by decide +kernel
theorem dX7_holds_25 : decode cX7_holds 25 = .ok (.ireturn, 1) := by decide +kernel
theorem dX7_write_0 : decode cX7_write 0 = .ok (.aload_n 0, 1) := by decide +kernel
theorem dX7_write_1 : decode cX7_write 1 = .ok (.getfield 16, 3) := by decide +kernel
theorem dX7_write_4 : decode cX7_write 4 = .ok (.iload_n 1, 1) := by decide +kernel
theorem dX7_write_5 : decode cX7_write 5 = .ok (.bipush 40, 2) := by decide +kernel
theorem dX7_write_7 : decode cX7_write 7 = .ok (.imul, 1) := by decide +kernel
theorem dX7_write_8 : decode cX7_write 8 = .ok (.iload_n 2, 1) := by decide +kernel
theorem dX7_write_9 : decode cX7_write 9 = .ok (.iadd, 1) := by decide +kernel
theorem dX7_write_10 : decode cX7_write 10 = .ok (.aload_n 0, 1) := by decide +kernel
theorem dX7_write_11 : decode cX7_write 11 = .ok (.getfield 9, 3) := by decide +kernel
theorem dX7_write_14 : decode cX7_write 14 = .ok (.iload_n 1, 1) := by decide +kernel
theorem dX7_write_15 : decode cX7_write 15 = .ok (.iaload, 1) := by decide +kernel
theorem dX7_write_16 : decode cX7_write 16 = .ok (.iload_n 3, 1) := by decide +kernel
theorem dX7_write_17 : decode cX7_write 17 = .ok (.invokestatic 19, 3) := by decide +kernel
theorem dX7_write_20 : decode cX7_write 20 = .ok (.iastore, 1) := by decide +kernel
theorem dX7_write_21 : decode cX7_write 21 = .ok (.iconst 1, 1) := by decide +kernel
theorem dX7_write_22 : decode cX7_write 22 = .ok (.ireturn, 1) := by decide +kernel
theorem dX7_read_0 : decode cX7_read 0 = .ok (.aload_n 0, 1) := by decide +kernel
theorem dX7_read_1 : decode cX7_read 1 = .ok (.getfield 16, 3) := by decide +kernel
theorem dX7_read_4 : decode cX7_read 4 = .ok (.iload_n 1, 1) := by decide +kernel
theorem dX7_read_5 : decode cX7_read 5 = .ok (.bipush 40, 2) := by decide +kernel
theorem dX7_read_7 : decode cX7_read 7 = .ok (.imul, 1) := by decide +kernel
theorem dX7_read_8 : decode cX7_read 8 = .ok (.iload_n 2, 1) := by decide +kernel
theorem dX7_read_9 : decode cX7_read 9 = .ok (.iadd, 1) := by decide +kernel
theorem dX7_read_10 : decode cX7_read 10 = .ok (.iaload, 1) := by decide +kernel
theorem dX7_read_11 : decode cX7_read 11 = .ok (.ireturn, 1) := by decide +kernel
theorem dX7_move_0 : decode cX7_move 0 = .ok (.aload_n 0, 1) := by decide +kernel
theorem dX7_move_1 : decode cX7_move 1 = .ok (.getfield 16, 3) := by decide +kernel
theorem dX7_move_4 : decode cX7_move 4 = .ok (.iload_n 1, 1) := by decide +kernel
theorem dX7_move_5 : decode cX7_move 5 = .ok (.bipush 40, 2) := by decide +kernel
theorem dX7_move_7 : decode cX7_move 7 = .ok (.imul, 1) := by decide +kernel
theorem dX7_move_8 : decode cX7_move 8 = .ok (.iload_n 2, 1) := by decide +kernel
theorem dX7_move_9 : decode cX7_move 9 = .ok (.iadd, 1) := by decide +kernel
theorem dX7_move_10 : decode cX7_move 10 = .ok (.aload_n 0, 1) := by decide +kernel
theorem dX7_move_11 : decode cX7_move 11 = .ok (.getfield 16, 3) := by decide +kernel
theorem dX7_move_14 : decode cX7_move 14 = .ok (.iload_n 3, 1) := by decide +kernel
theorem dX7_move_15 : decode cX7_move 15 = .ok (.bipush 40, 2) := by decide +kernel
theorem dX7_move_17 : decode cX7_move 17 = .ok (.imul, 1) := by decide +kernel
theorem dX7_move_18 : decode cX7_move 18 = .ok (.iload 4, 2) := by decide +kernel
theorem dX7_move_20 : decode cX7_move 20 = .ok (.iadd, 1) := by decide +kernel
theorem dX7_move_21 : decode cX7_move 21 = .ok (.iload 5, 2) := by decide +kernel
theorem dX7_move_23 : decode cX7_move 23 = .ok (.invokestatic 23, 3) := by decide +kernel
theorem dX7_move_26 : decode cX7_move 26 = .ok (.iload 5, 2) := by decide +kernel
theorem dX7_move_28 : decode cX7_move 28 = .ok (.ireturn, 1) := by decide +kernel
theorem dX7_cut_0 : decode cX7_cut 0 = .ok (.iload_n 0, 1) := by decide +kernel
theorem dX7_cut_1 : decode cX7_cut 1 = .ok (.ifCond .ne 6, 3) := by decide +kernel
theorem dX7_cut_4 : decode cX7_cut 4 = .ok (.iload_n 1, 1) := by decide +kernel
theorem dX7_cut_5 : decode cX7_cut 5 = .ok (.i2b, 1) := by decide +kernel
theorem dX7_cut_6 : decode cX7_cut 6 = .ok (.ireturn, 1) := by decide +kernel
theorem dX7_cut_7 : decode cX7_cut 7 = .ok (.iload_n 0, 1) := by decide +kernel
theorem dX7_cut_8 : decode cX7_cut 8 = .ok (.iconst 1, 1) := by decide +kernel
theorem dX7_cut_9 : decode cX7_cut 9 = .ok (.if_icmp .ne 8, 3) := by decide +kernel
theorem dX7_cut_12 : decode cX7_cut 12 = .ok (.iload_n 1, 1) := by decide +kernel
theorem dX7_cut_13 : decode cX7_cut 13 = .ok (.i2s, 1) := by decide +kernel
theorem dX7_cut_14 : decode cX7_cut 14 = .ok (.goto 4, 3) := by decide +kernel
theorem dX7_cut_17 : decode cX7_cut 17 = .ok (.iload_n 1, 1) := by decide +kernel
theorem dX7_cut_18 : decode cX7_cut 18 = .ok (.ireturn, 1) := by decide +kernel
theorem dX8_init_0 : decode cX8_init 0 = .ok (.aload_n 0, 1) := by decide +kernel
theorem dX8_init_1 : decode cX8_init 1 = .ok (.invokespecial 1, 3) := by decide +kernel
theorem dX8_init_4 : decode cX8_init 4 = .ok (.aload_n 0, 1) := by decide +kernel
theorem dX8_init_5 : decode cX8_init 5 = .ok (.bipush 8, 2) := by decide +kernel
theorem dX8_init_7 : decode cX8_init 7 = .ok (.newarray .int, 2) := by decide +kernel
theorem dX8_init_9 : decode cX8_init 9 = .ok (.putfield 9, 3) := by decide +kernel
theorem dX8_init_12 : decode cX8_init 12 = .ok (.aload_n 0, 1) := by decide +kernel
theorem dX8_init_13 : decode cX8_init 13 = .ok (.bipush 8, 2) := by decide +kernel
theorem dX8_init_15 : decode cX8_init 15 = .ok (.newarray .int, 2) := by decide +kernel
theorem dX8_init_17 : decode cX8_init 17 = .ok (.putfield 13, 3) := by decide +kernel
theorem dX8_init_20 : decode cX8_init 20 = .ok (.aload_n 0, 1) := by decide +kernel
theorem dX8_init_21 : decode cX8_init 21 = .ok (.bipush 8, 2) := by decide +kernel
theorem dX8_init_23 : decode cX8_init 23 = .ok (.newarray .int, 2) := by decide +kernel
theorem dX8_init_25 : decode cX8_init 25 = .ok (.putfield 16, 3) := by decide +kernel
theorem dX8_init_28 : decode cX8_init 28 = .ok (.aload_n 0, 1) := by decide +kernel
theorem dX8_init_29 : decode cX8_init 29 = .ok (.sipush 256, 3) := by decide +kernel
theorem dX8_init_32 : decode cX8_init 32 = .ok (.newarray .int, 2) := by decide +kernel
theorem dX8_init_34 : decode cX8_init 34 = .ok (.putfield 19, 3) := by decide +kernel
theorem dX8_init_37 : decode cX8_init 37 = .ok (.return_, 1) := by decide +kernel
theorem dX8_isEdge_0 : decode cX8_isEdge 0 = .ok (.iload_n 0, 1) := by decide +kernel
theorem dX8_isEdge_1 : decode cX8_isEdge 1 = .ok (.ifCond .lt 14, 3) := by decide +kernel
theorem dX8_isEdge_4 : decode cX8_isEdge 4 = .ok (.iload_n 0, 1) := by decide +kernel
theorem dX8_isEdge_5 : decode cX8_isEdge 5 = .ok (.sipush 9999, 3) := by decide +kernel
theorem dX8_isEdge_8 : decode cX8_isEdge 8 = .ok (.if_icmp .gt 7, 3) := by decide +kernel
theorem dX8_isEdge_11 : decode cX8_isEdge 11 = .ok (.iconst 1, 1) := by decide +kernel
theorem dX8_isEdge_12 : decode cX8_isEdge 12 = .ok (.goto 4, 3) := by decide +kernel
theorem dX8_isEdge_15 : decode cX8_isEdge 15 = .ok (.iconst 0, 1) := by decide +kernel
theorem dX8_isEdge_16 : decode cX8_isEdge 16 = .ok (.ireturn, 1) := by decide +kernel
theorem dX8_has_0 : decode cX8_has 0 = .ok (.iload_n 1, 1) := by decide +kernel
theorem dX8_has_1 : decode cX8_has 1 = .ok (.ifCond .lt 15, 3) := by decide +kernel
theorem dX8_has_4 : decode cX8_has 4 = .ok (.iload_n 1, 1) := by decide +kernel
theorem dX8_has_5 : decode cX8_has 5 = .ok (.aload_n 0, 1) := by decide +kernel
theorem dX8_has_6 : decode cX8_has 6 = .ok (.getfield 22, 3) := by decide +kernel
theorem dX8_has_9 : decode cX8_has 9 = .ok (.if_icmp .ge 7, 3) := by decide +kernel
theorem dX8_has_12 : decode cX8_has 12 = .ok (.iconst 1, 1) := by decide +kernel
theorem dX8_has_13 : decode cX8_has 13 = .ok (.goto 4, 3) := by decide +kernel
theorem dX8_has_16 : decode cX8_has 16 = .ok (.iconst 0, 1) := by decide +kernel
theorem dX8_has_17 : decode cX8_has 17 = .ok (.ireturn, 1) := by decide +kernel
theorem dX8_add_0 : decode cX8_add 0 = .ok (.aload_n 0, 1) := by decide +kernel
theorem dX8_add_1 : decode cX8_add 1 = .ok (.getfield 9, 3) := by decide +kernel
theorem dX8_add_4 : decode cX8_add 4 = .ok (.aload_n 0, 1) := by decide +kernel
theorem dX8_add_5 : decode cX8_add 5 = .ok (.getfield 22, 3) := by decide +kernel
theorem dX8_add_8 : decode cX8_add 8 = .ok (.iload_n 1, 1) := by decide +kernel
theorem dX8_add_9 : decode cX8_add 9 = .ok (.iastore, 1) := by decide +kernel
theorem dX8_add_10 : decode cX8_add 10 = .ok (.aload_n 0, 1) := by decide +kernel
theorem dX8_add_11 : decode cX8_add 11 = .ok (.getfield 13, 3) := by decide +kernel
theorem dX8_add_14 : decode cX8_add 14 = .ok (.aload_n 0, 1) := by decide +kernel
theorem dX8_add_15 : decode cX8_add 15 = .ok (.getfield 22, 3) := by decide +kernel
theorem dX8_add_18 : decode cX8_add 18 = .ok (.iload_n 2, 1) := by decide +kernel
theorem dX8_add_19 : decode cX8_add 19 = .ok (.iastore, 1) := by decide +kernel
theorem dX8_add_20 : decode cX8_add 20 = .ok (.aload_n 0, 1) := by decide +kernel
theorem dX8_add_21 : decode cX8_add 21 = .ok (.dup, 1) := by decide +kernel
theorem dX8_add_22 : decode cX8_add 22 = .ok (.getfield 22, 3) := by decide +kernel
theorem dX8_add_25 : decode cX8_add 25 = .ok (.dup_x1, 1) := by decide +kernel
theorem dX8_add_26 : decode cX8_add 26 = .ok (.iconst 1, 1) := by decide +kernel
theorem dX8_add_27 : decode cX8_add 27 = .ok (.iadd, 1) := by decide +kernel
theorem dX8_add_28 : decode cX8_add 28 = .ok (.putfield 22, 3) := by decide +kernel
theorem dX8_add_31 : decode cX8_add 31 = .ok (.ireturn, 1) := by decide +kernel
theorem dX8_fits_0 : decode cX8_fits 0 = .ok (.aload_n 0, 1) := by decide +kernel
theorem dX8_fits_1 : decode cX8_fits 1 = .ok (.getfield 13, 3) := by decide +kernel
theorem dX8_fits_4 : decode cX8_fits 4 = .ok (.iload_n 1, 1) := by decide +kernel
theorem dX8_fits_5 : decode cX8_fits 5 = .ok (.iaload, 1) := by decide +kernel
theorem dX8_fits_6 : decode cX8_fits 6 = .ok (.istore_n 3, 1) := by decide +kernel
theorem dX8_fits_7 : decode cX8_fits 7 = .ok (.aload_n 0, 1) := by decide +kernel
theorem dX8_fits_8 : decode cX8_fits 8 = .ok (.getfield 9, 3) := by decide +kernel
theorem dX8_fits_11 : decode cX8_fits 11 = .ok (.iload_n 2, 1) := by decide +kernel
theorem dX8_fits_12 : decode cX8_fits 12 = .ok (.iaload, 1) := by decide +kernel
theorem dX8_fits_13 : decode cX8_fits 13 = .ok (.istore 4, 2) := by decide +kernel
theorem dX8_fits_15 : decode cX8_fits 15 = .ok (.iconst 0, 1) := by decide +kernel
theorem dX8_fits_16 : decode cX8_fits 16 = .ok (.istore 5, 2) := by decide +kernel
theorem dX8_fits_18 : decode cX8_fits 18 = .ok (.iconst 0, 1) := by decide +kernel
theorem dX8_fits_19 : decode cX8_fits 19 = .ok (.istore 6, 2) := by decide +kernel
theorem dX8_fits_21 : decode cX8_fits 21 = .ok (.iload 6, 2) := by decide +kernel
theorem dX8_fits_23 : decode cX8_fits 23 = .ok (.iconst 4, 1) := by decide +kernel
theorem dX8_fits_24 : decode cX8_fits 24 = .ok (.if_icmp .ge 39, 3) := by decide +kernel
theorem dX8_fits_27 : decode cX8_fits 27 = .ok (.iload_n 3, 1) := by decide +kernel
theorem dX8_fits_28 : decode cX8_fits 28 = .ok (.bipush 10, 2) := by decide +kernel
theorem dX8_fits_30 : decode cX8_fits 30 = .ok (.irem, 1) := by decide +kernel
theorem dX8_fits_31 : decode cX8_fits 31 = .ok (.iload 4, 2) := by decide +kernel
theorem dX8_fits_33 : decode cX8_fits 33 = .ok (.bipush 10, 2) := by decide +kernel
theorem dX8_fits_35 : decode cX8_fits 35 = .ok (.irem, 1) := by decide +kernel
theorem dX8_fits_36 : decode cX8_fits 36 = .ok (.iadd, 1) := by decide +kernel
theorem dX8_fits_37 : decode cX8_fits 37 = .ok (.bipush 9, 2) := by decide +kernel
theorem dX8_fits_39 : decode cX8_fits 39 = .ok (.if_icmp .eq 6, 3) := by decide +kernel
theorem dX8_fits_42 : decode cX8_fits 42 = .ok (.iinc 5 1, 3) := by decide +kernel
theorem dX8_fits_45 : decode cX8_fits 45 = .ok (.iload_n 3, 1) := by decide +kernel
theorem dX8_fits_46 : decode cX8_fits 46 = .ok (.bipush 10, 2) := by decide +kernel
theorem dX8_fits_48 : decode cX8_fits 48 = .ok (.idiv, 1) := by decide +kernel
theorem dX8_fits_49 : decode cX8_fits 49 = .ok (.istore_n 3, 1) := by decide +kernel
theorem dX8_fits_50 : decode cX8_fits 50 = .ok (.iload 4, 2) := by decide +kernel
theorem dX8_fits_52 : decode cX8_fits 52 = .ok (.bipush 10, 2) := by decide +kernel
theorem dX8_fits_54 : decode cX8_fits 54 = .ok (.idiv, 1) := by decide +kernel
theorem dX8_fits_55 : decode cX8_fits 55 = .ok (.istore 4, 2) := by decide +kernel
theorem dX8_fits_57 : decode cX8_fits 57 = .ok (.iinc 6 1, 3) := by decide +kernel
theorem dX8_fits_60 : decode cX8_fits 60 = .ok (.goto (-39), 3) := by decide +kernel
theorem dX8_fits_63 : decode cX8_fits 63 = .ok (.iload 5, 2) := by decide +kernel
theorem dX8_fits_65 : decode cX8_fits 65 = .ok (.aload_n 0, 1) := by decide +kernel
theorem dX8_fits_66 : decode cX8_fits 66 = .ok (.getfield 26, 3) := by decide +kernel
theorem dX8_fits_69 : decode cX8_fits 69 = .ok (.if_icmp .gt 7, 3) := by decide +kernel
theorem dX8_fits_72 : decode cX8_fits 72 = .ok (.iconst 1, 1) := by decide +kernel
theorem dX8_fits_73 : decode cX8_fits 73 = .ok (.goto 4, 3) := by decide +kernel
theorem dX8_fits_76 : decode cX8_fits 76 = .ok (.iconst 0, 1) := by decide +kernel
theorem dX8_fits_77 : decode cX8_fits 77 = .ok (.ireturn, 1) := by decide +kernel
theorem dX8_inRow_0 : decode cX8_inRow 0 = .ok (.aload_n 0, 1) := by decide +kernel
theorem dX8_inRow_1 : decode cX8_inRow 1 = .ok (.getfield 29, 3) := by decide +kernel
theorem dX8_inRow_4 : decode cX8_inRow 4 = .ok (.iconst 3, 1) := by decide +kernel
theorem dX8_inRow_5 : decode cX8_inRow 5 = .ok (.iload_n 2, 1) := by decide +kernel
theorem dX8_inRow_6 : decode cX8_inRow 6 = .ok (.iconst 1, 1) := by decide +kernel
theorem dX8_inRow_7 : decode cX8_inRow 7 = .ok (.isub, 1) := by decide +kernel
theorem dX8_inRow_8 : decode cX8_inRow 8 = .ok (.iload_n 1, 1) := by decide +kernel
theorem dX8_inRow_9 : decode cX8_inRow 9 = .ok (.isub, 1) := by decide +kernel
theorem dX8_inRow_10 : decode cX8_inRow 10 = .ok (.imul, 1) := by decide +kernel
theorem dX8_inRow_11 : decode cX8_inRow 11 = .ok (.ishr, 1) := by decide +kernel
theorem dX8_inRow_12 : decode cX8_inRow 12 = .ok (.bipush 7, 2) := by decide +kernel
theorem dX8_inRow_14 : decode cX8_inRow 14 = .ok (.iand, 1) := by decide +kernel
theorem dX8_inRow_15 : decode cX8_inRow 15 = .ok (.ireturn, 1) := by decide +kernel
theorem dX8_findRow_0 : decode cX8_findRow 0 = .ok (.aload_n 0, 1) := by decide +kernel
theorem dX8_findRow_1 : decode cX8_findRow 1 = .ok (.invokevirtual 32, 3) := by decide +kernel
theorem dX8_findRow_4 : decode cX8_findRow 4 = .ok (.aload_n 0, 1) := by decide +kernel
theorem dX8_findRow_5 : decode cX8_findRow 5 = .ok (.invokevirtual 35, 3) := by decide +kernel
theorem dX8_findRow_8 : decode cX8_findRow 8 = .ok (.istore_n 1, 1) := by decide +kernel
theorem dX8_findRow_9 : decode cX8_findRow 9 = .ok (.aload_n 0, 1) := by decide +kernel
theorem dX8_findRow_10 : decode cX8_findRow 10 = .ok (.iconst 0, 1) := by decide +kernel
theorem dX8_findRow_11 : decode cX8_findRow 11 = .ok (.putfield 29, 3) := by decide +kernel
theorem dX8_findRow_14 : decode cX8_findRow 14 = .ok (.iconst 1, 1) := by decide +kernel
theorem dX8_findRow_15 : decode cX8_findRow 15 = .ok (.istore_n 2, 1) := by decide +kernel
theorem dX8_findRow_16 : decode cX8_findRow 16 = .ok (.iconst 1, 1) := by decide +kernel
theorem dX8_findRow_17 : decode cX8_findRow 17 = .ok (.istore_n 3, 1) := by decide +kernel
theorem dX8_findRow_18 : decode cX8_findRow 18 = .ok (.iload_n 3, 1) := by decide +kernel
theorem dX8_findRow_19 : decode cX8_findRow 19 = .ok (.iconst 1, 1) := by decide +kernel
theorem dX8_findRow_20 : decode cX8_findRow 20 = .ok (.aload_n 0, 1) := by decide +kernel
theorem dX8_findRow_21 : decode cX8_findRow 21 = .ok (.getfield 22, 3) := by decide +kernel
theorem dX8_findRow_24 : decode cX8_findRow 24 = .ok (.ishl, 1) := by decide +kernel
theorem dX8_findRow_25 : decode cX8_findRow 25 = .ok (.if_icmp .ge 57, 3) := by decide +kernel
theorem dX8_findRow_28 : decode cX8_findRow 28 = .ok (.aload_n 0, 1) := by decide +kernel
theorem dX8_findRow_29 : decode cX8_findRow 29 = .ok (.getfield 19, 3) := by decide +kernel
theorem dX8_findRow_32 : decode cX8_findRow 32 = .ok (.iload_n 3, 1) := by decide +kernel
theorem dX8_findRow_33 : decode cX8_findRow 33 = .ok (.iaload, 1) := by decide +kernel
theorem dX8_findRow_34 : decode cX8_findRow 34 = .ok (.ifCond .eq 42, 3) := by decide +kernel
theorem dX8_findRow_37 : decode cX8_findRow 37 = .ok (.iload_n 3, 1) := by decide +kernel
theorem dX8_findRow_38 : decode cX8_findRow 38 = .ok (.invokestatic 39, 3) := by decide +kernel
theorem dX8_findRow_41 : decode cX8_findRow 41 = .ok (.iload_n 1, 1) := by decide +kernel
theorem dX8_findRow_42 : decode cX8_findRow 42 = .ok (.if_icmp .eq 6, 3) := by decide +kernel
theorem dX8_findRow_45 : decode cX8_findRow 45 = .ok (.goto 31, 3) := by decide +kernel
theorem dX8_findRow_48 : decode cX8_findRow 48 = .ok (.aload_n 0, 1) := by decide +kernel
theorem dX8_findRow_49 : decode cX8_findRow 49 = .ok (.iload_n 3, 1) := by decide +kernel
theorem dX8_findRow_50 : decode cX8_findRow 50 = .ok (.invokevirtual 45, 3) := by decide +kernel
theorem dX8_findRow_53 : decode cX8_findRow 53 = .ok (.istore 4, 2) := by decide +kernel
theorem dX8_findRow_55 : decode cX8_findRow 55 = .ok (.iload_n 2, 1) := by decide +kernel
theorem dX8_findRow_56 : decode cX8_findRow 56 = .ok (.ifCond .ne 12, 3) := by decide +kernel
theorem dX8_findRow_59 : decode cX8_findRow 59 = .ok (.iload 4, 2) := by decide +kernel
theorem dX8_findRow_61 : decode cX8_findRow 61 = .ok (.aload_n 0, 1) := by decide +kernel
theorem dX8_findRow_62 : decode cX8_findRow 62 = .ok (.getfield 29, 3) := by decide +kernel
theorem dX8_findRow_65 : decode cX8_findRow 65 = .ok (.if_icmp .ge 9, 3) := by decide +kernel
theorem dX8_findRow_68 : decode cX8_findRow 68 = .ok (.aload_n 0, 1) := by decide +kernel
theorem dX8_findRow_69 : decode cX8_findRow 69 = .ok (.iload 4, 2) := by decide +kernel
theorem dX8_findRow_71 : decode cX8_findRow 71 = .ok (.putfield 29, 3) := by decide +kernel
theorem dX8_findRow_74 : decode cX8_findRow 74 = .ok (.iconst 0, 1) := by decide +kernel
theorem dX8_findRow_75 : decode cX8_findRow 75 = .ok (.istore_n 2, 1) := by decide +kernel
theorem dX8_findRow_76 : decode cX8_findRow 76 = .ok (.iinc 3 1, 3) := by decide +kernel
theorem dX8_findRow_79 : decode cX8_findRow 79 = .ok (.goto (-61), 3) := by decide +kernel
theorem dX8_findRow_82 : decode cX8_findRow 82 = .ok (.iload_n 1, 1) := by decide +kernel
theorem dX8_findRow_83 : decode cX8_findRow 83 = .ok (.ireturn, 1) := by decide +kernel
theorem dX8_findFollowers_0 : decode cX8_findFollowers 0 = .ok (.iconst 0, 1) := by decide +kernel
theorem dX8_findFollowers_1 : decode cX8_findFollowers 1 = .ok (.istore_n 1, 1) := by decide +kernel
theorem dX8_findFollowers_2 : decode cX8_findFollowers 2 = .ok (.iload_n 1, 1) := by decide +kernel
theorem dX8_findFollowers_3 : decode cX8_findFollowers 3 = .ok (.aload_n 0, 1) := by decide +kernel
theorem dX8_findFollowers_4 : decode cX8_findFollowers 4 = .ok (.getfield 22, 3) := by decide +kernel
theorem dX8_findFollowers_7 : decode cX8_findFollowers 7 = .ok (.if_icmp .ge 58, 3) := by decide +kernel
theorem dX8_findFollowers_10 : decode cX8_findFollowers 10 = .ok (.aload_n 0, 1) := by decide +kernel
theorem dX8_findFollowers_11 : decode cX8_findFollowers 11 = .ok (.getfield 16, 3) := by decide +kernel
theorem dX8_findFollowers_14 : decode cX8_findFollowers 14 = .ok (.iload_n 1, 1) := by decide +kernel
theorem dX8_findFollowers_15 : decode cX8_findFollowers 15 = .ok (.iconst 0, 1) := by decide +kernel
theorem dX8_findFollowers_16 : decode cX8_findFollowers 16 = .ok (.iastore, 1) := by decide +kernel
theorem dX8_findFollowers_17 : decode cX8_findFollowers 17 = .ok (.iconst 0, 1) := by decide +kernel
theorem dX8_findFollowers_18 : decode cX8_findFollowers 18 = .ok (.istore_n 2, 1) := by decide +kernel
theorem dX8_findFollowers_19 : decode cX8_findFollowers 19 = .ok (.iload_n 2, 1) := by decide +kernel
theorem dX8_findFollowers_20 : decode cX8_findFollowers 20 = .ok (.aload_n 0, 1) := by decide +kernel
theorem dX8_findFollowers_21 : decode cX8_findFollowers 21 = .ok (.getfield 22, 3) := by decide +kernel
theorem dX8_findFollowers_24 : decode cX8_findFollowers 24 = .ok (.if_icmp .ge 35, 3) := by decide +kernel
theorem dX8_findFollowers_27 : decode cX8_findFollowers 27 = .ok (.iload_n 2, 1) := by decide +kernel
theorem dX8_findFollowers_28 : decode cX8_findFollowers 28 = .ok (.iload_n 1, 1) := by decide +kernel
theorem dX8_findFollowers_29 : decode cX8_findFollowers 29 = .ok (.if_icmp .eq 24, 3) := by decide +kernel
theorem dX8_findFollowers_32 : decode cX8_findFollowers 32 = .ok (.aload_n 0, 1) := by decide +kernel
theorem dX8_findFollowers_33 : decode cX8_findFollowers 33 = .ok (.iload_n 1, 1) := by decide +kernel
theorem dX8_findFollowers_34 : decode cX8_findFollowers 34 = .ok (.iload_n 2, 1) := by decide +kernel
theorem dX8_findFollowers_35 : decode cX8_findFollowers 35 = .ok (.invokevirtual 48, 3) := by decide +kernel
theorem dX8_findFollowers_38 : decode cX8_findFollowers 38 = .ok (.ifCond .eq 15, 3) := by decide +kernel
theorem dX8_findFollowers_41 : decode cX8_findFollowers 41 = .ok (.aload_n 0, 1) := by decide +kernel
theorem dX8_findFollowers_42 : decode cX8_findFollowers 42 = .ok (.getfield 16, 3) := by decide +kernel
theorem dX8_findFollowers_45 : decode cX8_findFollowers 45 = .ok (.iload_n 1, 1) := by decide +kernel
theorem dX8_findFollowers_46 : decode cX8_findFollowers 46 = .ok (.dup2, 1) := by decide +kernel
theorem dX8_findFollowers_47 : decode cX8_findFollowers 47 = .ok (.iaload, 1) := by decide +kernel
theorem dX8_findFollowers_48 : decode cX8_findFollowers 48 = .ok (.iconst 1, 1) := by decide +kernel
theorem dX8_findFollowers_49 : decode cX8_findFollowers 49 = .ok (.iload_n 2, 1) := by decide +kernel
theorem dX8_findFollowers_50 : decode cX8_findFollowers 50 = .ok (.ishl, 1) := by decide +kernel
theorem dX8_findFollowers_51 : decode cX8_findFollowers 51 = .ok (.ior, 1) := by decide +kernel
theorem dX8_findFollowers_52 : decode cX8_findFollowers 52 = .ok (.iastore, 1) := by decide +kernel
theorem dX8_findFollowers_53 : decode cX8_findFollowers 53 = .ok (.iinc 2 1, 3) := by decide +kernel
theorem dX8_findFollowers_56 : decode cX8_findFollowers 56 = .ok (.goto (-37), 3) := by decide +kernel
theorem dX8_findFollowers_59 : decode cX8_findFollowers 59 = .ok (.iinc 1 1, 3) := by decide +kernel
theorem dX8_findFollowers_62 : decode cX8_findFollowers 62 = .ok (.goto (-60), 3) := by decide +kernel
theorem dX8_findFollowers_65 : decode cX8_findFollowers 65 = .ok (.return_, 1) := by decide +kernel
theorem dX8_findStarts_0 : decode cX8_findStarts 0 = .ok (.iconst 0, 1) := by decide +kernel
theorem dX8_findStarts_1 : decode cX8_findStarts 1 = .ok (.istore_n 1, 1) := by decide +kernel
theorem dX8_findStarts_2 : decode cX8_findStarts 2 = .ok (.iconst 1, 1) := by decide +kernel
theorem dX8_findStarts_3 : decode cX8_findStarts 3 = .ok (.istore_n 2, 1) := by decide +kernel
theorem dX8_findStarts_4 : decode cX8_findStarts 4 = .ok (.iload_n 2, 1) := by decide +kernel
theorem dX8_findStarts_5 : decode cX8_findStarts 5 = .ok (.iconst 1, 1) := by decide +kernel
theorem dX8_findStarts_6 : decode cX8_findStarts 6 = .ok (.aload_n 0, 1) := by decide +kernel
theorem dX8_findStarts_7 : decode cX8_findStarts 7 = .ok (.getfield 22, 3) := by decide +kernel
theorem dX8_findStarts_10 : decode cX8_findStarts 10 = .ok (.ishl, 1) := by decide +kernel
theorem dX8_findStarts_11 : decode cX8_findStarts 11 = .ok (.if_icmp .ge 110, 3) := by decide +kernel
theorem dX8_findStarts_14 : decode cX8_findStarts 14 = .ok (.iconst 0, 1) := by decide +kernel
theorem dX8_findStarts_15 : decode cX8_findStarts 15 = .ok (.istore_n 3, 1) := by decide +kernel
theorem dX8_findStarts_16 : decode cX8_findStarts 16 = .ok (.iconst 0, 1) := by decide +kernel
theorem dX8_findStarts_17 : decode cX8_findStarts 17 = .ok (.istore 4, 2) := by decide +kernel
theorem dX8_findStarts_19 : decode cX8_findStarts 19 = .ok (.iload 4, 2) := by decide +kernel
theorem dX8_findStarts_21 : decode cX8_findStarts 21 = .ok (.aload_n 0, 1) := by decide +kernel
theorem dX8_findStarts_22 : decode cX8_findStarts 22 = .ok (.getfield 22, 3) := by decide +kernel
theorem dX8_findStarts_25 : decode cX8_findStarts 25 = .ok (.if_icmp .ge 70, 3) := by decide +kernel
theorem dX8_findStarts_28 : decode cX8_findStarts 28 = .ok (.iload_n 2, 1) := by decide +kernel
theorem dX8_findStarts_29 : decode cX8_findStarts 29 = .ok (.iconst 1, 1) := by decide +kernel
theorem dX8_findStarts_30 : decode cX8_findStarts 30 = .ok (.iload 4, 2) := by decide +kernel
theorem dX8_findStarts_32 : decode cX8_findStarts 32 = .ok (.ishl, 1) := by decide +kernel
theorem dX8_findStarts_33 : decode cX8_findStarts 33 = .ok (.iconst (-1), 1) := by decide +kernel
theorem dX8_findStarts_34 : decode cX8_findStarts 34 = .ok (.ixor, 1) := by decide +kernel
theorem dX8_findStarts_35 : decode cX8_findStarts 35 = .ok (.iand, 1) := by decide +kernel
theorem dX8_findStarts_36 : decode cX8_findStarts 36 = .ok (.istore 5, 2) := by decide +kernel
theorem dX8_findStarts_38 : decode cX8_findStarts 38 = .ok (.iload 5, 2) := by decide +kernel
theorem dX8_findStarts_40 : decode cX8_findStarts 40 = .ok (.ifCond .eq 21, 3) := by decide +kernel
theorem dX8_findStarts_43 : decode cX8_findStarts 43 = .ok (.aload_n 0, 1) := by decide +kernel
theorem dX8_findStarts_44 : decode cX8_findStarts 44 = .ok (.getfield 16, 3) := by decide +kernel
theorem dX8_findStarts_47 : decode cX8_findStarts 47 = .ok (.iload 4, 2) := by decide +kernel
theorem dX8_findStarts_49 : decode cX8_findStarts 49 = .ok (.iaload, 1) := by decide +kernel
theorem dX8_findStarts_50 : decode cX8_findStarts 50 = .ok (.aload_n 0, 1) := by decide +kernel
theorem dX8_findStarts_51 : decode cX8_findStarts 51 = .ok (.getfield 19, 3) := by decide +kernel
theorem dX8_findStarts_54 : decode cX8_findStarts 54 = .ok (.iload 5, 2) := by decide +kernel
theorem dX8_findStarts_56 : decode cX8_findStarts 56 = .ok (.iaload, 1) := by decide +kernel
theorem dX8_findStarts_57 : decode cX8_findStarts 57 = .ok (.iand, 1) := by decide +kernel
theorem dX8_findStarts_58 : decode cX8_findStarts 58 = .ok (.ifCond .eq 7, 3) := by decide +kernel
theorem dX8_findStarts_61 : decode cX8_findStarts 61 = .ok (.iconst 1, 1) := by decide +kernel
theorem dX8_findStarts_62 : decode cX8_findStarts 62 = .ok (.goto 4, 3) := by decide +kernel
theorem dX8_findStarts_65 : decode cX8_findStarts 65 = .ok (.iconst 0, 1) := by decide +kernel
theorem dX8_findStarts_66 : decode cX8_findStarts 66 = .ok (.istore 6, 2) := by decide +kernel
theorem dX8_findStarts_68 : decode cX8_findStarts 68 = .ok (.iload_n 2, 1) := by decide +kernel
theorem dX8_findStarts_69 : decode cX8_findStarts 69 = .ok (.iload 4, 2) := by decide +kernel
theorem dX8_findStarts_71 : decode cX8_findStarts 71 = .ok (.invokestatic 52, 3) := by decide +kernel
theorem dX8_findStarts_74 : decode cX8_findStarts 74 = .ok (.ifCond .eq 15, 3) := by decide +kernel
theorem dX8_findStarts_77 : decode cX8_findStarts 77 = .ok (.iload 6, 2) := by decide +kernel
theorem dX8_findStarts_79 : decode cX8_findStarts 79 = .ok (.ifCond .eq 10, 3) := by decide +kernel
theorem dX8_findStarts_82 : decode cX8_findStarts 82 = .ok (.iload_n 3, 1) := by decide +kernel
theorem dX8_findStarts_83 : decode cX8_findStarts 83 = .ok (.iconst 1, 1) := by decide +kernel
theorem dX8_findStarts_84 : decode cX8_findStarts 84 = .ok (.iload 4, 2) := by decide +kernel
theorem dX8_findStarts_86 : decode cX8_findStarts 86 = .ok (.ishl, 1) := by decide +kernel
theorem dX8_findStarts_87 : decode cX8_findStarts 87 = .ok (.ior, 1) := by decide +kernel
theorem dX8_findStarts_88 : decode cX8_findStarts 88 = .ok (.istore_n 3, 1) := by decide +kernel
theorem dX8_findStarts_89 : decode cX8_findStarts 89 = .ok (.iinc 4 1, 3) := by decide +kernel
theorem dX8_findStarts_92 : decode cX8_findStarts 92 = .ok (.goto (-73), 3) := by decide +kernel
theorem dX8_findStarts_95 : decode cX8_findStarts 95 = .ok (.aload_n 0, 1) := by decide +kernel
theorem dX8_findStarts_96 : decode cX8_findStarts 96 = .ok (.getfield 19, 3) := by decide +kernel
theorem dX8_findStarts_99 : decode cX8_findStarts 99 = .ok (.iload_n 2, 1) := by decide +kernel
theorem dX8_findStarts_100 : decode cX8_findStarts 100 = .ok (.iload_n 3, 1) := by decide +kernel
theorem dX8_findStarts_101 : decode cX8_findStarts 101 = .ok (.iastore, 1) := by decide +kernel
theorem dX8_findStarts_102 : decode cX8_findStarts 102 = .ok (.iload_n 3, 1) := by decide +kernel
theorem dX8_findStarts_103 : decode cX8_findStarts 103 = .ok (.ifCond .eq 12, 3) := by decide +kernel
theorem dX8_findStarts_106 : decode cX8_findStarts 106 = .ok (.iload_n 1, 1) := by decide +kernel
theorem dX8_findStarts_107 : decode cX8_findStarts 107 = .ok (.iload_n 2, 1) := by decide +kernel
theorem dX8_findStarts_108 : decode cX8_findStarts 108 = .ok (.invokestatic 39, 3) := by decide +kernel
theorem dX8_findStarts_111 : decode cX8_findStarts 111 = .ok (.invokestatic 57, 3) := by decide +kernel
theorem dX8_findStarts_114 : decode cX8_findStarts 114 = .ok (.istore_n 1, 1) := by decide +kernel
theorem dX8_findStarts_115 : decode cX8_findStarts 115 = .ok (.iinc 2 1, 3) := by decide +kernel
theorem dX8_findStarts_118 : decode cX8_findStarts 118 = .ok (.goto (-114), 3) := by decide +kernel
theorem dX8_findStarts_121 : decode cX8_findStarts 121 = .ok (.iload_n 1, 1) := by decide +kernel
theorem dX8_findStarts_122 : decode cX8_findStarts 122 = .ok (.ireturn, 1) := by decide +kernel
theorem dX8_leastOf_0 : decode cX8_leastOf 0 = .ok (.iload_n 1, 1) := by decide +kernel
theorem dX8_leastOf_1 : decode cX8_leastOf 1 = .ok (.istore_n 2, 1) := by decide +kernel
theorem dX8_leastOf_2 : decode cX8_leastOf 2 = .ok (.aload_n 0, 1) := by decide +kernel
theorem dX8_leastOf_3 : decode cX8_leastOf 3 = .ok (.getfield 19, 3) := by decide +kernel
theorem dX8_leastOf_6 : decode cX8_leastOf 6 = .ok (.iload_n 1, 1) := by decide +kernel
theorem dX8_leastOf_7 : decode cX8_leastOf 7 = .ok (.iaload, 1) := by decide +kernel
theorem dX8_leastOf_8 : decode cX8_leastOf 8 = .ok (.istore_n 3, 1) := by decide +kernel
theorem dX8_leastOf_9 : decode cX8_leastOf 9 = .ok (.iconst 0, 1) := by decide +kernel
theorem dX8_leastOf_10 : decode cX8_leastOf 10 = .ok (.istore 4, 2) := by decide +kernel
theorem dX8_leastOf_12 : decode cX8_leastOf 12 = .ok (.iconst 0, 1) := by decide +kernel
theorem dX8_leastOf_13 : decode cX8_leastOf 13 = .ok (.istore 5, 2) := by decide +kernel
theorem dX8_leastOf_15 : decode cX8_leastOf 15 = .ok (.iload 5, 2) := by decide +kernel
theorem dX8_leastOf_17 : decode cX8_leastOf 17 = .ok (.aload_n 0, 1) := by decide +kernel
theorem dX8_leastOf_18 : decode cX8_leastOf 18 = .ok (.getfield 22, 3) := by decide +kernel
theorem dX8_leastOf_21 : decode cX8_leastOf 21 = .ok (.if_icmp .ge 52, 3) := by decide +kernel
theorem dX8_leastOf_24 : decode cX8_leastOf 24 = .ok (.iload_n 3, 1) := by decide +kernel
theorem dX8_leastOf_25 : decode cX8_leastOf 25 = .ok (.ifCond .eq 48, 3) := by decide +kernel
theorem dX8_leastOf_28 : decode cX8_leastOf 28 = .ok (.iload_n 3, 1) := by decide +kernel
theorem dX8_leastOf_29 : decode cX8_leastOf 29 = .ok (.invokestatic 63, 3) := by decide +kernel
theorem dX8_leastOf_32 : decode cX8_leastOf 32 = .ok (.istore 6, 2) := by decide +kernel
theorem dX8_leastOf_34 : decode cX8_leastOf 34 = .ok (.iload 4, 2) := by decide +kernel
theorem dX8_leastOf_36 : decode cX8_leastOf 36 = .ok (.iconst 3, 1) := by decide +kernel
theorem dX8_leastOf_37 : decode cX8_leastOf 37 = .ok (.ishl, 1) := by decide +kernel
theorem dX8_leastOf_38 : decode cX8_leastOf 38 = .ok (.iload 6, 2) := by decide +kernel
theorem dX8_leastOf_40 : decode cX8_leastOf 40 = .ok (.ior, 1) := by decide +kernel
theorem dX8_leastOf_41 : decode cX8_leastOf 41 = .ok (.istore 4, 2) := by decide +kernel
theorem dX8_leastOf_43 : decode cX8_leastOf 43 = .ok (.iload_n 2, 1) := by decide +kernel
theorem dX8_leastOf_44 : decode cX8_leastOf 44 = .ok (.iconst 1, 1) := by decide +kernel
theorem dX8_leastOf_45 : decode cX8_leastOf 45 = .ok (.iload 6, 2) := by decide +kernel
theorem dX8_leastOf_47 : decode cX8_leastOf 47 = .ok (.ishl, 1) := by decide +kernel
theorem dX8_leastOf_48 : decode cX8_leastOf 48 = .ok (.iconst (-1), 1) := by decide +kernel
theorem dX8_leastOf_49 : decode cX8_leastOf 49 = .ok (.ixor, 1) := by decide +kernel
theorem dX8_leastOf_50 : decode cX8_leastOf 50 = .ok (.iand, 1) := by decide +kernel
theorem dX8_leastOf_51 : decode cX8_leastOf 51 = .ok (.istore_n 2, 1) := by decide +kernel
theorem dX8_leastOf_52 : decode cX8_leastOf 52 = .ok (.aload_n 0, 1) := by decide +kernel
theorem dX8_leastOf_53 : decode cX8_leastOf 53 = .ok (.getfield 16, 3) := by decide +kernel
theorem dX8_leastOf_56 : decode cX8_leastOf 56 = .ok (.iload 6, 2) := by decide +kernel
theorem dX8_leastOf_58 : decode cX8_leastOf 58 = .ok (.iaload, 1) := by decide +kernel
theorem dX8_leastOf_59 : decode cX8_leastOf 59 = .ok (.aload_n 0, 1) := by decide +kernel
theorem dX8_leastOf_60 : decode cX8_leastOf 60 = .ok (.getfield 19, 3) := by decide +kernel
theorem dX8_leastOf_63 : decode cX8_leastOf 63 = .ok (.iload_n 2, 1) := by decide +kernel
theorem dX8_leastOf_64 : decode cX8_leastOf 64 = .ok (.iaload, 1) := by decide +kernel
theorem dX8_leastOf_65 : decode cX8_leastOf 65 = .ok (.iand, 1) := by decide +kernel
theorem dX8_leastOf_66 : decode cX8_leastOf 66 = .ok (.istore_n 3, 1) := by decide +kernel
theorem dX8_leastOf_67 : decode cX8_leastOf 67 = .ok (.iinc 5 1, 3) := by decide +kernel
theorem dX8_leastOf_70 : decode cX8_leastOf 70 = .ok (.goto (-55), 3) := by decide +kernel
theorem dX8_leastOf_73 : decode cX8_leastOf 73 = .ok (.iload 4, 2) := by decide +kernel
theorem dX8_leastOf_75 : decode cX8_leastOf 75 = .ok (.ireturn, 1) := by decide +kernel
theorem dX9_init_0 : decode cX9_init 0 = .ok (.aload_n 0, 1) := by decide +kernel
theorem dX9_init_1 : decode cX9_init 1 = .ok (.invokespecial 1, 3) := by decide +kernel
theorem dX9_init_4 : decode cX9_init 4 = .ok (.aload_n 0, 1) := by decide +kernel
theorem dX9_init_5 : decode cX9_init 5 = .ok (.aload_n 1, 1) := by decide +kernel
theorem dX9_init_6 : decode cX9_init 6 = .ok (.putfield 7, 3) := by decide +kernel
theorem dX9_init_9 : decode cX9_init 9 = .ok (.aload_n 0, 1) := by decide +kernel
theorem dX9_init_10 : decode cX9_init 10 = .ok (.iload_n 2, 1) := by decide +kernel
theorem dX9_init_11 : decode cX9_init 11 = .ok (.putfield 13, 3) := by decide +kernel
theorem dX9_init_14 : decode cX9_init 14 = .ok (.return_, 1) := by decide +kernel
theorem dX10_init_0 : decode cX10_init 0 = .ok (.aload_n 0, 1) := by decide +kernel
theorem dX10_init_1 : decode cX10_init 1 = .ok (.invokespecial 3, 3) := by decide +kernel
theorem dX10_init_4 : decode cX10_init 4 = .ok (.aload_n 0, 1) := by decide +kernel
theorem dX10_init_5 : decode cX10_init 5 = .ok (.sipush 300, 3) := by decide +kernel
theorem dX10_init_8 : decode cX10_init 8 = .ok (.newarray .int, 2) := by decide +kernel
theorem dX10_init_10 : decode cX10_init 10 = .ok (.putfield 9, 3) := by decide +kernel
theorem dX10_init_13 : decode cX10_init 13 = .ok (.return_, 1) := by decide +kernel
theorem dX10_add_0 : decode cX10_add 0 = .ok (.iload_n 3, 1) := by decide +kernel
theorem dX10_add_1 : decode cX10_add 1 = .ok (.istore 5, 2) := by decide +kernel
theorem dX10_add_3 : decode cX10_add 3 = .ok (.iload 5, 2) := by decide +kernel
theorem dX10_add_5 : decode cX10_add 5 = .ok (.iload 4, 2) := by decide +kernel
theorem dX10_add_7 : decode cX10_add 7 = .ok (.if_icmp .gt 28, 3) := by decide +kernel
theorem dX10_add_10 : decode cX10_add 10 = .ok (.aload_n 0, 1) := by decide +kernel
theorem dX10_add_11 : decode cX10_add 11 = .ok (.getfield 9, 3) := by decide +kernel
theorem dX10_add_14 : decode cX10_add 14 = .ok (.iload 5, 2) := by decide +kernel
theorem dX10_add_16 : decode cX10_add 16 = .ok (.iconst 5, 1) := by decide +kernel
theorem dX10_add_17 : decode cX10_add 17 = .ok (.imul, 1) := by decide +kernel
theorem dX10_add_18 : decode cX10_add 18 = .ok (.iload_n 1, 1) := by decide +kernel
theorem dX10_add_19 : decode cX10_add 19 = .ok (.iadd, 1) := by decide +kernel
theorem dX10_add_20 : decode cX10_add 20 = .ok (.iconst 5, 1) := by decide +kernel
theorem dX10_add_21 : decode cX10_add 21 = .ok (.imul, 1) := by decide +kernel
theorem dX10_add_22 : decode cX10_add 22 = .ok (.iload_n 2, 1) := by decide +kernel
theorem dX10_add_23 : decode cX10_add 23 = .ok (.iadd, 1) := by decide +kernel
theorem dX10_add_24 : decode cX10_add 24 = .ok (.dup2, 1) := by decide +kernel
theorem dX10_add_25 : decode cX10_add 25 = .ok (.iaload, 1) := by decide +kernel
theorem dX10_add_26 : decode cX10_add 26 = .ok (.iconst 1, 1) := by decide +kernel
theorem dX10_add_27 : decode cX10_add 27 = .ok (.iadd, 1) := by decide +kernel
theorem dX10_add_28 : decode cX10_add 28 = .ok (.iastore, 1) := by decide +kernel
theorem dX10_add_29 : decode cX10_add 29 = .ok (.iinc 5 1, 3) := by decide +kernel
theorem dX10_add_32 : decode cX10_add 32 = .ok (.goto (-29), 3) := by decide +kernel
theorem dX10_add_35 : decode cX10_add 35 = .ok (.aload_n 0, 1) := by decide +kernel
theorem dX10_add_36 : decode cX10_add 36 = .ok (.dup, 1) := by decide +kernel
theorem dX10_add_37 : decode cX10_add 37 = .ok (.getfield 15, 3) := by decide +kernel
theorem dX10_add_40 : decode cX10_add 40 = .ok (.dup_x1, 1) := by decide +kernel
theorem dX10_add_41 : decode cX10_add 41 = .ok (.iconst 1, 1) := by decide +kernel
theorem dX10_add_42 : decode cX10_add 42 = .ok (.iadd, 1) := by decide +kernel
theorem dX10_add_43 : decode cX10_add 43 = .ok (.putfield 15, 3) := by decide +kernel
theorem dX10_add_46 : decode cX10_add 46 = .ok (.ireturn, 1) := by decide +kernel
theorem dX10_openFor_0 : decode cX10_openFor 0 = .ok (.aload_n 0, 1) := by decide +kernel
theorem dX10_openFor_1 : decode cX10_openFor 1 = .ok (.getfield 9, 3) := by decide +kernel
theorem dX10_openFor_4 : decode cX10_openFor 4 = .ok (.iload_n 3, 1) := by decide +kernel
theorem dX10_openFor_5 : decode cX10_openFor 5 = .ok (.iconst 5, 1) := by decide +kernel
theorem dX10_openFor_6 : decode cX10_openFor 6 = .ok (.imul, 1) := by decide +kernel
theorem dX10_openFor_7 : decode cX10_openFor 7 = .ok (.iload_n 1, 1) := by decide +kernel
theorem dX10_openFor_8 : decode cX10_openFor 8 = .ok (.iadd, 1) := by decide +kernel
theorem dX10_openFor_9 : decode cX10_openFor 9 = .ok (.iconst 5, 1) := by decide +kernel
theorem dX10_openFor_10 : decode cX10_openFor 10 = .ok (.imul, 1) := by decide +kernel
theorem dX10_openFor_11 : decode cX10_openFor 11 = .ok (.iload_n 2, 1) := by decide +kernel
theorem dX10_openFor_12 : decode cX10_openFor 12 = .ok (.iadd, 1) := by decide +kernel
theorem dX10_openFor_13 : decode cX10_openFor 13 = .ok (.iaload, 1) := by decide +kernel
theorem dX10_openFor_14 : decode cX10_openFor 14 = .ok (.ireturn, 1) := by decide +kernel
theorem dX10_lead_0 : decode cX10_lead 0 = .ok (.iload_n 1, 1) := by decide +kernel
theorem dX10_lead_1 : decode cX10_lead 1 = .ok (.iload_n 2, 1) := by decide +kernel
theorem dX10_lead_2 : decode cX10_lead 2 = .ok (.if_icmp .eq 13, 3) := by decide +kernel
theorem dX10_lead_5 : decode cX10_lead 5 = .ok (.aload_n 0, 1) := by decide +kernel
theorem dX10_lead_6 : decode cX10_lead 6 = .ok (.iload_n 1, 1) := by decide +kernel
theorem dX10_lead_7 : decode cX10_lead 7 = .ok (.iload_n 2, 1) := by decide +kernel
theorem dX10_lead_8 : decode cX10_lead 8 = .ok (.iload_n 3, 1) := by decide +kernel
theorem dX10_lead_9 : decode cX10_lead 9 = .ok (.invokevirtual 19, 3) := by decide +kernel
theorem dX10_lead_12 : decode cX10_lead 12 = .ok (.ifCond .le 7, 3) := by decide +kernel
theorem dX10_lead_15 : decode cX10_lead 15 = .ok (.iconst 1, 1) := by decide +kernel
theorem dX10_lead_16 : decode cX10_lead 16 = .ok (.goto 4, 3) := by decide +kernel
theorem dX10_lead_19 : decode cX10_lead 19 = .ok (.iconst 0, 1) := by decide +kernel
theorem dX10_lead_20 : decode cX10_lead 20 = .ok (.ireturn, 1) := by decide +kernel
theorem dX11_init_0 : decode cX11_init 0 = .ok (.aload_n 0, 1) := by decide +kernel
theorem dX11_init_1 : decode cX11_init 1 = .ok (.invokespecial 3, 3) := by decide +kernel
theorem dX11_init_4 : decode cX11_init 4 = .ok (.aload_n 0, 1) := by decide +kernel
theorem dX11_init_5 : decode cX11_init 5 = .ok (.iconst 2, 1) := by decide +kernel
theorem dX11_init_6 : decode cX11_init 6 = .ok (.iload_n 1, 1) := by decide +kernel
theorem dX11_init_7 : decode cX11_init 7 = .ok (.bipush 11, 2) := by decide +kernel
theorem dX11_init_9 : decode cX11_init 9 = .ok (.invokestatic 9, 3) := by decide +kernel
theorem dX11_init_12 : decode cX11_init 12 = .ok (.iadd, 1) := by decide +kernel
theorem dX11_init_13 : decode cX11_init 13 = .ok (.putfield 15, 3) := by decide +kernel
theorem dX11_init_16 : decode cX11_init 16 = .ok (.aload_n 0, 1) := by decide +kernel
theorem dX11_init_17 : decode cX11_init 17 = .ok (.new 19, 3) := by decide +kernel
theorem dX11_init_20 : decode cX11_init 20 = .ok (.dup, 1) := by decide +kernel
theorem dX11_init_21 : decode cX11_init 21 = .ok (.invokespecial 21, 3) := by decide +kernel
theorem dX11_init_24 : decode cX11_init 24 = .ok (.putfield 22, 3) := by decide +kernel
theorem dX11_init_27 : decode cX11_init 27 = .ok (.aload_n 0, 1) := by decide +kernel
theorem dX11_init_28 : decode cX11_init 28 = .ok (.new 26, 3) := by decide +kernel
theorem dX11_init_31 : decode cX11_init 31 = .ok (.dup, 1) := by decide +kernel
theorem dX11_init_32 : decode cX11_init 32 = .ok (.invokespecial 28, 3) := by decide +kernel
theorem dX11_init_35 : decode cX11_init 35 = .ok (.putfield 29, 3) := by decide +kernel
theorem dX11_init_38 : decode cX11_init 38 = .ok (.aload_n 0, 1) := by decide +kernel
theorem dX11_init_39 : decode cX11_init 39 = .ok (.new 33, 3) := by decide +kernel
theorem dX11_init_42 : decode cX11_init 42 = .ok (.dup, 1) := by decide +kernel
theorem dX11_init_43 : decode cX11_init 43 = .ok (.aload_n 0, 1) := by decide +kernel
theorem dX11_init_44 : decode cX11_init 44 = .ok (.getfield 15, 3) := by decide +kernel
theorem dX11_init_47 : decode cX11_init 47 = .ok (.aload_n 0, 1) := by decide +kernel
theorem dX11_init_48 : decode cX11_init 48 = .ok (.getfield 22, 3) := by decide +kernel
theorem dX11_init_51 : decode cX11_init 51 = .ok (.aload_n 0, 1) := by decide +kernel
theorem dX11_init_52 : decode cX11_init 52 = .ok (.getfield 29, 3) := by decide +kernel
theorem dX11_init_55 : decode cX11_init 55 = .ok (.invokespecial 35, 3) := by decide +kernel
theorem dX11_init_58 : decode cX11_init 58 = .ok (.putfield 38, 3) := by decide +kernel
theorem dX11_init_61 : decode cX11_init 61 = .ok (.aload_n 0, 1) := by decide +kernel
theorem dX11_init_62 : decode cX11_init 62 = .ok (.new 42, 3) := by decide +kernel
theorem dX11_init_65 : decode cX11_init 65 = .ok (.dup, 1) := by decide +kernel
theorem dX11_init_66 : decode cX11_init 66 = .ok (.invokespecial 44, 3) := by decide +kernel
theorem dX11_init_69 : decode cX11_init 69 = .ok (.putfield 45, 3) := by decide +kernel
theorem dX11_init_72 : decode cX11_init 72 = .ok (.aload_n 0, 1) := by decide +kernel
theorem dX11_init_73 : decode cX11_init 73 = .ok (.new 49, 3) := by decide +kernel
theorem dX11_init_76 : decode cX11_init 76 = .ok (.dup, 1) := by decide +kernel
theorem dX11_init_77 : decode cX11_init 77 = .ok (.aload_n 0, 1) := by decide +kernel
theorem dX11_init_78 : decode cX11_init 78 = .ok (.getfield 15, 3) := by decide +kernel
theorem dX11_init_81 : decode cX11_init 81 = .ok (.iconst 1, 1) := by decide +kernel
theorem dX11_init_82 : decode cX11_init 82 = .ok (.isub, 1) := by decide +kernel
theorem dX11_init_83 : decode cX11_init 83 = .ok (.aload_n 0, 1) := by decide +kernel
theorem dX11_init_84 : decode cX11_init 84 = .ok (.getfield 22, 3) := by decide +kernel
theorem dX11_init_87 : decode cX11_init 87 = .ok (.aload_n 0, 1) := by decide +kernel
theorem dX11_init_88 : decode cX11_init 88 = .ok (.getfield 29, 3) := by decide +kernel
theorem dX11_init_91 : decode cX11_init 91 = .ok (.invokespecial 51, 3) := by decide +kernel
theorem dX11_init_94 : decode cX11_init 94 = .ok (.putfield 52, 3) := by decide +kernel
theorem dX11_init_97 : decode cX11_init 97 = .ok (.aload_n 0, 1) := by decide +kernel
theorem dX11_init_98 : decode cX11_init 98 = .ok (.new 56, 3) := by decide +kernel
theorem dX11_init_101 : decode cX11_init 101 = .ok (.dup, 1) := by decide +kernel
theorem dX11_init_102 : decode cX11_init 102 = .ok (.aload_n 0, 1) := by decide +kernel
theorem dX11_init_103 : decode cX11_init 103 = .ok (.getfield 15, 3) := by decide +kernel
theorem dX11_init_106 : decode cX11_init 106 = .ok (.aload_n 0, 1) := by decide +kernel
theorem dX11_init_107 : decode cX11_init 107 = .ok (.getfield 38, 3) := by decide +kernel
theorem dX11_init_110 : decode cX11_init 110 = .ok (.aload_n 0, 1) := by decide +kernel
theorem dX11_init_111 : decode cX11_init 111 = .ok (.getfield 22, 3) := by decide +kernel
theorem dX11_init_114 : decode cX11_init 114 = .ok (.aload_n 0, 1) := by decide +kernel
theorem dX11_init_115 : decode cX11_init 115 = .ok (.getfield 52, 3) := by decide +kernel
theorem dX11_init_118 : decode cX11_init 118 = .ok (.invokespecial 58, 3) := by decide +kernel
theorem dX11_init_121 : decode cX11_init 121 = .ok (.putfield 61, 3) := by decide +kernel
theorem dX11_init_124 : decode cX11_init 124 = .ok (.aload_n 0, 1) := by decide +kernel
theorem dX11_init_125 : decode cX11_init 125 = .ok (.new 65, 3) := by decide +kernel
theorem dX11_init_128 : decode cX11_init 128 = .ok (.dup, 1) := by decide +kernel
theorem dX11_init_129 : decode cX11_init 129 = .ok (.aload_n 0, 1) := by decide +kernel
theorem dX11_init_130 : decode cX11_init 130 = .ok (.getfield 15, 3) := by decide +kernel
theorem dX11_init_133 : decode cX11_init 133 = .ok (.aload_n 0, 1) := by decide +kernel
theorem dX11_init_134 : decode cX11_init 134 = .ok (.getfield 38, 3) := by decide +kernel
theorem dX11_init_137 : decode cX11_init 137 = .ok (.invokespecial 67, 3) := by decide +kernel
theorem dX11_init_140 : decode cX11_init 140 = .ok (.putfield 70, 3) := by decide +kernel
theorem dX11_init_143 : decode cX11_init 143 = .ok (.aload_n 0, 1) := by decide +kernel
theorem dX11_init_144 : decode cX11_init 144 = .ok (.new 74, 3) := by decide +kernel
theorem dX11_init_147 : decode cX11_init 147 = .ok (.dup, 1) := by decide +kernel
theorem dX11_init_148 : decode cX11_init 148 = .ok (.invokespecial 76, 3) := by decide +kernel
theorem dX11_init_151 : decode cX11_init 151 = .ok (.putfield 77, 3) := by decide +kernel
theorem dX11_init_154 : decode cX11_init 154 = .ok (.aload_n 0, 1) := by decide +kernel
theorem dX11_init_155 : decode cX11_init 155 = .ok (.new 81, 3) := by decide +kernel
theorem dX11_init_158 : decode cX11_init 158 = .ok (.dup, 1) := by decide +kernel
theorem dX11_init_159 : decode cX11_init 159 = .ok (.invokespecial 83, 3) := by decide +kernel
theorem dX11_init_162 : decode cX11_init 162 = .ok (.putfield 84, 3) := by decide +kernel
theorem dX11_init_165 : decode cX11_init 165 = .ok (.aload_n 0, 1) := by decide +kernel
theorem dX11_init_166 : decode cX11_init 166 = .ok (.new 88, 3) := by decide +kernel
theorem dX11_init_169 : decode cX11_init 169 = .ok (.dup, 1) := by decide +kernel
theorem dX11_init_170 : decode cX11_init 170 = .ok (.invokespecial 90, 3) := by decide +kernel
theorem dX11_init_173 : decode cX11_init 173 = .ok (.putfield 91, 3) := by decide +kernel
theorem dX11_init_176 : decode cX11_init 176 = .ok (.return_, 1) := by decide +kernel
theorem dX11_way_0 : decode cX11_way 0 = .ok (.iload_n 1, 1) := by decide +kernel
theorem dX11_way_1 : decode cX11_way 1 = .ok (.invokestatic 95, 3) := by decide +kernel
theorem dX11_way_4 : decode cX11_way 4 = .ok (.ifCond .eq 15, 3) := by decide +kernel
theorem dX11_way_7 : decode cX11_way 7 = .ok (.iload_n 2, 1) := by decide +kernel
theorem dX11_way_8 : decode cX11_way 8 = .ok (.invokestatic 95, 3) := by decide +kernel
theorem dX11_way_11 : decode cX11_way 11 = .ok (.ifCond .eq 8, 3) := by decide +kernel
theorem dX11_way_14 : decode cX11_way 14 = .ok (.iload_n 1, 1) := by decide +kernel
theorem dX11_way_15 : decode cX11_way 15 = .ok (.iload_n 2, 1) := by decide +kernel
theorem dX11_way_16 : decode cX11_way 16 = .ok (.if_icmp .ne 6, 3) := by decide +kernel
theorem dX11_way_19 : decode cX11_way 19 = .ok (.bipush (-2), 2) := by decide +kernel
theorem dX11_way_21 : decode cX11_way 21 = .ok (.ireturn, 1) := by decide +kernel
theorem dX11_way_22 : decode cX11_way 22 = .ok (.aload_n 0, 1) := by decide +kernel
theorem dX11_way_23 : decode cX11_way 23 = .ok (.iload_n 3, 1) := by decide +kernel
theorem dX11_way_24 : decode cX11_way 24 = .ok (.invokevirtual 99, 3) := by decide +kernel
theorem dX11_way_27 : decode cX11_way 27 = .ok (.ifCond .eq 18, 3) := by decide +kernel
theorem dX11_way_30 : decode cX11_way 30 = .ok (.aload_n 0, 1) := by decide +kernel
theorem dX11_way_31 : decode cX11_way 31 = .ok (.iload 4, 2) := by decide +kernel
theorem dX11_way_33 : decode cX11_way 33 = .ok (.invokevirtual 99, 3) := by decide +kernel
theorem dX11_way_36 : decode cX11_way 36 = .ok (.ifCond .eq 9, 3) := by decide +kernel
theorem dX11_way_39 : decode cX11_way 39 = .ok (.iload 4, 2) := by decide +kernel
theorem dX11_way_41 : decode cX11_way 41 = .ok (.iload_n 3, 1) := by decide +kernel
theorem dX11_way_42 : decode cX11_way 42 = .ok (.if_icmp .ge 6, 3) := by decide +kernel
theorem dX11_way_45 : decode cX11_way 45 = .ok (.bipush (-2), 2) := by decide +kernel
theorem dX11_way_47 : decode cX11_way 47 = .ok (.ireturn, 1) := by decide +kernel
theorem dX11_way_48 : decode cX11_way 48 = .ok (.aload_n 0, 1) := by decide +kernel
theorem dX11_way_49 : decode cX11_way 49 = .ok (.getfield 22, 3) := by decide +kernel
theorem dX11_way_52 : decode cX11_way 52 = .ok (.getfield 102, 3) := by decide +kernel
theorem dX11_way_55 : decode cX11_way 55 = .ok (.bipush 20, 2) := by decide +kernel
theorem dX11_way_57 : decode cX11_way 57 = .ok (.if_icmp .ne 6, 3) := by decide +kernel
theorem dX11_way_60 : decode cX11_way 60 = .ok (.bipush (-4), 2) := by decide +kernel
theorem dX11_way_62 : decode cX11_way 62 = .ok (.ireturn, 1) := by decide +kernel
theorem dX11_way_63 : decode cX11_way 63 = .ok (.aload_n 0, 1) := by decide +kernel
theorem dX11_way_64 : decode cX11_way 64 = .ok (.getfield 22, 3) := by decide +kernel
theorem dX11_way_67 : decode cX11_way 67 = .ok (.iload_n 1, 1) := by decide +kernel
theorem dX11_way_68 : decode cX11_way 68 = .ok (.iload_n 2, 1) := by decide +kernel
theorem dX11_way_69 : decode cX11_way 69 = .ok (.iload_n 3, 1) := by decide +kernel
theorem dX11_way_70 : decode cX11_way 70 = .ok (.iload 4, 2) := by decide +kernel
theorem dX11_way_72 : decode cX11_way 72 = .ok (.invokevirtual 105, 3) := by decide +kernel
theorem dX11_way_75 : decode cX11_way 75 = .ok (.ireturn, 1) := by decide +kernel
theorem dX11_soil_0 : decode cX11_soil 0 = .ok (.iload_n 1, 1) := by decide +kernel
theorem dX11_soil_1 : decode cX11_soil 1 = .ok (.ifCond .lt 9, 3) := by decide +kernel
theorem dX11_soil_4 : decode cX11_soil 4 = .ok (.iload_n 1, 1) := by decide +kernel
theorem dX11_soil_5 : decode cX11_soil 5 = .ok (.bipush 31, 2) := by decide +kernel
theorem dX11_soil_7 : decode cX11_soil 7 = .ok (.if_icmp .le 6, 3) := by decide +kernel
theorem dX11_soil_10 : decode cX11_soil 10 = .ok (.bipush (-2), 2) := by decide +kernel
theorem dX11_soil_12 : decode cX11_soil 12 = .ok (.ireturn, 1) := by decide +kernel
theorem dX11_soil_13 : decode cX11_soil 13 = .ok (.aload_n 0, 1) := by decide +kernel
theorem dX11_soil_14 : decode cX11_soil 14 = .ok (.getfield 38, 3) := by decide +kernel
theorem dX11_soil_17 : decode cX11_soil 17 = .ok (.getfield 109, 3) := by decide +kernel
theorem dX11_soil_20 : decode cX11_soil 20 = .ok (.istore_n 2, 1) := by decide +kernel
theorem dX11_soil_21 : decode cX11_soil 21 = .ok (.aload_n 0, 1) := by decide +kernel
theorem dX11_soil_22 : decode cX11_soil 22 = .ok (.getfield 38, 3) := by decide +kernel
theorem dX11_soil_25 : decode cX11_soil 25 = .ok (.iload_n 1, 1) := by decide +kernel
theorem dX11_soil_26 : decode cX11_soil 26 = .ok (.putfield 109, 3) := by decide +kernel
theorem dX11_soil_29 : decode cX11_soil 29 = .ok (.iload_n 2, 1) := by decide +kernel
theorem dX11_soil_30 : decode cX11_soil 30 = .ok (.ireturn, 1) := by decide +kernel
theorem dX11_paper_0 : decode cX11_paper 0 = .ok (.iload_n 1, 1) := by decide +kernel
theorem dX11_paper_1 : decode cX11_paper 1 = .ok (.ifCond .lt 9, 3) := by decide +kernel
theorem dX11_paper_4 : decode cX11_paper 4 = .ok (.iload_n 1, 1) := by decide +kernel
theorem dX11_paper_5 : decode cX11_paper 5 = .ok (.bipush 6, 2) := by decide +kernel
theorem dX11_paper_7 : decode cX11_paper 7 = .ok (.if_icmp .lt 6, 3) := by decide +kernel
theorem dX11_paper_10 : decode cX11_paper 10 = .ok (.bipush (-2), 2) := by decide +kernel
theorem dX11_paper_12 : decode cX11_paper 12 = .ok (.ireturn, 1) := by decide +kernel
theorem dX11_paper_13 : decode cX11_paper 13 = .ok (.iload_n 2, 1) := by decide +kernel
theorem dX11_paper_14 : decode cX11_paper 14 = .ok (.invokestatic 95, 3) := by decide +kernel
theorem dX11_paper_17 : decode cX11_paper 17 = .ok (.ifCond .eq 19, 3) := by decide +kernel
theorem dX11_paper_20 : decode cX11_paper 20 = .ok (.iload_n 3, 1) := by decide +kernel
theorem dX11_paper_21 : decode cX11_paper 21 = .ok (.invokestatic 95, 3) := by decide +kernel
theorem dX11_paper_24 : decode cX11_paper 24 = .ok (.ifCond .eq 12, 3) := by decide +kernel
theorem dX11_paper_27 : decode cX11_paper 27 = .ok (.aload_n 0, 1) := by decide +kernel
theorem dX11_paper_28 : decode cX11_paper 28 = .ok (.iload 4, 2) := by decide +kernel
theorem dX11_paper_30 : decode cX11_paper 30 = .ok (.invokevirtual 112, 3) := by decide +kernel
theorem dX11_paper_33 : decode cX11_paper 33 = .ok (.ifCond .ne 6, 3) := by decide +kernel
theorem dX11_paper_36 : decode cX11_paper 36 = .ok (.bipush (-2), 2) := by decide +kernel
theorem dX11_paper_38 : decode cX11_paper 38 = .ok (.ireturn, 1) := by decide +kernel
theorem dX11_paper_39 : decode cX11_paper 39 = .ok (.aload_n 0, 1) := by decide +kernel
theorem dX11_paper_40 : decode cX11_paper 40 = .ok (.getfield 29, 3) := by decide +kernel
theorem dX11_paper_43 : decode cX11_paper 43 = .ok (.iload 5, 2) := by decide +kernel
theorem dX11_paper_45 : decode cX11_paper 45 = .ok (.invokevirtual 115, 3) := by decide +kernel
theorem dX11_paper_48 : decode cX11_paper 48 = .ok (.ifCond .ne 6, 3) := by decide +kernel
theorem dX11_paper_51 : decode cX11_paper 51 = .ok (.bipush (-2), 2) := by decide +kernel
theorem dX11_paper_53 : decode cX11_paper 53 = .ok (.ireturn, 1) := by decide +kernel
theorem dX11_paper_54 : decode cX11_paper 54 = .ok (.aload_n 0, 1) := by decide +kernel
theorem dX11_paper_55 : decode cX11_paper 55 = .ok (.getfield 29, 3) := by decide +kernel
theorem dX11_paper_58 : decode cX11_paper 58 = .ok (.getfield 118, 3) := by decide +kernel
theorem dX11_paper_61 : decode cX11_paper 61 = .ok (.bipush 16, 2) := by decide +kernel
theorem dX11_paper_63 : decode cX11_paper 63 = .ok (.if_icmp .ne 6, 3) := by decide +kernel
theorem dX11_paper_66 : decode cX11_paper 66 = .ok (.bipush (-4), 2) := by decide +kernel
theorem dX11_paper_68 : decode cX11_paper 68 = .ok (.ireturn, 1) := by decide +kernel
theorem dX11_paper_69 : decode cX11_paper 69 = .ok (.aload_n 0, 1) := by decide +kernel
theorem dX11_paper_70 : decode cX11_paper 70 = .ok (.getfield 29, 3) := by decide +kernel
theorem dX11_paper_73 : decode cX11_paper 73 = .ok (.iload_n 1, 1) := by decide +kernel
theorem dX11_paper_74 : decode cX11_paper 74 = .ok (.iload_n 2, 1) := by decide +kernel
theorem dX11_paper_75 : decode cX11_paper 75 = .ok (.iload_n 3, 1) := by decide +kernel
theorem dX11_paper_76 : decode cX11_paper 76 = .ok (.iload 4, 2) := by decide +kernel
theorem dX11_paper_78 : decode cX11_paper 78 = .ok (.iload 5, 2) := by decide +kernel
theorem dX11_paper_80 : decode cX11_paper 80 = .ok (.invokevirtual 119, 3) := by decide +kernel
theorem dX11_paper_83 : decode cX11_paper 83 = .ok (.ireturn, 1) := by decide +kernel
theorem dX11_paperTold_0 : decode cX11_paperTold 0 = .ok (.aload_n 0, 1) := by decide +kernel
theorem dX11_paperTold_1 : decode cX11_paperTold 1 = .ok (.getfield 29, 3) := by decide +kernel
theorem dX11_paperTold_4 : decode cX11_paperTold 4 = .ok (.iload_n 1, 1) := by decide +kernel
theorem dX11_paperTold_5 : decode cX11_paperTold 5 = .ok (.invokevirtual 122, 3) := by decide +kernel
theorem dX11_paperTold_8 : decode cX11_paperTold 8 = .ok (.ifCond .ne 6, 3) := by decide +kernel
theorem dX11_paperTold_11 : decode cX11_paperTold 11 = .ok (.bipush (-2), 2) := by decide +kernel
theorem dX11_paperTold_13 : decode cX11_paperTold 13 = .ok (.ireturn, 1) := by decide +kernel
theorem dX11_paperTold_14 : decode cX11_paperTold 14 = .ok (.iload_n 2, 1) := by decide +kernel
theorem dX11_paperTold_15 : decode cX11_paperTold 15 = .ok (.tableswitch 131 0 6 #[41, 51, 61, 71, 81, 91, 111], 41) := by decide +kernel
theorem dX11_paperTold_56 : decode cX11_paperTold 56 = .ok (.aload_n 0, 1) := by decide +kernel
theorem dX11_paperTold_57 : decode cX11_paperTold 57 = .ok (.getfield 29, 3) := by decide +kernel
theorem dX11_paperTold_60 : decode cX11_paperTold 60 = .ok (.getfield 125, 3) := by decide +kernel
theorem dX11_paperTold_63 : decode cX11_paperTold 63 = .ok (.iload_n 1, 1) := by decide +kernel
theorem dX11_paperTold_64 : decode cX11_paperTold 64 = .ok (.iaload, 1) := by decide +kernel
theorem dX11_paperTold_65 : decode cX11_paperTold 65 = .ok (.ireturn, 1) := by decide +kernel
theorem dX11_paperTold_66 : decode cX11_paperTold 66 = .ok (.aload_n 0, 1) := by decide +kernel
theorem dX11_paperTold_67 : decode cX11_paperTold 67 = .ok (.getfield 29, 3) := by decide +kernel
theorem dX11_paperTold_70 : decode cX11_paperTold 70 = .ok (.getfield 129, 3) := by decide +kernel
theorem dX11_paperTold_73 : decode cX11_paperTold 73 = .ok (.iload_n 1, 1) := by decide +kernel
theorem dX11_paperTold_74 : decode cX11_paperTold 74 = .ok (.iaload, 1) := by decide +kernel
theorem dX11_paperTold_75 : decode cX11_paperTold 75 = .ok (.ireturn, 1) := by decide +kernel
theorem dX11_paperTold_76 : decode cX11_paperTold 76 = .ok (.aload_n 0, 1) := by decide +kernel
theorem dX11_paperTold_77 : decode cX11_paperTold 77 = .ok (.getfield 29, 3) := by decide +kernel
theorem dX11_paperTold_80 : decode cX11_paperTold 80 = .ok (.getfield 132, 3) := by decide +kernel
theorem dX11_paperTold_83 : decode cX11_paperTold 83 = .ok (.iload_n 1, 1) := by decide +kernel
theorem dX11_paperTold_84 : decode cX11_paperTold 84 = .ok (.iaload, 1) := by decide +kernel
theorem dX11_paperTold_85 : decode cX11_paperTold 85 = .ok (.ireturn, 1) := by decide +kernel
theorem dX11_paperTold_86 : decode cX11_paperTold 86 = .ok (.aload_n 0, 1) := by decide +kernel
theorem dX11_paperTold_87 : decode cX11_paperTold 87 = .ok (.getfield 29, 3) := by decide +kernel
theorem dX11_paperTold_90 : decode cX11_paperTold 90 = .ok (.getfield 135, 3) := by decide +kernel
theorem dX11_paperTold_93 : decode cX11_paperTold 93 = .ok (.iload_n 1, 1) := by decide +kernel
theorem dX11_paperTold_94 : decode cX11_paperTold 94 = .ok (.iaload, 1) := by decide +kernel
theorem dX11_paperTold_95 : decode cX11_paperTold 95 = .ok (.ireturn, 1) := by decide +kernel
theorem dX11_paperTold_96 : decode cX11_paperTold 96 = .ok (.aload_n 0, 1) := by decide +kernel
theorem dX11_paperTold_97 : decode cX11_paperTold 97 = .ok (.getfield 29, 3) := by decide +kernel
theorem dX11_paperTold_100 : decode cX11_paperTold 100 = .ok (.getfield 138, 3) := by decide +kernel
theorem dX11_paperTold_103 : decode cX11_paperTold 103 = .ok (.iload_n 1, 1) := by decide +kernel
theorem dX11_paperTold_104 : decode cX11_paperTold 104 = .ok (.iaload, 1) := by decide +kernel
theorem dX11_paperTold_105 : decode cX11_paperTold 105 = .ok (.ireturn, 1) := by decide +kernel
theorem dX11_paperTold_106 : decode cX11_paperTold 106 = .ok (.aload_n 0, 1) := by decide +kernel
theorem dX11_paperTold_107 : decode cX11_paperTold 107 = .ok (.getfield 29, 3) := by decide +kernel
theorem dX11_paperTold_110 : decode cX11_paperTold 110 = .ok (.getfield 141, 3) := by decide +kernel
theorem dX11_paperTold_113 : decode cX11_paperTold 113 = .ok (.iload_n 1, 1) := by decide +kernel
theorem dX11_paperTold_114 : decode cX11_paperTold 114 = .ok (.invokestatic 144, 3) := by decide +kernel
theorem dX11_paperTold_117 : decode cX11_paperTold 117 = .ok (.ifCond .eq 7, 3) := by decide +kernel
theorem dX11_paperTold_120 : decode cX11_paperTold 120 = .ok (.iconst 1, 1) := by decide +kernel
theorem dX11_paperTold_121 : decode cX11_paperTold 121 = .ok (.goto 4, 3) := by decide +kernel
theorem dX11_paperTold_124 : decode cX11_paperTold 124 = .ok (.iconst 0, 1) := by decide +kernel
theorem dX11_paperTold_125 : decode cX11_paperTold 125 = .ok (.ireturn, 1) := by decide +kernel
theorem dX11_paperTold_126 : decode cX11_paperTold 126 = .ok (.aload_n 0, 1) := by decide +kernel
theorem dX11_paperTold_127 : decode cX11_paperTold 127 = .ok (.getfield 29, 3) := by decide +kernel
theorem dX11_paperTold_130 : decode cX11_paperTold 130 = .ok (.getfield 148, 3) := by decide +kernel
theorem dX11_paperTold_133 : decode cX11_paperTold 133 = .ok (.iload_n 1, 1) := by decide +kernel
theorem dX11_paperTold_134 : decode cX11_paperTold 134 = .ok (.invokestatic 144, 3) := by decide +kernel
theorem dX11_paperTold_137 : decode cX11_paperTold 137 = .ok (.ifCond .eq 7, 3) := by decide +kernel
theorem dX11_paperTold_140 : decode cX11_paperTold 140 = .ok (.iconst 1, 1) := by decide +kernel
theorem dX11_paperTold_141 : decode cX11_paperTold 141 = .ok (.goto 4, 3) := by decide +kernel
theorem dX11_paperTold_144 : decode cX11_paperTold 144 = .ok (.iconst 0, 1) := by decide +kernel
theorem dX11_paperTold_145 : decode cX11_paperTold 145 = .ok (.ireturn, 1) := by decide +kernel
theorem dX11_paperTold_146 : decode cX11_paperTold 146 = .ok (.bipush (-2), 2) := by decide +kernel
theorem dX11_paperTold_148 : decode cX11_paperTold 148 = .ok (.ireturn, 1) := by decide +kernel
theorem dX11_allows_0 : decode cX11_allows 0 = .ok (.aload_n 0, 1) := by decide +kernel
theorem dX11_allows_1 : decode cX11_allows 1 = .ok (.getfield 29, 3) := by decide +kernel
theorem dX11_allows_4 : decode cX11_allows 4 = .ok (.iload_n 1, 1) := by decide +kernel
theorem dX11_allows_5 : decode cX11_allows 5 = .ok (.invokevirtual 122, 3) := by decide +kernel
theorem dX11_allows_8 : decode cX11_allows 8 = .ok (.ifCond .eq 12, 3) := by decide +kernel
theorem dX11_allows_11 : decode cX11_allows 11 = .ok (.aload_n 0, 1) := by decide +kernel
theorem dX11_allows_12 : decode cX11_allows 12 = .ok (.iload_n 2, 1) := by decide +kernel
theorem dX11_allows_13 : decode cX11_allows 13 = .ok (.iload_n 3, 1) := by decide +kernel
theorem dX11_allows_14 : decode cX11_allows 14 = .ok (.invokevirtual 151, 3) := by decide +kernel
theorem dX11_allows_17 : decode cX11_allows 17 = .ok (.ifCond .ne 6, 3) := by decide +kernel
theorem dX11_allows_20 : decode cX11_allows 20 = .ok (.bipush (-2), 2) := by decide +kernel
theorem dX11_allows_22 : decode cX11_allows 22 = .ok (.ireturn, 1) := by decide +kernel
theorem dX11_allows_23 : decode cX11_allows 23 = .ok (.aload_n 0, 1) := by decide +kernel
theorem dX11_allows_24 : decode cX11_allows 24 = .ok (.getfield 29, 3) := by decide +kernel
theorem dX11_allows_27 : decode cX11_allows 27 = .ok (.iload_n 1, 1) := by decide +kernel
theorem dX11_allows_28 : decode cX11_allows 28 = .ok (.iload_n 3, 1) := by decide +kernel
theorem dX11_allows_29 : decode cX11_allows 29 = .ok (.invokevirtual 154, 3) := by decide +kernel
theorem dX11_allows_32 : decode cX11_allows 32 = .ok (.iload_n 2, 1) := by decide +kernel
theorem dX11_allows_33 : decode cX11_allows 33 = .ok (.invokestatic 144, 3) := by decide +kernel
theorem dX11_allows_36 : decode cX11_allows 36 = .ok (.ifCond .eq 7, 3) := by decide +kernel
theorem dX11_allows_39 : decode cX11_allows 39 = .ok (.iconst 1, 1) := by decide +kernel
theorem dX11_allows_40 : decode cX11_allows 40 = .ok (.goto 4, 3) := by decide +kernel
theorem dX11_allows_43 : decode cX11_allows 43 = .ok (.iconst 0, 1) := by decide +kernel
theorem dX11_allows_44 : decode cX11_allows 44 = .ok (.ireturn, 1) := by decide +kernel
theorem dX11_forge_0 : decode cX11_forge 0 = .ok (.aload_n 0, 1) := by decide +kernel
theorem dX11_forge_1 : decode cX11_forge 1 = .ok (.getfield 29, 3) := by decide +kernel
theorem dX11_forge_4 : decode cX11_forge 4 = .ok (.iload_n 1, 1) := by decide +kernel
theorem dX11_forge_5 : decode cX11_forge 5 = .ok (.invokevirtual 122, 3) := by decide +kernel
theorem dX11_forge_8 : decode cX11_forge 8 = .ok (.ifCond .eq 12, 3) := by decide +kernel
theorem dX11_forge_11 : decode cX11_forge 11 = .ok (.iload_n 2, 1) := by decide +kernel
theorem dX11_forge_12 : decode cX11_forge 12 = .ok (.ifCond .lt 8, 3) := by decide +kernel
theorem dX11_forge_15 : decode cX11_forge 15 = .ok (.iload_n 2, 1) := by decide +kernel
theorem dX11_forge_16 : decode cX11_forge 16 = .ok (.iconst 1, 1) := by decide +kernel
theorem dX11_forge_17 : decode cX11_forge 17 = .ok (.if_icmp .le 6, 3) := by decide +kernel
theorem dX11_forge_20 : decode cX11_forge 20 = .ok (.bipush (-2), 2) := by decide +kernel
theorem dX11_forge_22 : decode cX11_forge 22 = .ok (.ireturn, 1) := by decide +kernel
theorem dX11_forge_23 : decode cX11_forge 23 = .ok (.aload_n 0, 1) := by decide +kernel
theorem dX11_forge_24 : decode cX11_forge 24 = .ok (.getfield 29, 3) := by decide +kernel
theorem dX11_forge_27 : decode cX11_forge 27 = .ok (.iload_n 1, 1) := by decide +kernel
theorem dX11_forge_28 : decode cX11_forge 28 = .ok (.iload_n 2, 1) := by decide +kernel
theorem dX11_forge_29 : decode cX11_forge 29 = .ok (.iconst 1, 1) := by decide +kernel
theorem dX11_forge_30 : decode cX11_forge 30 = .ok (.if_icmp .ne 7, 3) := by decide +kernel
theorem dX11_forge_33 : decode cX11_forge 33 = .ok (.iconst 1, 1) := by decide +kernel
theorem dX11_forge_34 : decode cX11_forge 34 = .ok (.goto 4, 3) := by decide +kernel
theorem dX11_forge_37 : decode cX11_forge 37 = .ok (.iconst 0, 1) := by decide +kernel
theorem dX11_forge_38 : decode cX11_forge 38 = .ok (.invokevirtual 157, 3) := by decide +kernel
theorem dX11_forge_41 : decode cX11_forge 41 = .ok (.aload_n 0, 1) := by decide +kernel
theorem dX11_forge_42 : decode cX11_forge 42 = .ok (.getfield 29, 3) := by decide +kernel
theorem dX11_forge_45 : decode cX11_forge 45 = .ok (.invokevirtual 161, 3) := by decide +kernel
theorem dX11_forge_48 : decode cX11_forge 48 = .ok (.ireturn, 1) := by decide +kernel
theorem dX11_fall_0 : decode cX11_fall 0 = .ok (.aload_n 0, 1) := by decide +kernel
theorem dX11_fall_1 : decode cX11_fall 1 = .ok (.getfield 29, 3) := by decide +kernel
theorem dX11_fall_4 : decode cX11_fall 4 = .ok (.iload_n 1, 1) := by decide +kernel
theorem dX11_fall_5 : decode cX11_fall 5 = .ok (.invokevirtual 122, 3) := by decide +kernel
theorem dX11_fall_8 : decode cX11_fall 8 = .ok (.ifCond .ne 6, 3) := by decide +kernel
theorem dX11_fall_11 : decode cX11_fall 11 = .ok (.bipush (-2), 2) := by decide +kernel
theorem dX11_fall_13 : decode cX11_fall 13 = .ok (.ireturn, 1) := by decide +kernel
theorem dX11_fall_14 : decode cX11_fall 14 = .ok (.aload_n 0, 1) := by decide +kernel
theorem dX11_fall_15 : decode cX11_fall 15 = .ok (.getfield 29, 3) := by decide +kernel
theorem dX11_fall_18 : decode cX11_fall 18 = .ok (.iload_n 1, 1) := by decide +kernel
theorem dX11_fall_19 : decode cX11_fall 19 = .ok (.invokevirtual 165, 3) := by decide +kernel
theorem dX11_fall_22 : decode cX11_fall 22 = .ok (.ireturn, 1) := by decide +kernel
theorem dX11_histories_0 : decode cX11_histories 0 = .ok (.aload_n 0, 1) := by decide +kernel
theorem dX11_histories_1 : decode cX11_histories 1 = .ok (.getfield 38, 3) := by decide +kernel
theorem dX11_histories_4 : decode cX11_histories 4 = .ok (.invokevirtual 169, 3) := by decide +kernel
theorem dX11_histories_7 : decode cX11_histories 7 = .ok (.aload_n 0, 1) := by decide +kernel
theorem dX11_histories_8 : decode cX11_histories 8 = .ok (.getfield 38, 3) := by decide +kernel
theorem dX11_histories_11 : decode cX11_histories 11 = .ok (.invokevirtual 172, 3) := by decide +kernel
theorem dX11_histories_14 : decode cX11_histories 14 = .ok (.lreturn, 1) := by decide +kernel
theorem dX11_at_0 : decode cX11_at 0 = .ok (.aload_n 0, 1) := by decide +kernel
theorem dX11_at_1 : decode cX11_at 1 = .ok (.iload_n 1, 1) := by decide +kernel
theorem dX11_at_2 : decode cX11_at 2 = .ok (.iload_n 2, 1) := by decide +kernel
theorem dX11_at_3 : decode cX11_at 3 = .ok (.invokevirtual 151, 3) := by decide +kernel
theorem dX11_at_6 : decode cX11_at 6 = .ok (.ifCond .ne 7, 3) := by decide +kernel
theorem dX11_at_9 : decode cX11_at 9 = .ok (.ldc2_w 176, 3) := by decide +kernel
theorem dX11_at_12 : decode cX11_at 12 = .ok (.lreturn, 1) := by decide +kernel
theorem dX11_at_13 : decode cX11_at 13 = .ok (.aload_n 0, 1) := by decide +kernel
theorem dX11_at_14 : decode cX11_at 14 = .ok (.getfield 38, 3) := by decide +kernel
theorem dX11_at_17 : decode cX11_at 17 = .ok (.invokevirtual 169, 3) := by decide +kernel
theorem dX11_at_20 : decode cX11_at 20 = .ok (.aload_n 0, 1) := by decide +kernel
theorem dX11_at_21 : decode cX11_at 21 = .ok (.getfield 38, 3) := by decide +kernel
theorem dX11_at_24 : decode cX11_at 24 = .ok (.iload_n 1, 1) := by decide +kernel
theorem dX11_at_25 : decode cX11_at 25 = .ok (.iload_n 2, 1) := by decide +kernel
theorem dX11_at_26 : decode cX11_at 26 = .ok (.invokestatic 178, 3) := by decide +kernel
theorem dX11_at_29 : decode cX11_at 29 = .ok (.invokevirtual 181, 3) := by decide +kernel
theorem dX11_at_32 : decode cX11_at 32 = .ok (.lreturn, 1) := by decide +kernel
theorem dX11_both_0 : decode cX11_both 0 = .ok (.aload_n 0, 1) := by decide +kernel
theorem dX11_both_1 : decode cX11_both 1 = .ok (.iload_n 1, 1) := by decide +kernel
theorem dX11_both_2 : decode cX11_both 2 = .ok (.iload_n 2, 1) := by decide +kernel
theorem dX11_both_3 : decode cX11_both 3 = .ok (.invokevirtual 151, 3) := by decide +kernel
theorem dX11_both_6 : decode cX11_both 6 = .ok (.ifCond .eq 13, 3) := by decide +kernel
theorem dX11_both_9 : decode cX11_both 9 = .ok (.aload_n 0, 1) := by decide +kernel
theorem dX11_both_10 : decode cX11_both 10 = .ok (.iload_n 3, 1) := by decide +kernel
theorem dX11_both_11 : decode cX11_both 11 = .ok (.iload 4, 2) := by decide +kernel
theorem dX11_both_13 : decode cX11_both 13 = .ok (.invokevirtual 151, 3) := by decide +kernel
theorem dX11_both_16 : decode cX11_both 16 = .ok (.ifCond .ne 7, 3) := by decide +kernel
theorem dX11_both_19 : decode cX11_both 19 = .ok (.ldc2_w 176, 3) := by decide +kernel
theorem dX11_both_22 : decode cX11_both 22 = .ok (.lreturn, 1) := by decide +kernel
theorem dX11_both_23 : decode cX11_both 23 = .ok (.aload_n 0, 1) := by decide +kernel
theorem dX11_both_24 : decode cX11_both 24 = .ok (.getfield 38, 3) := by decide +kernel
theorem dX11_both_27 : decode cX11_both 27 = .ok (.invokevirtual 169, 3) := by decide +kernel
theorem dX11_both_30 : decode cX11_both 30 = .ok (.aload_n 0, 1) := by decide +kernel
theorem dX11_both_31 : decode cX11_both 31 = .ok (.getfield 38, 3) := by decide +kernel
theorem dX11_both_34 : decode cX11_both 34 = .ok (.iload_n 1, 1) := by decide +kernel
theorem dX11_both_35 : decode cX11_both 35 = .ok (.iload_n 2, 1) := by decide +kernel
theorem dX11_both_36 : decode cX11_both 36 = .ok (.invokevirtual 185, 3) := by decide +kernel
theorem dX11_both_39 : decode cX11_both 39 = .ok (.aload_n 0, 1) := by decide +kernel
theorem dX11_both_40 : decode cX11_both 40 = .ok (.getfield 38, 3) := by decide +kernel
theorem dX11_both_43 : decode cX11_both 43 = .ok (.getfield 189, 3) := by decide +kernel
theorem dX11_both_46 : decode cX11_both 46 = .ok (.iload_n 3, 1) := by decide +kernel
theorem dX11_both_47 : decode cX11_both 47 = .ok (.iload 4, 2) := by decide +kernel
theorem dX11_both_49 : decode cX11_both 49 = .ok (.invokestatic 178, 3) := by decide +kernel
theorem dX11_both_52 : decode cX11_both 52 = .ok (.laload, 1) := by decide +kernel
theorem dX11_both_53 : decode cX11_both 53 = .ok (.lreturn, 1) := by decide +kernel
theorem dX11_history_0 : decode cX11_history 0 = .ok (.iload_n 1, 1) := by decide +kernel
theorem dX11_history_1 : decode cX11_history 1 = .ok (.ifCond .lt 18, 3) := by decide +kernel
theorem dX11_history_4 : decode cX11_history 4 = .ok (.iload_n 1, 1) := by decide +kernel
theorem dX11_history_5 : decode cX11_history 5 = .ok (.sipush 10000, 3) := by decide +kernel
theorem dX11_history_8 : decode cX11_history 8 = .ok (.if_icmp .ge 11, 3) := by decide +kernel
theorem dX11_history_11 : decode cX11_history 11 = .ok (.aload_n 0, 1) := by decide +kernel
theorem dX11_history_12 : decode cX11_history 12 = .ok (.iload_n 2, 1) := by decide +kernel
theorem dX11_history_13 : decode cX11_history 13 = .ok (.invokevirtual 112, 3) := by decide +kernel
theorem dX11_history_16 : decode cX11_history 16 = .ok (.ifCond .ne 6, 3) := by decide +kernel
theorem dX11_history_19 : decode cX11_history 19 = .ok (.bipush (-2), 2) := by decide +kernel
theorem dX11_history_21 : decode cX11_history 21 = .ok (.ireturn, 1) := by decide +kernel
theorem dX11_history_22 : decode cX11_history 22 = .ok (.aload_n 0, 1) := by decide +kernel
theorem dX11_history_23 : decode cX11_history 23 = .ok (.getfield 38, 3) := by decide +kernel
theorem dX11_history_26 : decode cX11_history 26 = .ok (.invokevirtual 169, 3) := by decide +kernel
theorem dX11_history_29 : decode cX11_history 29 = .ok (.iload_n 1, 1) := by decide +kernel
theorem dX11_history_30 : decode cX11_history 30 = .ok (.i2l, 1) := by decide +kernel
theorem dX11_history_31 : decode cX11_history 31 = .ok (.aload_n 0, 1) := by decide +kernel
theorem dX11_history_32 : decode cX11_history 32 = .ok (.getfield 38, 3) := by decide +kernel
theorem dX11_history_35 : decode cX11_history 35 = .ok (.invokevirtual 172, 3) := by decide +kernel
theorem dX11_history_38 : decode cX11_history 38 = .ok (.lcmp, 1) := by decide +kernel
theorem dX11_history_39 : decode cX11_history 39 = .ok (.ifCond .lt 5, 3) := by decide +kernel
theorem dX11_history_42 : decode cX11_history 42 = .ok (.iconst (-1), 1) := by decide +kernel
theorem dX11_history_43 : decode cX11_history 43 = .ok (.ireturn, 1) := by decide +kernel
theorem dX11_history_44 : decode cX11_history 44 = .ok (.aload_n 0, 1) := by decide +kernel
theorem dX11_history_45 : decode cX11_history 45 = .ok (.getfield 38, 3) := by decide +kernel
theorem dX11_history_48 : decode cX11_history 48 = .ok (.iload_n 1, 1) := by decide +kernel
theorem dX11_history_49 : decode cX11_history 49 = .ok (.iload_n 2, 1) := by decide +kernel
theorem dX11_history_50 : decode cX11_history 50 = .ok (.invokevirtual 193, 3) := by decide +kernel
theorem dX11_history_53 : decode cX11_history 53 = .ok (.ireturn, 1) := by decide +kernel
theorem dX11_feed_0 : decode cX11_feed 0 = .ok (.iload_n 1, 1) := by decide +kernel
theorem dX11_feed_1 : decode cX11_feed 1 = .ok (.iconst 1, 1) := by decide +kernel
theorem dX11_feed_2 : decode cX11_feed 2 = .ok (.if_icmp .lt 9, 3) := by decide +kernel
theorem dX11_feed_5 : decode cX11_feed 5 = .ok (.iload_n 1, 1) := by decide +kernel
theorem dX11_feed_6 : decode cX11_feed 6 = .ok (.bipush 8, 2) := by decide +kernel
theorem dX11_feed_8 : decode cX11_feed 8 = .ok (.if_icmp .le 6, 3) := by decide +kernel
theorem dX11_feed_11 : decode cX11_feed 11 = .ok (.bipush (-2), 2) := by decide +kernel
theorem dX11_feed_13 : decode cX11_feed 13 = .ok (.ireturn, 1) := by decide +kernel
theorem dX11_feed_14 : decode cX11_feed 14 = .ok (.iload_n 1, 1) := by decide +kernel
theorem dX11_feed_15 : decode cX11_feed 15 = .ok (.sipush 160, 3) := by decide +kernel
theorem dX11_feed_18 : decode cX11_feed 18 = .ok (.aload_n 0, 1) := by decide +kernel
theorem dX11_feed_19 : decode cX11_feed 19 = .ok (.getfield 45, 3) := by decide +kernel
theorem dX11_feed_22 : decode cX11_feed 22 = .ok (.getfield 196, 3) := by decide +kernel
theorem dX11_feed_25 : decode cX11_feed 25 = .ok (.isub, 1) := by decide +kernel
theorem dX11_feed_26 : decode cX11_feed 26 = .ok (.if_icmp .le 6, 3) := by decide +kernel
theorem dX11_feed_29 : decode cX11_feed 29 = .ok (.bipush (-4), 2) := by decide +kernel
theorem dX11_feed_31 : decode cX11_feed 31 = .ok (.ireturn, 1) := by decide +kernel
theorem dX11_feed_32 : decode cX11_feed 32 = .ok (.aload_n 0, 1) := by decide +kernel
theorem dX11_feed_33 : decode cX11_feed 33 = .ok (.getfield 45, 3) := by decide +kernel
theorem dX11_feed_36 : decode cX11_feed 36 = .ok (.iload_n 1, 1) := by decide +kernel
theorem dX11_feed_37 : decode cX11_feed 37 = .ok (.lload_n 2, 1) := by decide +kernel
theorem dX11_feed_38 : decode cX11_feed 38 = .ok (.invokevirtual 197, 3) := by decide +kernel
theorem dX11_feed_41 : decode cX11_feed 41 = .ok (.ireturn, 1) := by decide +kernel
theorem dX11_text_0 : decode cX11_text 0 = .ok (.aload_n 0, 1) := by decide +kernel
theorem dX11_text_1 : decode cX11_text 1 = .ok (.getfield 52, 3) := by decide +kernel
theorem dX11_text_4 : decode cX11_text 4 = .ok (.getfield 201, 3) := by decide +kernel
theorem dX11_text_7 : decode cX11_text 7 = .ok (.bipush 6, 2) := by decide +kernel
theorem dX11_text_9 : decode cX11_text 9 = .ok (.if_icmp .ne 6, 3) := by decide +kernel
theorem dX11_text_12 : decode cX11_text 12 = .ok (.bipush (-4), 2) := by decide +kernel
theorem dX11_text_14 : decode cX11_text 14 = .ok (.ireturn, 1) := by decide +kernel
theorem dX11_text_15 : decode cX11_text 15 = .ok (.aload_n 0, 1) := by decide +kernel
theorem dX11_text_16 : decode cX11_text 16 = .ok (.getfield 45, 3) := by decide +kernel
theorem dX11_text_19 : decode cX11_text 19 = .ok (.invokevirtual 204, 3) := by decide +kernel
theorem dX11_text_22 : decode cX11_text 22 = .ok (.istore_n 1, 1) := by decide +kernel
theorem dX11_text_23 : decode cX11_text 23 = .ok (.aload_n 0, 1) := by decide +kernel
theorem dX11_text_24 : decode cX11_text 24 = .ok (.getfield 45, 3) := by decide +kernel
theorem dX11_text_27 : decode cX11_text 27 = .ok (.iconst 0, 1) := by decide +kernel
theorem dX11_text_28 : decode cX11_text 28 = .ok (.putfield 196, 3) := by decide +kernel
theorem dX11_text_31 : decode cX11_text 31 = .ok (.iload_n 1, 1) := by decide +kernel
theorem dX11_text_32 : decode cX11_text 32 = .ok (.iconst (-1), 1) := by decide +kernel
theorem dX11_text_33 : decode cX11_text 33 = .ok (.if_icmp .eq 8, 3) := by decide +kernel
theorem dX11_text_36 : decode cX11_text 36 = .ok (.bipush (-100), 2) := by decide +kernel
theorem dX11_text_38 : decode cX11_text 38 = .ok (.iload_n 1, 1) := by decide +kernel
theorem dX11_text_39 : decode cX11_text 39 = .ok (.isub, 1) := by decide +kernel
theorem dX11_text_40 : decode cX11_text 40 = .ok (.ireturn, 1) := by decide +kernel
theorem dX11_text_41 : decode cX11_text 41 = .ok (.aload_n 0, 1) := by decide +kernel
theorem dX11_text_42 : decode cX11_text 42 = .ok (.getfield 52, 3) := by decide +kernel
theorem dX11_text_45 : decode cX11_text 45 = .ok (.aload_n 0, 1) := by decide +kernel
theorem dX11_text_46 : decode cX11_text 46 = .ok (.getfield 45, 3) := by decide +kernel
theorem dX11_text_49 : decode cX11_text 49 = .ok (.invokevirtual 207, 3) := by decide +kernel
theorem dX11_text_52 : decode cX11_text 52 = .ok (.aload_n 0, 1) := by decide +kernel
theorem dX11_text_53 : decode cX11_text 53 = .ok (.getfield 45, 3) := by decide +kernel
theorem dX11_text_56 : decode cX11_text 56 = .ok (.getfield 211, 3) := by decide +kernel
theorem dX11_text_59 : decode cX11_text 59 = .ok (.invokevirtual 214, 3) := by decide +kernel
theorem dX11_text_62 : decode cX11_text 62 = .ok (.ireturn, 1) := by decide +kernel
theorem dX11_law_0 : decode cX11_law 0 = .ok (.aload_n 0, 1) := by decide +kernel
theorem dX11_law_1 : decode cX11_law 1 = .ok (.iload_n 1, 1) := by decide +kernel
theorem dX11_law_2 : decode cX11_law 2 = .ok (.iload_n 2, 1) := by decide +kernel
theorem dX11_law_3 : decode cX11_law 3 = .ok (.invokevirtual 151, 3) := by decide +kernel
theorem dX11_law_6 : decode cX11_law 6 = .ok (.ifCond .eq 18, 3) := by decide +kernel
theorem dX11_law_9 : decode cX11_law 9 = .ok (.iload_n 3, 1) := by decide +kernel
theorem dX11_law_10 : decode cX11_law 10 = .ok (.ifCond .lt 14, 3) := by decide +kernel
theorem dX11_law_13 : decode cX11_law 13 = .ok (.iload_n 3, 1) := by decide +kernel
theorem dX11_law_14 : decode cX11_law 14 = .ok (.aload_n 0, 1) := by decide +kernel
theorem dX11_law_15 : decode cX11_law 15 = .ok (.getfield 52, 3) := by decide +kernel
theorem dX11_law_18 : decode cX11_law 18 = .ok (.getfield 201, 3) := by decide +kernel
theorem dX11_law_21 : decode cX11_law 21 = .ok (.if_icmp .lt 6, 3) := by decide +kernel
theorem dX11_law_24 : decode cX11_law 24 = .ok (.bipush (-2), 2) := by decide +kernel
theorem dX11_law_26 : decode cX11_law 26 = .ok (.ireturn, 1) := by decide +kernel
theorem dX11_law_27 : decode cX11_law 27 = .ok (.aload_n 0, 1) := by decide +kernel
theorem dX11_law_28 : decode cX11_law 28 = .ok (.getfield 52, 3) := by decide +kernel
theorem dX11_law_31 : decode cX11_law 31 = .ok (.getfield 218, 3) := by decide +kernel
theorem dX11_law_34 : decode cX11_law 34 = .ok (.bipush 20, 2) := by decide +kernel
theorem dX11_law_36 : decode cX11_law 36 = .ok (.if_icmp .ne 6, 3) := by decide +kernel
theorem dX11_law_39 : decode cX11_law 39 = .ok (.bipush (-4), 2) := by decide +kernel
theorem dX11_law_41 : decode cX11_law 41 = .ok (.ireturn, 1) := by decide +kernel
theorem dX11_law_42 : decode cX11_law 42 = .ok (.aload_n 0, 1) := by decide +kernel
theorem dX11_law_43 : decode cX11_law 43 = .ok (.getfield 52, 3) := by decide +kernel
theorem dX11_law_46 : decode cX11_law 46 = .ok (.iload_n 1, 1) := by decide +kernel
theorem dX11_law_47 : decode cX11_law 47 = .ok (.iload_n 2, 1) := by decide +kernel
theorem dX11_law_48 : decode cX11_law 48 = .ok (.iload_n 3, 1) := by decide +kernel
theorem dX11_law_49 : decode cX11_law 49 = .ok (.invokevirtual 219, 3) := by decide +kernel
theorem dX11_law_52 : decode cX11_law 52 = .ok (.ireturn, 1) := by decide +kernel
theorem dX11_lawOf_0 : decode cX11_lawOf 0 = .ok (.aload_n 0, 1) := by decide +kernel
theorem dX11_lawOf_1 : decode cX11_lawOf 1 = .ok (.iload_n 1, 1) := by decide +kernel
theorem dX11_lawOf_2 : decode cX11_lawOf 2 = .ok (.iload_n 2, 1) := by decide +kernel
theorem dX11_lawOf_3 : decode cX11_lawOf 3 = .ok (.invokevirtual 151, 3) := by decide +kernel
theorem dX11_lawOf_6 : decode cX11_lawOf 6 = .ok (.ifCond .ne 6, 3) := by decide +kernel
theorem dX11_lawOf_9 : decode cX11_lawOf 9 = .ok (.bipush (-2), 2) := by decide +kernel
theorem dX11_lawOf_11 : decode cX11_lawOf 11 = .ok (.ireturn, 1) := by decide +kernel
theorem dX11_lawOf_12 : decode cX11_lawOf 12 = .ok (.aload_n 0, 1) := by decide +kernel
theorem dX11_lawOf_13 : decode cX11_lawOf 13 = .ok (.getfield 52, 3) := by decide +kernel
theorem dX11_lawOf_16 : decode cX11_lawOf 16 = .ok (.iload_n 1, 1) := by decide +kernel
theorem dX11_lawOf_17 : decode cX11_lawOf 17 = .ok (.iload_n 2, 1) := by decide +kernel
theorem dX11_lawOf_18 : decode cX11_lawOf 18 = .ok (.invokevirtual 222, 3) := by decide +kernel
theorem dX11_lawOf_21 : decode cX11_lawOf 21 = .ok (.ireturn, 1) := by decide +kernel
theorem dX11_says_0 : decode cX11_says 0 = .ok (.iload_n 1, 1) := by decide +kernel
theorem dX11_says_1 : decode cX11_says 1 = .ok (.invokestatic 95, 3) := by decide +kernel
theorem dX11_says_4 : decode cX11_says 4 = .ok (.ifCond .eq 15, 3) := by decide +kernel
theorem dX11_says_7 : decode cX11_says 7 = .ok (.iload_n 2, 1) := by decide +kernel
theorem dX11_says_8 : decode cX11_says 8 = .ok (.invokestatic 95, 3) := by decide +kernel
theorem dX11_says_11 : decode cX11_says 11 = .ok (.ifCond .eq 8, 3) := by decide +kernel
theorem dX11_says_14 : decode cX11_says 14 = .ok (.iload_n 1, 1) := by decide +kernel
theorem dX11_says_15 : decode cX11_says 15 = .ok (.iload_n 2, 1) := by decide +kernel
theorem dX11_says_16 : decode cX11_says 16 = .ok (.if_icmp .ne 7, 3) := by decide +kernel
theorem dX11_says_19 : decode cX11_says 19 = .ok (.ldc2_w 176, 3) := by decide +kernel
theorem dX11_says_22 : decode cX11_says 22 = .ok (.lreturn, 1) := by decide +kernel
theorem dX11_says_23 : decode cX11_says 23 = .ok (.aload_n 0, 1) := by decide +kernel
theorem dX11_says_24 : decode cX11_says 24 = .ok (.iload_n 3, 1) := by decide +kernel
theorem dX11_says_25 : decode cX11_says 25 = .ok (.invokevirtual 99, 3) := by decide +kernel
theorem dX11_says_28 : decode cX11_says 28 = .ok (.ifCond .eq 14, 3) := by decide +kernel
theorem dX11_says_31 : decode cX11_says 31 = .ok (.iload 4, 2) := by decide +kernel
theorem dX11_says_33 : decode cX11_says 33 = .ok (.ifCond .lt 9, 3) := by decide +kernel
theorem dX11_says_36 : decode cX11_says 36 = .ok (.iload 4, 2) := by decide +kernel
theorem dX11_says_38 : decode cX11_says 38 = .ok (.iconst 1, 1) := by decide +kernel
theorem dX11_says_39 : decode cX11_says 39 = .ok (.if_icmp .le 7, 3) := by decide +kernel
theorem dX11_says_42 : decode cX11_says 42 = .ok (.ldc2_w 176, 3) := by decide +kernel
theorem dX11_says_45 : decode cX11_says 45 = .ok (.lreturn, 1) := by decide +kernel
theorem dX11_says_46 : decode cX11_says 46 = .ok (.iload 4, 2) := by decide +kernel
theorem dX11_says_48 : decode cX11_says 48 = .ok (.ifCond .ne 17, 3) := by decide +kernel
theorem dX11_says_51 : decode cX11_says 51 = .ok (.aload_n 0, 1) := by decide +kernel
theorem dX11_says_52 : decode cX11_says 52 = .ok (.getfield 52, 3) := by decide +kernel
theorem dX11_says_55 : decode cX11_says 55 = .ok (.iload_n 1, 1) := by decide +kernel
theorem dX11_says_56 : decode cX11_says 56 = .ok (.iload_n 2, 1) := by decide +kernel
theorem dX11_says_57 : decode cX11_says 57 = .ok (.iload_n 3, 1) := by decide +kernel
theorem dX11_says_58 : decode cX11_says 58 = .ok (.invokevirtual 225, 3) := by decide +kernel
theorem dX11_says_61 : decode cX11_says 61 = .ok (.i2l, 1) := by decide +kernel
theorem dX11_says_62 : decode cX11_says 62 = .ok (.goto 14, 3) := by decide +kernel
theorem dX11_says_65 : decode cX11_says 65 = .ok (.aload_n 0, 1) := by decide +kernel
theorem dX11_says_66 : decode cX11_says 66 = .ok (.getfield 52, 3) := by decide +kernel
theorem dX11_says_69 : decode cX11_says 69 = .ok (.iload_n 1, 1) := by decide +kernel
theorem dX11_says_70 : decode cX11_says 70 = .ok (.iload_n 2, 1) := by decide +kernel
theorem dX11_says_71 : decode cX11_says 71 = .ok (.iload_n 3, 1) := by decide +kernel
theorem dX11_says_72 : decode cX11_says 72 = .ok (.invokevirtual 228, 3) := by decide +kernel
theorem dX11_says_75 : decode cX11_says 75 = .ok (.i2l, 1) := by decide +kernel
theorem dX11_says_76 : decode cX11_says 76 = .ok (.lreturn, 1) := by decide +kernel
theorem dX11_given_0 : decode cX11_given 0 = .ok (.iload_n 1, 1) := by decide +kernel
theorem dX11_given_1 : decode cX11_given 1 = .ok (.invokestatic 95, 3) := by decide +kernel
theorem dX11_given_4 : decode cX11_given 4 = .ok (.ifCond .ne 7, 3) := by decide +kernel
theorem dX11_given_7 : decode cX11_given 7 = .ok (.ldc2_w 176, 3) := by decide +kernel
theorem dX11_given_10 : decode cX11_given 10 = .ok (.lreturn, 1) := by decide +kernel
theorem dX11_given_11 : decode cX11_given 11 = .ok (.aload_n 0, 1) := by decide +kernel
theorem dX11_given_12 : decode cX11_given 12 = .ok (.invokevirtual 231, 3) := by decide +kernel
theorem dX11_given_15 : decode cX11_given 15 = .ok (.aload_n 0, 1) := by decide +kernel
theorem dX11_given_16 : decode cX11_given 16 = .ok (.getfield 61, 3) := by decide +kernel
theorem dX11_given_19 : decode cX11_given 19 = .ok (.iload_n 1, 1) := by decide +kernel
theorem dX11_given_20 : decode cX11_given 20 = .ok (.invokevirtual 234, 3) := by decide +kernel
theorem dX11_given_23 : decode cX11_given 23 = .ok (.lreturn, 1) := by decide +kernel
theorem dX11_claim_0 : decode cX11_claim 0 = .ok (.iload_n 1, 1) := by decide +kernel
theorem dX11_claim_1 : decode cX11_claim 1 = .ok (.invokestatic 95, 3) := by decide +kernel
theorem dX11_claim_4 : decode cX11_claim 4 = .ok (.ifCond .ne 7, 3) := by decide +kernel
theorem dX11_claim_7 : decode cX11_claim 7 = .ok (.ldc2_w 176, 3) := by decide +kernel
theorem dX11_claim_10 : decode cX11_claim 10 = .ok (.lreturn, 1) := by decide +kernel
theorem dX11_claim_11 : decode cX11_claim 11 = .ok (.aload_n 0, 1) := by decide +kernel
theorem dX11_claim_12 : decode cX11_claim 12 = .ok (.getfield 38, 3) := by decide +kernel
theorem dX11_claim_15 : decode cX11_claim 15 = .ok (.invokevirtual 169, 3) := by decide +kernel
theorem dX11_claim_18 : decode cX11_claim 18 = .ok (.aload_n 0, 1) := by decide +kernel
theorem dX11_claim_19 : decode cX11_claim 19 = .ok (.getfield 61, 3) := by decide +kernel
theorem dX11_claim_22 : decode cX11_claim 22 = .ok (.iload_n 1, 1) := by decide +kernel
theorem dX11_claim_23 : decode cX11_claim 23 = .ok (.invokevirtual 237, 3) := by decide +kernel
theorem dX11_claim_26 : decode cX11_claim 26 = .ok (.lreturn, 1) := by decide +kernel
theorem dX11_judge_0 : decode cX11_judge 0 = .ok (.aload_n 0, 1) := by decide +kernel
theorem dX11_judge_1 : decode cX11_judge 1 = .ok (.getfield 61, 3) := by decide +kernel
theorem dX11_judge_4 : decode cX11_judge 4 = .ok (.getfield 240, 3) := by decide +kernel
theorem dX11_judge_7 : decode cX11_judge 7 = .ok (.bipush 12, 2) := by decide +kernel
theorem dX11_judge_9 : decode cX11_judge 9 = .ok (.if_icmp .ne 6, 3) := by decide +kernel
theorem dX11_judge_12 : decode cX11_judge 12 = .ok (.bipush (-4), 2) := by decide +kernel
theorem dX11_judge_14 : decode cX11_judge 14 = .ok (.ireturn, 1) := by decide +kernel
theorem dX11_judge_15 : decode cX11_judge 15 = .ok (.aload_n 0, 1) := by decide +kernel
theorem dX11_judge_16 : decode cX11_judge 16 = .ok (.invokevirtual 231, 3) := by decide +kernel
theorem dX11_judge_19 : decode cX11_judge 19 = .ok (.aload_n 0, 1) := by decide +kernel
theorem dX11_judge_20 : decode cX11_judge 20 = .ok (.getfield 61, 3) := by decide +kernel
theorem dX11_judge_23 : decode cX11_judge 23 = .ok (.invokevirtual 241, 3) := by decide +kernel
theorem dX11_judge_26 : decode cX11_judge 26 = .ok (.ireturn, 1) := by decide +kernel
theorem dX11_judged_0 : decode cX11_judged 0 = .ok (.aload_n 0, 1) := by decide +kernel
theorem dX11_judged_1 : decode cX11_judged 1 = .ok (.getfield 61, 3) := by decide +kernel
theorem dX11_judged_4 : decode cX11_judged 4 = .ok (.iload_n 1, 1) := by decide +kernel
theorem dX11_judged_5 : decode cX11_judged 5 = .ok (.invokevirtual 244, 3) := by decide +kernel
theorem dX11_judged_8 : decode cX11_judged 8 = .ok (.ifCond .eq 10, 3) := by decide +kernel
theorem dX11_judged_11 : decode cX11_judged 11 = .ok (.iload_n 2, 1) := by decide +kernel
theorem dX11_judged_12 : decode cX11_judged 12 = .ok (.invokestatic 95, 3) := by decide +kernel
theorem dX11_judged_15 : decode cX11_judged 15 = .ok (.ifCond .ne 7, 3) := by decide +kernel
theorem dX11_judged_18 : decode cX11_judged 18 = .ok (.ldc2_w 176, 3) := by decide +kernel
theorem dX11_judged_21 : decode cX11_judged 21 = .ok (.lreturn, 1) := by decide +kernel
theorem dX11_judged_22 : decode cX11_judged 22 = .ok (.aload_n 0, 1) := by decide +kernel
theorem dX11_judged_23 : decode cX11_judged 23 = .ok (.getfield 61, 3) := by decide +kernel
theorem dX11_judged_26 : decode cX11_judged 26 = .ok (.iload_n 1, 1) := by decide +kernel
theorem dX11_judged_27 : decode cX11_judged 27 = .ok (.iload_n 2, 1) := by decide +kernel
theorem dX11_judged_28 : decode cX11_judged 28 = .ok (.invokevirtual 245, 3) := by decide +kernel
theorem dX11_judged_31 : decode cX11_judged 31 = .ok (.lreturn, 1) := by decide +kernel
theorem dX11_changed_0 : decode cX11_changed 0 = .ok (.aload_n 0, 1) := by decide +kernel
theorem dX11_changed_1 : decode cX11_changed 1 = .ok (.getfield 61, 3) := by decide +kernel
theorem dX11_changed_4 : decode cX11_changed 4 = .ok (.iload_n 1, 1) := by decide +kernel
theorem dX11_changed_5 : decode cX11_changed 5 = .ok (.invokevirtual 244, 3) := by decide +kernel
theorem dX11_changed_8 : decode cX11_changed 8 = .ok (.ifCond .ne 6, 3) := by decide +kernel
theorem dX11_changed_11 : decode cX11_changed 11 = .ok (.bipush (-2), 2) := by decide +kernel
theorem dX11_changed_13 : decode cX11_changed 13 = .ok (.ireturn, 1) := by decide +kernel
theorem dX11_changed_14 : decode cX11_changed 14 = .ok (.aload_n 0, 1) := by decide +kernel
theorem dX11_changed_15 : decode cX11_changed 15 = .ok (.invokevirtual 231, 3) := by decide +kernel
theorem dX11_changed_18 : decode cX11_changed 18 = .ok (.aload_n 0, 1) := by decide +kernel
theorem dX11_changed_19 : decode cX11_changed 19 = .ok (.getfield 61, 3) := by decide +kernel
theorem dX11_changed_22 : decode cX11_changed 22 = .ok (.iload_n 1, 1) := by decide +kernel
theorem dX11_changed_23 : decode cX11_changed 23 = .ok (.invokevirtual 249, 3) := by decide +kernel
theorem dX11_changed_26 : decode cX11_changed 26 = .ok (.ireturn, 1) := by decide +kernel
theorem dX11_worst_0 : decode cX11_worst 0 = .ok (.aload_n 0, 1) := by decide +kernel
theorem dX11_worst_1 : decode cX11_worst 1 = .ok (.iload_n 1, 1) := by decide +kernel
theorem dX11_worst_2 : decode cX11_worst 2 = .ok (.iload_n 2, 1) := by decide +kernel
theorem dX11_worst_3 : decode cX11_worst 3 = .ok (.invokevirtual 151, 3) := by decide +kernel
theorem dX11_worst_6 : decode cX11_worst 6 = .ok (.ifCond .ne 7, 3) := by decide +kernel
theorem dX11_worst_9 : decode cX11_worst 9 = .ok (.ldc2_w 176, 3) := by decide +kernel
theorem dX11_worst_12 : decode cX11_worst 12 = .ok (.lreturn, 1) := by decide +kernel
theorem dX11_worst_13 : decode cX11_worst 13 = .ok (.aload_n 0, 1) := by decide +kernel
theorem dX11_worst_14 : decode cX11_worst 14 = .ok (.getfield 38, 3) := by decide +kernel
theorem dX11_worst_17 : decode cX11_worst 17 = .ok (.invokevirtual 169, 3) := by decide +kernel
theorem dX11_worst_20 : decode cX11_worst 20 = .ok (.aload_n 0, 1) := by decide +kernel
theorem dX11_worst_21 : decode cX11_worst 21 = .ok (.getfield 70, 3) := by decide +kernel
theorem dX11_worst_24 : decode cX11_worst 24 = .ok (.iload_n 1, 1) := by decide +kernel
theorem dX11_worst_25 : decode cX11_worst 25 = .ok (.iload_n 2, 1) := by decide +kernel
theorem dX11_worst_26 : decode cX11_worst 26 = .ok (.invokestatic 178, 3) := by decide +kernel
theorem dX11_worst_29 : decode cX11_worst 29 = .ok (.invokevirtual 252, 3) := by decide +kernel
theorem dX11_worst_32 : decode cX11_worst 32 = .ok (.lreturn, 1) := by decide +kernel
theorem dX11_question_0 : decode cX11_question 0 = .ok (.aload_n 0, 1) := by decide +kernel
theorem dX11_question_1 : decode cX11_question 1 = .ok (.getfield 38, 3) := by decide +kernel
theorem dX11_question_4 : decode cX11_question 4 = .ok (.invokevirtual 169, 3) := by decide +kernel
theorem dX11_question_7 : decode cX11_question 7 = .ok (.aload_n 0, 1) := by decide +kernel
theorem dX11_question_8 : decode cX11_question 8 = .ok (.getfield 70, 3) := by decide +kernel
theorem dX11_question_11 : decode cX11_question 11 = .ok (.invokevirtual 255, 3) := by decide +kernel
theorem dX11_question_14 : decode cX11_question 14 = .ok (.ireturn, 1) := by decide +kernel
theorem dX11_worstOfTwo_0 : decode cX11_worstOfTwo 0 = .ok (.aload_n 0, 1) := by decide +kernel
theorem dX11_worstOfTwo_1 : decode cX11_worstOfTwo 1 = .ok (.iload_n 1, 1) := by decide +kernel
theorem dX11_worstOfTwo_2 : decode cX11_worstOfTwo 2 = .ok (.iload_n 2, 1) := by decide +kernel
theorem dX11_worstOfTwo_3 : decode cX11_worstOfTwo 3 = .ok (.invokevirtual 151, 3) := by decide +kernel
theorem dX11_worstOfTwo_6 : decode cX11_worstOfTwo 6 = .ok (.ifCond .ne 7, 3) := by decide +kernel
theorem dX11_worstOfTwo_9 : decode cX11_worstOfTwo 9 = .ok (.ldc2_w 176, 3) := by decide +kernel
theorem dX11_worstOfTwo_12 : decode cX11_worstOfTwo 12 = .ok (.lreturn, 1) := by decide +kernel
theorem dX11_worstOfTwo_13 : decode cX11_worstOfTwo 13 = .ok (.aload_n 0, 1) := by decide +kernel
theorem dX11_worstOfTwo_14 : decode cX11_worstOfTwo 14 = .ok (.getfield 38, 3) := by decide +kernel
theorem dX11_worstOfTwo_17 : decode cX11_worstOfTwo 17 = .ok (.invokevirtual 169, 3) := by decide +kernel
theorem dX11_worstOfTwo_20 : decode cX11_worstOfTwo 20 = .ok (.aload_n 0, 1) := by decide +kernel
theorem dX11_worstOfTwo_21 : decode cX11_worstOfTwo 21 = .ok (.getfield 70, 3) := by decide +kernel
theorem dX11_worstOfTwo_24 : decode cX11_worstOfTwo 24 = .ok (.iload_n 1, 1) := by decide +kernel
theorem dX11_worstOfTwo_25 : decode cX11_worstOfTwo 25 = .ok (.iload_n 2, 1) := by decide +kernel
theorem dX11_worstOfTwo_26 : decode cX11_worstOfTwo 26 = .ok (.invokevirtual 258, 3) := by decide +kernel
theorem dX11_worstOfTwo_29 : decode cX11_worstOfTwo 29 = .ok (.lreturn, 1) := by decide +kernel
theorem dX11_firstOfTwo_0 : decode cX11_firstOfTwo 0 = .ok (.aload_n 0, 1) := by decide +kernel
theorem dX11_firstOfTwo_1 : decode cX11_firstOfTwo 1 = .ok (.getfield 38, 3) := by decide +kernel
theorem dX11_firstOfTwo_4 : decode cX11_firstOfTwo 4 = .ok (.invokevirtual 169, 3) := by decide +kernel
theorem dX11_firstOfTwo_7 : decode cX11_firstOfTwo 7 = .ok (.aload_n 0, 1) := by decide +kernel
theorem dX11_firstOfTwo_8 : decode cX11_firstOfTwo 8 = .ok (.getfield 70, 3) := by decide +kernel
theorem dX11_firstOfTwo_11 : decode cX11_firstOfTwo 11 = .ok (.invokevirtual 261, 3) := by decide +kernel
theorem dX11_firstOfTwo_14 : decode cX11_firstOfTwo 14 = .ok (.ireturn, 1) := by decide +kernel
theorem dX11_sherd_0 : decode cX11_sherd 0 = .ok (.iload_n 1, 1) := by decide +kernel
theorem dX11_sherd_1 : decode cX11_sherd 1 = .ok (.invokestatic 264, 3) := by decide +kernel
theorem dX11_sherd_4 : decode cX11_sherd 4 = .ok (.ifCond .eq 10, 3) := by decide +kernel
theorem dX11_sherd_7 : decode cX11_sherd 7 = .ok (.iload_n 2, 1) := by decide +kernel
theorem dX11_sherd_8 : decode cX11_sherd 8 = .ok (.invokestatic 264, 3) := by decide +kernel
theorem dX11_sherd_11 : decode cX11_sherd 11 = .ok (.ifCond .ne 6, 3) := by decide +kernel
theorem dX11_sherd_14 : decode cX11_sherd 14 = .ok (.bipush (-2), 2) := by decide +kernel
theorem dX11_sherd_16 : decode cX11_sherd 16 = .ok (.ireturn, 1) := by decide +kernel
theorem dX11_sherd_17 : decode cX11_sherd 17 = .ok (.aload_n 0, 1) := by decide +kernel
theorem dX11_sherd_18 : decode cX11_sherd 18 = .ok (.getfield 77, 3) := by decide +kernel
theorem dX11_sherd_21 : decode cX11_sherd 21 = .ok (.getfield 267, 3) := by decide +kernel
theorem dX11_sherd_24 : decode cX11_sherd 24 = .ok (.bipush 8, 2) := by decide +kernel
theorem dX11_sherd_26 : decode cX11_sherd 26 = .ok (.if_icmp .ne 6, 3) := by decide +kernel
theorem dX11_sherd_29 : decode cX11_sherd 29 = .ok (.bipush (-4), 2) := by decide +kernel
theorem dX11_sherd_31 : decode cX11_sherd 31 = .ok (.ireturn, 1) := by decide +kernel
theorem dX11_sherd_32 : decode cX11_sherd 32 = .ok (.aload_n 0, 1) := by decide +kernel
theorem dX11_sherd_33 : decode cX11_sherd 33 = .ok (.getfield 77, 3) := by decide +kernel
theorem dX11_sherd_36 : decode cX11_sherd 36 = .ok (.iload_n 1, 1) := by decide +kernel
theorem dX11_sherd_37 : decode cX11_sherd 37 = .ok (.iload_n 2, 1) := by decide +kernel
theorem dX11_sherd_38 : decode cX11_sherd 38 = .ok (.invokevirtual 268, 3) := by decide +kernel
theorem dX11_sherd_41 : decode cX11_sherd 41 = .ok (.ireturn, 1) := by decide +kernel
theorem dX11_set_0 : decode cX11_set 0 = .ok (.iload_n 1, 1) := by decide +kernel
theorem dX11_set_1 : decode cX11_set 1 = .ok (.ifCond .ne 33, 3) := by decide +kernel
theorem dX11_set_4 : decode cX11_set 4 = .ok (.iload_n 2, 1) := by decide +kernel
theorem dX11_set_5 : decode cX11_set 5 = .ok (.ifCond .lt 8, 3) := by decide +kernel
theorem dX11_set_8 : decode cX11_set 8 = .ok (.iload_n 2, 1) := by decide +kernel
theorem dX11_set_9 : decode cX11_set 9 = .ok (.iconst 4, 1) := by decide +kernel
theorem dX11_set_10 : decode cX11_set 10 = .ok (.if_icmp .le 6, 3) := by decide +kernel
theorem dX11_set_13 : decode cX11_set 13 = .ok (.bipush (-2), 2) := by decide +kernel
theorem dX11_set_15 : decode cX11_set 15 = .ok (.ireturn, 1) := by decide +kernel
theorem dX11_set_16 : decode cX11_set 16 = .ok (.aload_n 0, 1) := by decide +kernel
theorem dX11_set_17 : decode cX11_set 17 = .ok (.getfield 77, 3) := by decide +kernel
theorem dX11_set_20 : decode cX11_set 20 = .ok (.getfield 270, 3) := by decide +kernel
theorem dX11_set_23 : decode cX11_set 23 = .ok (.istore_n 3, 1) := by decide +kernel
theorem dX11_set_24 : decode cX11_set 24 = .ok (.aload_n 0, 1) := by decide +kernel
theorem dX11_set_25 : decode cX11_set 25 = .ok (.getfield 77, 3) := by decide +kernel
theorem dX11_set_28 : decode cX11_set 28 = .ok (.iload_n 2, 1) := by decide +kernel
theorem dX11_set_29 : decode cX11_set 29 = .ok (.putfield 270, 3) := by decide +kernel
theorem dX11_set_32 : decode cX11_set 32 = .ok (.iload_n 3, 1) := by decide +kernel
theorem dX11_set_33 : decode cX11_set 33 = .ok (.ireturn, 1) := by decide +kernel
theorem dX11_set_34 : decode cX11_set 34 = .ok (.iload_n 1, 1) := by decide +kernel
theorem dX11_set_35 : decode cX11_set 35 = .ok (.iconst 1, 1) := by decide +kernel
theorem dX11_set_36 : decode cX11_set 36 = .ok (.if_icmp .ne 14, 3) := by decide +kernel
theorem dX11_set_39 : decode cX11_set 39 = .ok (.iload_n 2, 1) := by decide +kernel
theorem dX11_set_40 : decode cX11_set 40 = .ok (.iconst 1, 1) := by decide +kernel
theorem dX11_set_41 : decode cX11_set 41 = .ok (.if_icmp .lt 9, 3) := by decide +kernel
theorem dX11_set_44 : decode cX11_set 44 = .ok (.iload_n 2, 1) := by decide +kernel
theorem dX11_set_45 : decode cX11_set 45 = .ok (.bipush 10, 2) := by decide +kernel
theorem dX11_set_47 : decode cX11_set 47 = .ok (.if_icmp .le 6, 3) := by decide +kernel
theorem dX11_set_50 : decode cX11_set 50 = .ok (.bipush (-2), 2) := by decide +kernel
theorem dX11_set_52 : decode cX11_set 52 = .ok (.ireturn, 1) := by decide +kernel
theorem dX11_set_53 : decode cX11_set 53 = .ok (.aload_n 0, 1) := by decide +kernel
theorem dX11_set_54 : decode cX11_set 54 = .ok (.getfield 84, 3) := by decide +kernel
theorem dX11_set_57 : decode cX11_set 57 = .ok (.getfield 273, 3) := by decide +kernel
theorem dX11_set_60 : decode cX11_set 60 = .ok (.istore_n 3, 1) := by decide +kernel
theorem dX11_set_61 : decode cX11_set 61 = .ok (.aload_n 0, 1) := by decide +kernel
theorem dX11_set_62 : decode cX11_set 62 = .ok (.getfield 84, 3) := by decide +kernel
theorem dX11_set_65 : decode cX11_set 65 = .ok (.iload_n 2, 1) := by decide +kernel
theorem dX11_set_66 : decode cX11_set 66 = .ok (.putfield 273, 3) := by decide +kernel
theorem dX11_set_69 : decode cX11_set 69 = .ok (.iload_n 3, 1) := by decide +kernel
theorem dX11_set_70 : decode cX11_set 70 = .ok (.ireturn, 1) := by decide +kernel
theorem dX11_joined_0 : decode cX11_joined 0 = .ok (.aload_n 0, 1) := by decide +kernel
theorem dX11_joined_1 : decode cX11_joined 1 = .ok (.getfield 77, 3) := by decide +kernel
theorem dX11_joined_4 : decode cX11_joined 4 = .ok (.iload_n 1, 1) := by decide +kernel
theorem dX11_joined_5 : decode cX11_joined 5 = .ok (.invokevirtual 276, 3) := by decide +kernel
theorem dX11_joined_8 : decode cX11_joined 8 = .ok (.ifCond .eq 19, 3) := by decide +kernel
theorem dX11_joined_11 : decode cX11_joined 11 = .ok (.aload_n 0, 1) := by decide +kernel
theorem dX11_joined_12 : decode cX11_joined 12 = .ok (.getfield 77, 3) := by decide +kernel
theorem dX11_joined_15 : decode cX11_joined 15 = .ok (.iload_n 2, 1) := by decide +kernel
theorem dX11_joined_16 : decode cX11_joined 16 = .ok (.invokevirtual 276, 3) := by decide +kernel
theorem dX11_joined_19 : decode cX11_joined 19 = .ok (.ifCond .eq 8, 3) := by decide +kernel
theorem dX11_joined_22 : decode cX11_joined 22 = .ok (.iload_n 1, 1) := by decide +kernel
theorem dX11_joined_23 : decode cX11_joined 23 = .ok (.iload_n 2, 1) := by decide +kernel
theorem dX11_joined_24 : decode cX11_joined 24 = .ok (.if_icmp .ne 6, 3) := by decide +kernel
theorem dX11_joined_27 : decode cX11_joined 27 = .ok (.bipush (-2), 2) := by decide +kernel
theorem dX11_joined_29 : decode cX11_joined 29 = .ok (.ireturn, 1) := by decide +kernel
theorem dX11_joined_30 : decode cX11_joined 30 = .ok (.aload_n 0, 1) := by decide +kernel
theorem dX11_joined_31 : decode cX11_joined 31 = .ok (.getfield 77, 3) := by decide +kernel
theorem dX11_joined_34 : decode cX11_joined 34 = .ok (.iload_n 1, 1) := by decide +kernel
theorem dX11_joined_35 : decode cX11_joined 35 = .ok (.iload_n 2, 1) := by decide +kernel
theorem dX11_joined_36 : decode cX11_joined 36 = .ok (.invokevirtual 277, 3) := by decide +kernel
theorem dX11_joined_39 : decode cX11_joined 39 = .ok (.ifCond .eq 7, 3) := by decide +kernel
theorem dX11_joined_42 : decode cX11_joined 42 = .ok (.iconst 1, 1) := by decide +kernel
theorem dX11_joined_43 : decode cX11_joined 43 = .ok (.goto 4, 3) := by decide +kernel
theorem dX11_joined_46 : decode cX11_joined 46 = .ok (.iconst 0, 1) := by decide +kernel
theorem dX11_joined_47 : decode cX11_joined 47 = .ok (.ireturn, 1) := by decide +kernel
theorem dX11_row_0 : decode cX11_row 0 = .ok (.iload_n 1, 1) := by decide +kernel
theorem dX11_row_1 : decode cX11_row 1 = .ok (.iconst (-1), 1) := by decide +kernel
theorem dX11_row_2 : decode cX11_row 2 = .ok (.if_icmp .lt 14, 3) := by decide +kernel
theorem dX11_row_5 : decode cX11_row 5 = .ok (.iload_n 1, 1) := by decide +kernel
theorem dX11_row_6 : decode cX11_row 6 = .ok (.aload_n 0, 1) := by decide +kernel
theorem dX11_row_7 : decode cX11_row 7 = .ok (.getfield 77, 3) := by decide +kernel
theorem dX11_row_10 : decode cX11_row 10 = .ok (.getfield 267, 3) := by decide +kernel
theorem dX11_row_13 : decode cX11_row 13 = .ok (.if_icmp .lt 5, 3) := by decide +kernel
theorem dX11_row_16 : decode cX11_row 16 = .ok (.iconst (-1), 1) := by decide +kernel
theorem dX11_row_17 : decode cX11_row 17 = .ok (.ireturn, 1) := by decide +kernel
theorem dX11_row_18 : decode cX11_row 18 = .ok (.aload_n 0, 1) := by decide +kernel
theorem dX11_row_19 : decode cX11_row 19 = .ok (.getfield 77, 3) := by decide +kernel
theorem dX11_row_22 : decode cX11_row 22 = .ok (.invokevirtual 280, 3) := by decide +kernel
theorem dX11_row_25 : decode cX11_row 25 = .ok (.istore_n 2, 1) := by decide +kernel
theorem dX11_row_26 : decode cX11_row 26 = .ok (.iload_n 1, 1) := by decide +kernel
theorem dX11_row_27 : decode cX11_row 27 = .ok (.iconst (-1), 1) := by decide +kernel
theorem dX11_row_28 : decode cX11_row 28 = .ok (.if_icmp .ne 5, 3) := by decide +kernel
theorem dX11_row_31 : decode cX11_row 31 = .ok (.iload_n 2, 1) := by decide +kernel
theorem dX11_row_32 : decode cX11_row 32 = .ok (.ireturn, 1) := by decide +kernel
theorem dX11_row_33 : decode cX11_row 33 = .ok (.iload_n 1, 1) := by decide +kernel
theorem dX11_row_34 : decode cX11_row 34 = .ok (.iload_n 2, 1) := by decide +kernel
theorem dX11_row_35 : decode cX11_row 35 = .ok (.if_icmp .ge 15, 3) := by decide +kernel
theorem dX11_row_38 : decode cX11_row 38 = .ok (.aload_n 0, 1) := by decide +kernel
theorem dX11_row_39 : decode cX11_row 39 = .ok (.getfield 77, 3) := by decide +kernel
theorem dX11_row_42 : decode cX11_row 42 = .ok (.iload_n 1, 1) := by decide +kernel
theorem dX11_row_43 : decode cX11_row 43 = .ok (.iload_n 2, 1) := by decide +kernel
theorem dX11_row_44 : decode cX11_row 44 = .ok (.invokevirtual 283, 3) := by decide +kernel
theorem dX11_row_47 : decode cX11_row 47 = .ok (.goto 4, 3) := by decide +kernel
theorem dX11_row_50 : decode cX11_row 50 = .ok (.iconst (-1), 1) := by decide +kernel
theorem dX11_row_51 : decode cX11_row 51 = .ok (.ireturn, 1) := by decide +kernel
theorem dX11_record_0 : decode cX11_record 0 = .ok (.iload_n 1, 1) := by decide +kernel
theorem dX11_record_1 : decode cX11_record 1 = .ok (.invokestatic 286, 3) := by decide +kernel
theorem dX11_record_4 : decode cX11_record 4 = .ok (.ifCond .eq 10, 3) := by decide +kernel
theorem dX11_record_7 : decode cX11_record 7 = .ok (.iload_n 2, 1) := by decide +kernel
theorem dX11_record_8 : decode cX11_record 8 = .ok (.invokestatic 286, 3) := by decide +kernel
theorem dX11_record_11 : decode cX11_record 11 = .ok (.ifCond .ne 6, 3) := by decide +kernel
theorem dX11_record_14 : decode cX11_record 14 = .ok (.bipush (-2), 2) := by decide +kernel
theorem dX11_record_16 : decode cX11_record 16 = .ok (.ireturn, 1) := by decide +kernel
theorem dX11_record_17 : decode cX11_record 17 = .ok (.aload_n 0, 1) := by decide +kernel
theorem dX11_record_18 : decode cX11_record 18 = .ok (.getfield 84, 3) := by decide +kernel
theorem dX11_record_21 : decode cX11_record 21 = .ok (.getfield 289, 3) := by decide +kernel
theorem dX11_record_24 : decode cX11_record 24 = .ok (.bipush 10, 2) := by decide +kernel
theorem dX11_record_26 : decode cX11_record 26 = .ok (.if_icmp .ne 6, 3) := by decide +kernel
theorem dX11_record_29 : decode cX11_record 29 = .ok (.bipush (-4), 2) := by decide +kernel
theorem dX11_record_31 : decode cX11_record 31 = .ok (.ireturn, 1) := by decide +kernel
theorem dX11_record_32 : decode cX11_record 32 = .ok (.aload_n 0, 1) := by decide +kernel
theorem dX11_record_33 : decode cX11_record 33 = .ok (.getfield 84, 3) := by decide +kernel
theorem dX11_record_36 : decode cX11_record 36 = .ok (.iload_n 1, 1) := by decide +kernel
theorem dX11_record_37 : decode cX11_record 37 = .ok (.iload_n 2, 1) := by decide +kernel
theorem dX11_record_38 : decode cX11_record 38 = .ok (.invokevirtual 290, 3) := by decide +kernel
theorem dX11_record_41 : decode cX11_record 41 = .ok (.ireturn, 1) := by decide +kernel
theorem dX11_same_0 : decode cX11_same 0 = .ok (.aload_n 0, 1) := by decide +kernel
theorem dX11_same_1 : decode cX11_same 1 = .ok (.getfield 84, 3) := by decide +kernel
theorem dX11_same_4 : decode cX11_same 4 = .ok (.iload_n 1, 1) := by decide +kernel
theorem dX11_same_5 : decode cX11_same 5 = .ok (.invokevirtual 291, 3) := by decide +kernel
theorem dX11_same_8 : decode cX11_same 8 = .ok (.ifCond .eq 14, 3) := by decide +kernel
theorem dX11_same_11 : decode cX11_same 11 = .ok (.aload_n 0, 1) := by decide +kernel
theorem dX11_same_12 : decode cX11_same 12 = .ok (.getfield 84, 3) := by decide +kernel
theorem dX11_same_15 : decode cX11_same 15 = .ok (.iload_n 2, 1) := by decide +kernel
theorem dX11_same_16 : decode cX11_same 16 = .ok (.invokevirtual 291, 3) := by decide +kernel
theorem dX11_same_19 : decode cX11_same 19 = .ok (.ifCond .ne 6, 3) := by decide +kernel
theorem dX11_same_22 : decode cX11_same 22 = .ok (.bipush (-2), 2) := by decide +kernel
theorem dX11_same_24 : decode cX11_same 24 = .ok (.ireturn, 1) := by decide +kernel
theorem dX11_same_25 : decode cX11_same 25 = .ok (.iload_n 3, 1) := by decide +kernel
theorem dX11_same_26 : decode cX11_same 26 = .ok (.tableswitch 83 0 2 #[26, 44, 62], 26) := by decide +kernel
theorem dX11_same_52 : decode cX11_same 52 = .ok (.aload_n 0, 1) := by decide +kernel
theorem dX11_same_53 : decode cX11_same 53 = .ok (.getfield 84, 3) := by decide +kernel
theorem dX11_same_56 : decode cX11_same 56 = .ok (.iload_n 1, 1) := by decide +kernel
theorem dX11_same_57 : decode cX11_same 57 = .ok (.iload_n 2, 1) := by decide +kernel
theorem dX11_same_58 : decode cX11_same 58 = .ok (.invokevirtual 292, 3) := by decide +kernel
theorem dX11_same_61 : decode cX11_same 61 = .ok (.ifCond .eq 7, 3) := by decide +kernel
theorem dX11_same_64 : decode cX11_same 64 = .ok (.iconst 1, 1) := by decide +kernel
theorem dX11_same_65 : decode cX11_same 65 = .ok (.goto 4, 3) := by decide +kernel
theorem dX11_same_68 : decode cX11_same 68 = .ok (.iconst 0, 1) := by decide +kernel
theorem dX11_same_69 : decode cX11_same 69 = .ok (.ireturn, 1) := by decide +kernel
theorem dX11_same_70 : decode cX11_same 70 = .ok (.aload_n 0, 1) := by decide +kernel
theorem dX11_same_71 : decode cX11_same 71 = .ok (.getfield 84, 3) := by decide +kernel
theorem dX11_same_74 : decode cX11_same 74 = .ok (.iload_n 1, 1) := by decide +kernel
theorem dX11_same_75 : decode cX11_same 75 = .ok (.iload_n 2, 1) := by decide +kernel
theorem dX11_same_76 : decode cX11_same 76 = .ok (.invokevirtual 295, 3) := by decide +kernel
theorem dX11_same_79 : decode cX11_same 79 = .ok (.ifCond .eq 7, 3) := by decide +kernel
theorem dX11_same_82 : decode cX11_same 82 = .ok (.iconst 1, 1) := by decide +kernel
theorem dX11_same_83 : decode cX11_same 83 = .ok (.goto 4, 3) := by decide +kernel
theorem dX11_same_86 : decode cX11_same 86 = .ok (.iconst 0, 1) := by decide +kernel
theorem dX11_same_87 : decode cX11_same 87 = .ok (.ireturn, 1) := by decide +kernel
theorem dX11_same_88 : decode cX11_same 88 = .ok (.aload_n 0, 1) := by decide +kernel
theorem dX11_same_89 : decode cX11_same 89 = .ok (.getfield 84, 3) := by decide +kernel
theorem dX11_same_92 : decode cX11_same 92 = .ok (.iload_n 1, 1) := by decide +kernel
theorem dX11_same_93 : decode cX11_same 93 = .ok (.invokevirtual 298, 3) := by decide +kernel
theorem dX11_same_96 : decode cX11_same 96 = .ok (.iload_n 2, 1) := by decide +kernel
theorem dX11_same_97 : decode cX11_same 97 = .ok (.invokestatic 144, 3) := by decide +kernel
theorem dX11_same_100 : decode cX11_same 100 = .ok (.ifCond .eq 7, 3) := by decide +kernel
theorem dX11_same_103 : decode cX11_same 103 = .ok (.iconst 1, 1) := by decide +kernel
theorem dX11_same_104 : decode cX11_same 104 = .ok (.goto 4, 3) := by decide +kernel
theorem dX11_same_107 : decode cX11_same 107 = .ok (.iconst 0, 1) := by decide +kernel
theorem dX11_same_108 : decode cX11_same 108 = .ok (.ireturn, 1) := by decide +kernel
theorem dX11_same_109 : decode cX11_same 109 = .ok (.bipush (-2), 2) := by decide +kernel
theorem dX11_same_111 : decode cX11_same 111 = .ok (.ireturn, 1) := by decide +kernel
theorem dX11_things_0 : decode cX11_things 0 = .ok (.iload_n 1, 1) := by decide +kernel
theorem dX11_things_1 : decode cX11_things 1 = .ok (.iconst (-1), 1) := by decide +kernel
theorem dX11_things_2 : decode cX11_things 2 = .ok (.if_icmp .eq 12, 3) := by decide +kernel
theorem dX11_things_5 : decode cX11_things 5 = .ok (.iload_n 1, 1) := by decide +kernel
theorem dX11_things_6 : decode cX11_things 6 = .ok (.bipush (-2), 2) := by decide +kernel
theorem dX11_things_8 : decode cX11_things 8 = .ok (.if_icmp .eq 6, 3) := by decide +kernel
theorem dX11_things_11 : decode cX11_things 11 = .ok (.bipush (-2), 2) := by decide +kernel
theorem dX11_things_13 : decode cX11_things 13 = .ok (.ireturn, 1) := by decide +kernel
theorem dX11_things_14 : decode cX11_things 14 = .ok (.aload_n 0, 1) := by decide +kernel
theorem dX11_things_15 : decode cX11_things 15 = .ok (.getfield 84, 3) := by decide +kernel
theorem dX11_things_18 : decode cX11_things 18 = .ok (.iload_n 1, 1) := by decide +kernel
theorem dX11_things_19 : decode cX11_things 19 = .ok (.bipush (-2), 2) := by decide +kernel
theorem dX11_things_21 : decode cX11_things 21 = .ok (.if_icmp .ne 7, 3) := by decide +kernel
theorem dX11_things_24 : decode cX11_things 24 = .ok (.iconst 1, 1) := by decide +kernel
theorem dX11_things_25 : decode cX11_things 25 = .ok (.goto 4, 3) := by decide +kernel
theorem dX11_things_28 : decode cX11_things 28 = .ok (.iconst 0, 1) := by decide +kernel
theorem dX11_things_29 : decode cX11_things 29 = .ok (.invokevirtual 301, 3) := by decide +kernel
theorem dX11_things_32 : decode cX11_things 32 = .ok (.ireturn, 1) := by decide +kernel
theorem dX11_count_0 : decode cX11_count 0 = .ok (.iload_n 1, 1) := by decide +kernel
theorem dX11_count_1 : decode cX11_count 1 = .ok (.tableswitch 144 0 10 #[59, 64, 72, 80, 88, 96, 104, 112, 120, 128, 136], 59) := by decide +kernel
theorem dX11_count_60 : decode cX11_count 60 = .ok (.aload_n 0, 1) := by decide +kernel
theorem dX11_count_61 : decode cX11_count 61 = .ok (.getfield 15, 3) := by decide +kernel
theorem dX11_count_64 : decode cX11_count 64 = .ok (.ireturn, 1) := by decide +kernel
theorem dX11_count_65 : decode cX11_count 65 = .ok (.aload_n 0, 1) := by decide +kernel
theorem dX11_count_66 : decode cX11_count 66 = .ok (.getfield 22, 3) := by decide +kernel
theorem dX11_count_69 : decode cX11_count 69 = .ok (.getfield 102, 3) := by decide +kernel
theorem dX11_count_72 : decode cX11_count 72 = .ok (.ireturn, 1) := by decide +kernel
theorem dX11_count_73 : decode cX11_count 73 = .ok (.aload_n 0, 1) := by decide +kernel
theorem dX11_count_74 : decode cX11_count 74 = .ok (.getfield 29, 3) := by decide +kernel
theorem dX11_count_77 : decode cX11_count 77 = .ok (.getfield 118, 3) := by decide +kernel
theorem dX11_count_80 : decode cX11_count 80 = .ok (.ireturn, 1) := by decide +kernel
theorem dX11_count_81 : decode cX11_count 81 = .ok (.aload_n 0, 1) := by decide +kernel
theorem dX11_count_82 : decode cX11_count 82 = .ok (.getfield 29, 3) := by decide +kernel
theorem dX11_count_85 : decode cX11_count 85 = .ok (.invokevirtual 161, 3) := by decide +kernel
theorem dX11_count_88 : decode cX11_count 88 = .ok (.ireturn, 1) := by decide +kernel
theorem dX11_count_89 : decode cX11_count 89 = .ok (.aload_n 0, 1) := by decide +kernel
theorem dX11_count_90 : decode cX11_count 90 = .ok (.getfield 52, 3) := by decide +kernel
theorem dX11_count_93 : decode cX11_count 93 = .ok (.getfield 218, 3) := by decide +kernel
theorem dX11_count_96 : decode cX11_count 96 = .ok (.ireturn, 1) := by decide +kernel
theorem dX11_count_97 : decode cX11_count 97 = .ok (.aload_n 0, 1) := by decide +kernel
theorem dX11_count_98 : decode cX11_count 98 = .ok (.getfield 61, 3) := by decide +kernel
theorem dX11_count_101 : decode cX11_count 101 = .ok (.getfield 240, 3) := by decide +kernel
theorem dX11_count_104 : decode cX11_count 104 = .ok (.ireturn, 1) := by decide +kernel
theorem dX11_count_105 : decode cX11_count 105 = .ok (.aload_n 0, 1) := by decide +kernel
theorem dX11_count_106 : decode cX11_count 106 = .ok (.getfield 77, 3) := by decide +kernel
theorem dX11_count_109 : decode cX11_count 109 = .ok (.getfield 267, 3) := by decide +kernel
theorem dX11_count_112 : decode cX11_count 112 = .ok (.ireturn, 1) := by decide +kernel
theorem dX11_count_113 : decode cX11_count 113 = .ok (.aload_n 0, 1) := by decide +kernel
theorem dX11_count_114 : decode cX11_count 114 = .ok (.getfield 84, 3) := by decide +kernel
theorem dX11_count_117 : decode cX11_count 117 = .ok (.getfield 289, 3) := by decide +kernel
theorem dX11_count_120 : decode cX11_count 120 = .ok (.ireturn, 1) := by decide +kernel
theorem dX11_count_121 : decode cX11_count 121 = .ok (.aload_n 0, 1) := by decide +kernel
theorem dX11_count_122 : decode cX11_count 122 = .ok (.getfield 52, 3) := by decide +kernel
theorem dX11_count_125 : decode cX11_count 125 = .ok (.getfield 201, 3) := by decide +kernel
theorem dX11_count_128 : decode cX11_count 128 = .ok (.ireturn, 1) := by decide +kernel
theorem dX11_count_129 : decode cX11_count 129 = .ok (.aload_n 0, 1) := by decide +kernel
theorem dX11_count_130 : decode cX11_count 130 = .ok (.getfield 45, 3) := by decide +kernel
theorem dX11_count_133 : decode cX11_count 133 = .ok (.getfield 196, 3) := by decide +kernel
theorem dX11_count_136 : decode cX11_count 136 = .ok (.ireturn, 1) := by decide +kernel
theorem dX11_count_137 : decode cX11_count 137 = .ok (.aload_n 0, 1) := by decide +kernel
theorem dX11_count_138 : decode cX11_count 138 = .ok (.getfield 38, 3) := by decide +kernel
theorem dX11_count_141 : decode cX11_count 141 = .ok (.getfield 109, 3) := by decide +kernel
theorem dX11_count_144 : decode cX11_count 144 = .ok (.ireturn, 1) := by decide +kernel
theorem dX11_count_145 : decode cX11_count 145 = .ok (.bipush (-2), 2) := by decide +kernel
theorem dX11_count_147 : decode cX11_count 147 = .ok (.ireturn, 1) := by decide +kernel
theorem dX11_sheet_0 : decode cX11_sheet 0 = .ok (.iload_n 1, 1) := by decide +kernel
theorem dX11_sheet_1 : decode cX11_sheet 1 = .ok (.invokestatic 305, 3) := by decide +kernel
theorem dX11_sheet_4 : decode cX11_sheet 4 = .ok (.ifCond .ne 6, 3) := by decide +kernel
theorem dX11_sheet_7 : decode cX11_sheet 7 = .ok (.bipush (-2), 2) := by decide +kernel
theorem dX11_sheet_9 : decode cX11_sheet 9 = .ok (.ireturn, 1) := by decide +kernel
theorem dX11_sheet_10 : decode cX11_sheet 10 = .ok (.iload_n 2, 1) := by decide +kernel
theorem dX11_sheet_11 : decode cX11_sheet 11 = .ok (.iconst (-1), 1) := by decide +kernel
theorem dX11_sheet_12 : decode cX11_sheet 12 = .ok (.if_icmp .ne 12, 3) := by decide +kernel
theorem dX11_sheet_15 : decode cX11_sheet 15 = .ok (.aload_n 0, 1) := by decide +kernel
theorem dX11_sheet_16 : decode cX11_sheet 16 = .ok (.getfield 91, 3) := by decide +kernel
theorem dX11_sheet_19 : decode cX11_sheet 19 = .ok (.iload_n 1, 1) := by decide +kernel
theorem dX11_sheet_20 : decode cX11_sheet 20 = .ok (.invokevirtual 308, 3) := by decide +kernel
theorem dX11_sheet_23 : decode cX11_sheet 23 = .ok (.ireturn, 1) := by decide +kernel
theorem dX11_sheet_24 : decode cX11_sheet 24 = .ok (.iload_n 2, 1) := by decide +kernel
theorem dX11_sheet_25 : decode cX11_sheet 25 = .ok (.invokestatic 311, 3) := by decide +kernel
theorem dX11_sheet_28 : decode cX11_sheet 28 = .ok (.ifCond .eq 9, 3) := by decide +kernel
theorem dX11_sheet_31 : decode cX11_sheet 31 = .ok (.iload_n 3, 1) := by decide +kernel
theorem dX11_sheet_32 : decode cX11_sheet 32 = .ok (.bipush 40, 2) := by decide +kernel
theorem dX11_sheet_34 : decode cX11_sheet 34 = .ok (.if_icmp .le 6, 3) := by decide +kernel
theorem dX11_sheet_37 : decode cX11_sheet 37 = .ok (.bipush (-2), 2) := by decide +kernel
theorem dX11_sheet_39 : decode cX11_sheet 39 = .ok (.ireturn, 1) := by decide +kernel
theorem dX11_sheet_40 : decode cX11_sheet 40 = .ok (.iload_n 3, 1) := by decide +kernel
theorem dX11_sheet_41 : decode cX11_sheet 41 = .ok (.ifCond .ge 6, 3) := by decide +kernel
theorem dX11_sheet_44 : decode cX11_sheet 44 = .ok (.bipush (-14), 2) := by decide +kernel
theorem dX11_sheet_46 : decode cX11_sheet 46 = .ok (.ireturn, 1) := by decide +kernel
theorem dX11_sheet_47 : decode cX11_sheet 47 = .ok (.aload_n 0, 1) := by decide +kernel
theorem dX11_sheet_48 : decode cX11_sheet 48 = .ok (.getfield 91, 3) := by decide +kernel
theorem dX11_sheet_51 : decode cX11_sheet 51 = .ok (.iload_n 1, 1) := by decide +kernel
theorem dX11_sheet_52 : decode cX11_sheet 52 = .ok (.iload_n 2, 1) := by decide +kernel
theorem dX11_sheet_53 : decode cX11_sheet 53 = .ok (.iload_n 3, 1) := by decide +kernel
theorem dX11_sheet_54 : decode cX11_sheet 54 = .ok (.invokevirtual 314, 3) := by decide +kernel
theorem dX11_sheet_57 : decode cX11_sheet 57 = .ok (.ireturn, 1) := by decide +kernel
theorem dX11_cell_0 : decode cX11_cell 0 = .ok (.iload_n 1, 1) := by decide +kernel
theorem dX11_cell_1 : decode cX11_cell 1 = .ok (.invokestatic 305, 3) := by decide +kernel
theorem dX11_cell_4 : decode cX11_cell 4 = .ok (.ifCond .ne 6, 3) := by decide +kernel
theorem dX11_cell_7 : decode cX11_cell 7 = .ok (.bipush (-2), 2) := by decide +kernel
theorem dX11_cell_9 : decode cX11_cell 9 = .ok (.ireturn, 1) := by decide +kernel
theorem dX11_cell_10 : decode cX11_cell 10 = .ok (.aload_n 0, 1) := by decide +kernel
theorem dX11_cell_11 : decode cX11_cell 11 = .ok (.getfield 91, 3) := by decide +kernel
theorem dX11_cell_14 : decode cX11_cell 14 = .ok (.iload_n 1, 1) := by decide +kernel
theorem dX11_cell_15 : decode cX11_cell 15 = .ok (.invokevirtual 317, 3) := by decide +kernel
theorem dX11_cell_18 : decode cX11_cell 18 = .ok (.ifCond .eq 6, 3) := by decide +kernel
theorem dX11_cell_21 : decode cX11_cell 21 = .ok (.bipush (-11), 2) := by decide +kernel
theorem dX11_cell_23 : decode cX11_cell 23 = .ok (.ireturn, 1) := by decide +kernel
theorem dX11_cell_24 : decode cX11_cell 24 = .ok (.aload_n 0, 1) := by decide +kernel
theorem dX11_cell_25 : decode cX11_cell 25 = .ok (.getfield 91, 3) := by decide +kernel
theorem dX11_cell_28 : decode cX11_cell 28 = .ok (.iload_n 1, 1) := by decide +kernel
theorem dX11_cell_29 : decode cX11_cell 29 = .ok (.iload_n 2, 1) := by decide +kernel
theorem dX11_cell_30 : decode cX11_cell 30 = .ok (.iconst 1, 1) := by decide +kernel
theorem dX11_cell_31 : decode cX11_cell 31 = .ok (.invokevirtual 320, 3) := by decide +kernel
theorem dX11_cell_34 : decode cX11_cell 34 = .ok (.ifCond .ne 6, 3) := by decide +kernel
theorem dX11_cell_37 : decode cX11_cell 37 = .ok (.bipush (-12), 2) := by decide +kernel
theorem dX11_cell_39 : decode cX11_cell 39 = .ok (.ireturn, 1) := by decide +kernel
theorem dX11_cell_40 : decode cX11_cell 40 = .ok (.aload_n 0, 1) := by decide +kernel
theorem dX11_cell_41 : decode cX11_cell 41 = .ok (.getfield 91, 3) := by decide +kernel
theorem dX11_cell_44 : decode cX11_cell 44 = .ok (.iload_n 1, 1) := by decide +kernel
theorem dX11_cell_45 : decode cX11_cell 45 = .ok (.iload_n 2, 1) := by decide +kernel
theorem dX11_cell_46 : decode cX11_cell 46 = .ok (.iload_n 3, 1) := by decide +kernel
theorem dX11_cell_47 : decode cX11_cell 47 = .ok (.invokevirtual 324, 3) := by decide +kernel
theorem dX11_cell_50 : decode cX11_cell 50 = .ok (.ireturn, 1) := by decide +kernel
theorem dX11_copy_0 : decode cX11_copy 0 = .ok (.iload_n 1, 1) := by decide +kernel
theorem dX11_copy_1 : decode cX11_copy 1 = .ok (.invokestatic 305, 3) := by decide +kernel
theorem dX11_copy_4 : decode cX11_copy 4 = .ok (.ifCond .eq 10, 3) := by decide +kernel
theorem dX11_copy_7 : decode cX11_copy 7 = .ok (.iload_n 3, 1) := by decide +kernel
theorem dX11_copy_8 : decode cX11_copy 8 = .ok (.invokestatic 305, 3) := by decide +kernel
theorem dX11_copy_11 : decode cX11_copy 11 = .ok (.ifCond .ne 6, 3) := by decide +kernel
theorem dX11_copy_14 : decode cX11_copy 14 = .ok (.bipush (-2), 2) := by decide +kernel
theorem dX11_copy_16 : decode cX11_copy 16 = .ok (.ireturn, 1) := by decide +kernel
theorem dX11_copy_17 : decode cX11_copy 17 = .ok (.aload_n 0, 1) := by decide +kernel
theorem dX11_copy_18 : decode cX11_copy 18 = .ok (.getfield 91, 3) := by decide +kernel
theorem dX11_copy_21 : decode cX11_copy 21 = .ok (.iload_n 1, 1) := by decide +kernel
theorem dX11_copy_22 : decode cX11_copy 22 = .ok (.invokevirtual 317, 3) := by decide +kernel
theorem dX11_copy_25 : decode cX11_copy 25 = .ok (.ifCond .ne 14, 3) := by decide +kernel
theorem dX11_copy_28 : decode cX11_copy 28 = .ok (.aload_n 0, 1) := by decide +kernel
theorem dX11_copy_29 : decode cX11_copy 29 = .ok (.getfield 91, 3) := by decide +kernel
theorem dX11_copy_32 : decode cX11_copy 32 = .ok (.iload_n 3, 1) := by decide +kernel
theorem dX11_copy_33 : decode cX11_copy 33 = .ok (.invokevirtual 317, 3) := by decide +kernel
theorem dX11_copy_36 : decode cX11_copy 36 = .ok (.ifCond .eq 6, 3) := by decide +kernel
theorem dX11_copy_39 : decode cX11_copy 39 = .ok (.bipush (-11), 2) := by decide +kernel
theorem dX11_copy_41 : decode cX11_copy 41 = .ok (.ireturn, 1) := by decide +kernel
theorem dX11_copy_42 : decode cX11_copy 42 = .ok (.aload_n 0, 1) := by decide +kernel
theorem dX11_copy_43 : decode cX11_copy 43 = .ok (.getfield 91, 3) := by decide +kernel
theorem dX11_copy_46 : decode cX11_copy 46 = .ok (.getfield 327, 3) := by decide +kernel
theorem dX11_copy_49 : decode cX11_copy 49 = .ok (.iload_n 1, 1) := by decide +kernel
theorem dX11_copy_50 : decode cX11_copy 50 = .ok (.iaload, 1) := by decide +kernel
theorem dX11_copy_51 : decode cX11_copy 51 = .ok (.aload_n 0, 1) := by decide +kernel
theorem dX11_copy_52 : decode cX11_copy 52 = .ok (.getfield 91, 3) := by decide +kernel
theorem dX11_copy_55 : decode cX11_copy 55 = .ok (.getfield 327, 3) := by decide +kernel
theorem dX11_copy_58 : decode cX11_copy 58 = .ok (.iload_n 3, 1) := by decide +kernel
theorem dX11_copy_59 : decode cX11_copy 59 = .ok (.iaload, 1) := by decide +kernel
theorem dX11_copy_60 : decode cX11_copy 60 = .ok (.if_icmp .eq 6, 3) := by decide +kernel
theorem dX11_copy_63 : decode cX11_copy 63 = .ok (.bipush (-13), 2) := by decide +kernel
theorem dX11_copy_65 : decode cX11_copy 65 = .ok (.ireturn, 1) := by decide +kernel
theorem dX11_copy_66 : decode cX11_copy 66 = .ok (.aload_n 0, 1) := by decide +kernel
theorem dX11_copy_67 : decode cX11_copy 67 = .ok (.getfield 91, 3) := by decide +kernel
theorem dX11_copy_70 : decode cX11_copy 70 = .ok (.iload_n 1, 1) := by decide +kernel
theorem dX11_copy_71 : decode cX11_copy 71 = .ok (.iload_n 2, 1) := by decide +kernel
theorem dX11_copy_72 : decode cX11_copy 72 = .ok (.iload 5, 2) := by decide +kernel
theorem dX11_copy_74 : decode cX11_copy 74 = .ok (.invokevirtual 320, 3) := by decide +kernel
theorem dX11_copy_77 : decode cX11_copy 77 = .ok (.ifCond .eq 18, 3) := by decide +kernel
theorem dX11_copy_80 : decode cX11_copy 80 = .ok (.aload_n 0, 1) := by decide +kernel
theorem dX11_copy_81 : decode cX11_copy 81 = .ok (.getfield 91, 3) := by decide +kernel
theorem dX11_copy_84 : decode cX11_copy 84 = .ok (.iload_n 3, 1) := by decide +kernel
theorem dX11_copy_85 : decode cX11_copy 85 = .ok (.iload 4, 2) := by decide +kernel
theorem dX11_copy_87 : decode cX11_copy 87 = .ok (.iload 5, 2) := by decide +kernel
theorem dX11_copy_89 : decode cX11_copy 89 = .ok (.invokevirtual 320, 3) := by decide +kernel
theorem dX11_copy_92 : decode cX11_copy 92 = .ok (.ifCond .ne 6, 3) := by decide +kernel
theorem dX11_copy_95 : decode cX11_copy 95 = .ok (.bipush (-12), 2) := by decide +kernel
theorem dX11_copy_97 : decode cX11_copy 97 = .ok (.ireturn, 1) := by decide +kernel
theorem dX11_copy_98 : decode cX11_copy 98 = .ok (.aload_n 0, 1) := by decide +kernel
theorem dX11_copy_99 : decode cX11_copy 99 = .ok (.getfield 91, 3) := by decide +kernel
theorem dX11_copy_102 : decode cX11_copy 102 = .ok (.iload_n 1, 1) := by decide +kernel
theorem dX11_copy_103 : decode cX11_copy 103 = .ok (.iload_n 2, 1) := by decide +kernel
theorem dX11_copy_104 : decode cX11_copy 104 = .ok (.iload_n 3, 1) := by decide +kernel
theorem dX11_copy_105 : decode cX11_copy 105 = .ok (.iload 4, 2) := by decide +kernel
theorem dX11_copy_107 : decode cX11_copy 107 = .ok (.iload 5, 2) := by decide +kernel
theorem dX11_copy_109 : decode cX11_copy 109 = .ok (.invokevirtual 330, 3) := by decide +kernel
theorem dX11_copy_112 : decode cX11_copy 112 = .ok (.ireturn, 1) := by decide +kernel
theorem dX11_papers_0 : decode cX11_papers 0 = .ok (.iload_n 1, 1) := by decide +kernel
theorem dX11_papers_1 : decode cX11_papers 1 = .ok (.invokestatic 305, 3) := by decide +kernel
theorem dX11_papers_4 : decode cX11_papers 4 = .ok (.ifCond .eq 10, 3) := by decide +kernel
theorem dX11_papers_7 : decode cX11_papers 7 = .ok (.iload_n 2, 1) := by decide +kernel
theorem dX11_papers_8 : decode cX11_papers 8 = .ok (.invokestatic 311, 3) := by decide +kernel
theorem dX11_papers_11 : decode cX11_papers 11 = .ok (.ifCond .ne 6, 3) := by decide +kernel
theorem dX11_papers_14 : decode cX11_papers 14 = .ok (.bipush (-2), 2) := by decide +kernel
theorem dX11_papers_16 : decode cX11_papers 16 = .ok (.ireturn, 1) := by decide +kernel
theorem dX11_papers_17 : decode cX11_papers 17 = .ok (.iload 4, 2) := by decide +kernel
theorem dX11_papers_19 : decode cX11_papers 19 = .ok (.ifCond .lt 10, 3) := by decide +kernel
theorem dX11_papers_22 : decode cX11_papers 22 = .ok (.iload 4, 2) := by decide +kernel
theorem dX11_papers_24 : decode cX11_papers 24 = .ok (.bipush 8, 2) := by decide +kernel
theorem dX11_papers_26 : decode cX11_papers 26 = .ok (.if_icmp .le 6, 3) := by decide +kernel
theorem dX11_papers_29 : decode cX11_papers 29 = .ok (.bipush (-2), 2) := by decide +kernel
theorem dX11_papers_31 : decode cX11_papers 31 = .ok (.ireturn, 1) := by decide +kernel
theorem dX11_papers_32 : decode cX11_papers 32 = .ok (.aload_n 0, 1) := by decide +kernel
theorem dX11_papers_33 : decode cX11_papers 33 = .ok (.getfield 91, 3) := by decide +kernel
theorem dX11_papers_36 : decode cX11_papers 36 = .ok (.iload_n 1, 1) := by decide +kernel
theorem dX11_papers_37 : decode cX11_papers 37 = .ok (.invokevirtual 317, 3) := by decide +kernel
theorem dX11_papers_40 : decode cX11_papers 40 = .ok (.ifCond .eq 6, 3) := by decide +kernel
theorem dX11_papers_43 : decode cX11_papers 43 = .ok (.bipush (-11), 2) := by decide +kernel
theorem dX11_papers_45 : decode cX11_papers 45 = .ok (.ireturn, 1) := by decide +kernel
theorem dX11_papers_46 : decode cX11_papers 46 = .ok (.aload_n 0, 1) := by decide +kernel
theorem dX11_papers_47 : decode cX11_papers 47 = .ok (.getfield 91, 3) := by decide +kernel
theorem dX11_papers_50 : decode cX11_papers 50 = .ok (.getfield 327, 3) := by decide +kernel
theorem dX11_papers_53 : decode cX11_papers 53 = .ok (.iload_n 1, 1) := by decide +kernel
theorem dX11_papers_54 : decode cX11_papers 54 = .ok (.iaload, 1) := by decide +kernel
theorem dX11_papers_55 : decode cX11_papers 55 = .ok (.iload_n 2, 1) := by decide +kernel
theorem dX11_papers_56 : decode cX11_papers 56 = .ok (.if_icmp .eq 6, 3) := by decide +kernel
theorem dX11_papers_59 : decode cX11_papers 59 = .ok (.bipush (-13), 2) := by decide +kernel
theorem dX11_papers_61 : decode cX11_papers 61 = .ok (.ireturn, 1) := by decide +kernel
theorem dX11_papers_62 : decode cX11_papers 62 = .ok (.iconst 0, 1) := by decide +kernel
theorem dX11_papers_63 : decode cX11_papers 63 = .ok (.istore 5, 2) := by decide +kernel
theorem dX11_papers_65 : decode cX11_papers 65 = .ok (.iload_n 3, 1) := by decide +kernel
theorem dX11_papers_66 : decode cX11_papers 66 = .ok (.istore 6, 2) := by decide +kernel
theorem dX11_papers_68 : decode cX11_papers 68 = .ok (.iconst 0, 1) := by decide +kernel
theorem dX11_papers_69 : decode cX11_papers 69 = .ok (.istore 7, 2) := by decide +kernel
theorem dX11_papers_71 : decode cX11_papers 71 = .ok (.iload 7, 2) := by decide +kernel
theorem dX11_papers_73 : decode cX11_papers 73 = .ok (.iload 4, 2) := by decide +kernel
theorem dX11_papers_75 : decode cX11_papers 75 = .ok (.if_icmp .ge 42, 3) := by decide +kernel
theorem dX11_papers_78 : decode cX11_papers 78 = .ok (.aload_n 0, 1) := by decide +kernel
theorem dX11_papers_79 : decode cX11_papers 79 = .ok (.getfield 91, 3) := by decide +kernel
theorem dX11_papers_82 : decode cX11_papers 82 = .ok (.iload_n 1, 1) := by decide +kernel
theorem dX11_papers_83 : decode cX11_papers 83 = .ok (.iload 6, 2) := by decide +kernel
theorem dX11_papers_85 : decode cX11_papers 85 = .ok (.iconst 5, 1) := by decide +kernel
theorem dX11_papers_86 : decode cX11_papers 86 = .ok (.invokevirtual 320, 3) := by decide +kernel
theorem dX11_papers_89 : decode cX11_papers 89 = .ok (.ifCond .ne 6, 3) := by decide +kernel
theorem dX11_papers_92 : decode cX11_papers 92 = .ok (.bipush (-12), 2) := by decide +kernel
theorem dX11_papers_94 : decode cX11_papers 94 = .ok (.ireturn, 1) := by decide +kernel
theorem dX11_papers_95 : decode cX11_papers 95 = .ok (.aload_n 0, 1) := by decide +kernel
theorem dX11_papers_96 : decode cX11_papers 96 = .ok (.iload_n 1, 1) := by decide +kernel
theorem dX11_papers_97 : decode cX11_papers 97 = .ok (.iload 6, 2) := by decide +kernel
theorem dX11_papers_99 : decode cX11_papers 99 = .ok (.invokevirtual 333, 3) := by decide +kernel
theorem dX11_papers_102 : decode cX11_papers 102 = .ok (.ifCond .lt 6, 3) := by decide +kernel
theorem dX11_papers_105 : decode cX11_papers 105 = .ok (.iinc 5 1, 3) := by decide +kernel
theorem dX11_papers_108 : decode cX11_papers 108 = .ok (.iinc 6 5, 3) := by decide +kernel
theorem dX11_papers_111 : decode cX11_papers 111 = .ok (.iinc 7 1, 3) := by decide +kernel
theorem dX11_papers_114 : decode cX11_papers 114 = .ok (.goto (-43), 3) := by decide +kernel
theorem dX11_papers_117 : decode cX11_papers 117 = .ok (.iload 5, 2) := by decide +kernel
theorem dX11_papers_119 : decode cX11_papers 119 = .ok (.ireturn, 1) := by decide +kernel
theorem dX11_taken_0 : decode cX11_taken 0 = .ok (.iload_n 2, 1) := by decide +kernel
theorem dX11_taken_1 : decode cX11_taken 1 = .ok (.ifCond .lt 9, 3) := by decide +kernel
theorem dX11_taken_4 : decode cX11_taken 4 = .ok (.iload_n 2, 1) := by decide +kernel
theorem dX11_taken_5 : decode cX11_taken 5 = .ok (.bipush 6, 2) := by decide +kernel
theorem dX11_taken_7 : decode cX11_taken 7 = .ok (.if_icmp .lt 6, 3) := by decide +kernel
theorem dX11_taken_10 : decode cX11_taken 10 = .ok (.bipush (-2), 2) := by decide +kernel
theorem dX11_taken_12 : decode cX11_taken 12 = .ok (.ireturn, 1) := by decide +kernel
theorem dX11_taken_13 : decode cX11_taken 13 = .ok (.aload_n 0, 1) := by decide +kernel
theorem dX11_taken_14 : decode cX11_taken 14 = .ok (.getfield 29, 3) := by decide +kernel
theorem dX11_taken_17 : decode cX11_taken 17 = .ok (.iload_n 1, 1) := by decide +kernel
theorem dX11_taken_18 : decode cX11_taken 18 = .ok (.invokevirtual 122, 3) := by decide +kernel
theorem dX11_taken_21 : decode cX11_taken 21 = .ok (.ifCond .ne 6, 3) := by decide +kernel
theorem dX11_taken_24 : decode cX11_taken 24 = .ok (.bipush (-11), 2) := by decide +kernel
theorem dX11_taken_26 : decode cX11_taken 26 = .ok (.ireturn, 1) := by decide +kernel
theorem dX11_taken_27 : decode cX11_taken 27 = .ok (.aload_n 0, 1) := by decide +kernel
theorem dX11_taken_28 : decode cX11_taken 28 = .ok (.getfield 29, 3) := by decide +kernel
theorem dX11_taken_31 : decode cX11_taken 31 = .ok (.getfield 125, 3) := by decide +kernel
theorem dX11_taken_34 : decode cX11_taken 34 = .ok (.iload_n 1, 1) := by decide +kernel
theorem dX11_taken_35 : decode cX11_taken 35 = .ok (.iaload, 1) := by decide +kernel
theorem dX11_taken_36 : decode cX11_taken 36 = .ok (.iload_n 2, 1) := by decide +kernel
theorem dX11_taken_37 : decode cX11_taken 37 = .ok (.invokestatic 336, 3) := by decide +kernel
theorem dX11_taken_40 : decode cX11_taken 40 = .ok (.ifCond .eq 15, 3) := by decide +kernel
theorem dX11_taken_43 : decode cX11_taken 43 = .ok (.aload_n 0, 1) := by decide +kernel
theorem dX11_taken_44 : decode cX11_taken 44 = .ok (.getfield 29, 3) := by decide +kernel
theorem dX11_taken_47 : decode cX11_taken 47 = .ok (.getfield 129, 3) := by decide +kernel
theorem dX11_taken_50 : decode cX11_taken 50 = .ok (.iload_n 1, 1) := by decide +kernel
theorem dX11_taken_51 : decode cX11_taken 51 = .ok (.iaload, 1) := by decide +kernel
theorem dX11_taken_52 : decode cX11_taken 52 = .ok (.goto 5, 3) := by decide +kernel
theorem dX11_taken_55 : decode cX11_taken 55 = .ok (.bipush (-13), 2) := by decide +kernel
theorem dX11_taken_57 : decode cX11_taken 57 = .ok (.ireturn, 1) := by decide +kernel
theorem dX11_giveAll_0 : decode cX11_giveAll 0 = .ok (.aload_n 0, 1) := by decide +kernel
theorem dX11_giveAll_1 : decode cX11_giveAll 1 = .ok (.getfield 38, 3) := by decide +kernel
theorem dX11_giveAll_4 : decode cX11_giveAll 4 = .ok (.invokevirtual 169, 3) := by decide +kernel
theorem dX11_giveAll_7 : decode cX11_giveAll 7 = .ok (.aload_n 0, 1) := by decide +kernel
theorem dX11_giveAll_8 : decode cX11_giveAll 8 = .ok (.getfield 61, 3) := by decide +kernel
theorem dX11_giveAll_11 : decode cX11_giveAll 11 = .ok (.iconst (-1), 1) := by decide +kernel
theorem dX11_giveAll_12 : decode cX11_giveAll 12 = .ok (.invokevirtual 339, 3) := by decide +kernel
theorem dX11_giveAll_15 : decode cX11_giveAll 15 = .ok (.return_, 1) := by decide +kernel
theorem dX11_paperFrom_0 : decode cX11_paperFrom 0 = .ok (.aload_n 0, 1) := by decide +kernel
theorem dX11_paperFrom_1 : decode cX11_paperFrom 1 = .ok (.aload_n 0, 1) := by decide +kernel
theorem dX11_paperFrom_2 : decode cX11_paperFrom 2 = .ok (.getfield 91, 3) := by decide +kernel
theorem dX11_paperFrom_5 : decode cX11_paperFrom 5 = .ok (.iload_n 1, 1) := by decide +kernel
theorem dX11_paperFrom_6 : decode cX11_paperFrom 6 = .ok (.iload_n 2, 1) := by decide +kernel
theorem dX11_paperFrom_7 : decode cX11_paperFrom 7 = .ok (.invokevirtual 343, 3) := by decide +kernel
theorem dX11_paperFrom_10 : decode cX11_paperFrom 10 = .ok (.aload_n 0, 1) := by decide +kernel
theorem dX11_paperFrom_11 : decode cX11_paperFrom 11 = .ok (.getfield 91, 3) := by decide +kernel
theorem dX11_paperFrom_14 : decode cX11_paperFrom 14 = .ok (.iload_n 1, 1) := by decide +kernel
theorem dX11_paperFrom_15 : decode cX11_paperFrom 15 = .ok (.iload_n 2, 1) := by decide +kernel
theorem dX11_paperFrom_16 : decode cX11_paperFrom 16 = .ok (.iconst 1, 1) := by decide +kernel
theorem dX11_paperFrom_17 : decode cX11_paperFrom 17 = .ok (.iadd, 1) := by decide +kernel
theorem dX11_paperFrom_18 : decode cX11_paperFrom 18 = .ok (.invokevirtual 343, 3) := by decide +kernel
theorem dX11_paperFrom_21 : decode cX11_paperFrom 21 = .ok (.aload_n 0, 1) := by decide +kernel
theorem dX11_paperFrom_22 : decode cX11_paperFrom 22 = .ok (.getfield 91, 3) := by decide +kernel
theorem dX11_paperFrom_25 : decode cX11_paperFrom 25 = .ok (.iload_n 1, 1) := by decide +kernel
theorem dX11_paperFrom_26 : decode cX11_paperFrom 26 = .ok (.iload_n 2, 1) := by decide +kernel
theorem dX11_paperFrom_27 : decode cX11_paperFrom 27 = .ok (.iconst 2, 1) := by decide +kernel
theorem dX11_paperFrom_28 : decode cX11_paperFrom 28 = .ok (.iadd, 1) := by decide +kernel
theorem dX11_paperFrom_29 : decode cX11_paperFrom 29 = .ok (.invokevirtual 343, 3) := by decide +kernel
theorem dX11_paperFrom_32 : decode cX11_paperFrom 32 = .ok (.aload_n 0, 1) := by decide +kernel
theorem dX11_paperFrom_33 : decode cX11_paperFrom 33 = .ok (.getfield 91, 3) := by decide +kernel
theorem dX11_paperFrom_36 : decode cX11_paperFrom 36 = .ok (.iload_n 1, 1) := by decide +kernel
theorem dX11_paperFrom_37 : decode cX11_paperFrom 37 = .ok (.iload_n 2, 1) := by decide +kernel
theorem dX11_paperFrom_38 : decode cX11_paperFrom 38 = .ok (.iconst 3, 1) := by decide +kernel
theorem dX11_paperFrom_39 : decode cX11_paperFrom 39 = .ok (.iadd, 1) := by decide +kernel
theorem dX11_paperFrom_40 : decode cX11_paperFrom 40 = .ok (.invokevirtual 343, 3) := by decide +kernel
theorem dX11_paperFrom_43 : decode cX11_paperFrom 43 = .ok (.aload_n 0, 1) := by decide +kernel
theorem dX11_paperFrom_44 : decode cX11_paperFrom 44 = .ok (.getfield 91, 3) := by decide +kernel
theorem dX11_paperFrom_47 : decode cX11_paperFrom 47 = .ok (.iload_n 1, 1) := by decide +kernel
theorem dX11_paperFrom_48 : decode cX11_paperFrom 48 = .ok (.iload_n 2, 1) := by decide +kernel
theorem dX11_paperFrom_49 : decode cX11_paperFrom 49 = .ok (.iconst 4, 1) := by decide +kernel
theorem dX11_paperFrom_50 : decode cX11_paperFrom 50 = .ok (.iadd, 1) := by decide +kernel
theorem dX11_paperFrom_51 : decode cX11_paperFrom 51 = .ok (.invokevirtual 343, 3) := by decide +kernel
theorem dX11_paperFrom_54 : decode cX11_paperFrom 54 = .ok (.invokevirtual 346, 3) := by decide +kernel
theorem dX11_paperFrom_57 : decode cX11_paperFrom 57 = .ok (.ireturn, 1) := by decide +kernel
theorem dX11_isPeriod_0 : decode cX11_isPeriod 0 = .ok (.iload_n 1, 1) := by decide +kernel
theorem dX11_isPeriod_1 : decode cX11_isPeriod 1 = .ok (.ifCond .lt 15, 3) := by decide +kernel
theorem dX11_isPeriod_4 : decode cX11_isPeriod 4 = .ok (.iload_n 1, 1) := by decide +kernel
theorem dX11_isPeriod_5 : decode cX11_isPeriod 5 = .ok (.aload_n 0, 1) := by decide +kernel
theorem dX11_isPeriod_6 : decode cX11_isPeriod 6 = .ok (.getfield 15, 3) := by decide +kernel
theorem dX11_isPeriod_9 : decode cX11_isPeriod 9 = .ok (.if_icmp .ge 7, 3) := by decide +kernel
theorem dX11_isPeriod_12 : decode cX11_isPeriod 12 = .ok (.iconst 1, 1) := by decide +kernel
theorem dX11_isPeriod_13 : decode cX11_isPeriod 13 = .ok (.goto 4, 3) := by decide +kernel
theorem dX11_isPeriod_16 : decode cX11_isPeriod 16 = .ok (.iconst 0, 1) := by decide +kernel
theorem dX11_isPeriod_17 : decode cX11_isPeriod 17 = .ok (.ireturn, 1) := by decide +kernel
theorem dX11_isMovePeriod_0 : decode cX11_isMovePeriod 0 = .ok (.iload_n 1, 1) := by decide +kernel
theorem dX11_isMovePeriod_1 : decode cX11_isMovePeriod 1 = .ok (.ifCond .lt 17, 3) := by decide +kernel
theorem dX11_isMovePeriod_4 : decode cX11_isMovePeriod 4 = .ok (.iload_n 1, 1) := by decide +kernel
theorem dX11_isMovePeriod_5 : decode cX11_isMovePeriod 5 = .ok (.aload_n 0, 1) := by decide +kernel
theorem dX11_isMovePeriod_6 : decode cX11_isMovePeriod 6 = .ok (.getfield 15, 3) := by decide +kernel
theorem dX11_isMovePeriod_9 : decode cX11_isMovePeriod 9 = .ok (.iconst 1, 1) := by decide +kernel
theorem dX11_isMovePeriod_10 : decode cX11_isMovePeriod 10 = .ok (.isub, 1) := by decide +kernel
theorem dX11_isMovePeriod_11 : decode cX11_isMovePeriod 11 = .ok (.if_icmp .ge 7, 3) := by decide +kernel
theorem dX11_isMovePeriod_14 : decode cX11_isMovePeriod 14 = .ok (.iconst 1, 1) := by decide +kernel
theorem dX11_isMovePeriod_15 : decode cX11_isMovePeriod 15 = .ok (.goto 4, 3) := by decide +kernel
theorem dX11_isMovePeriod_18 : decode cX11_isMovePeriod 18 = .ok (.iconst 0, 1) := by decide +kernel
theorem dX11_isMovePeriod_19 : decode cX11_isMovePeriod 19 = .ok (.ireturn, 1) := by decide +kernel
theorem dX11_isPlace_0 : decode cX11_isPlace 0 = .ok (.iload_n 1, 1) := by decide +kernel
theorem dX11_isPlace_1 : decode cX11_isPlace 1 = .ok (.invokestatic 95, 3) := by decide +kernel
theorem dX11_isPlace_4 : decode cX11_isPlace 4 = .ok (.ifCond .eq 15, 3) := by decide +kernel
theorem dX11_isPlace_7 : decode cX11_isPlace 7 = .ok (.aload_n 0, 1) := by decide +kernel
theorem dX11_isPlace_8 : decode cX11_isPlace 8 = .ok (.iload_n 2, 1) := by decide +kernel
theorem dX11_isPlace_9 : decode cX11_isPlace 9 = .ok (.invokevirtual 112, 3) := by decide +kernel
theorem dX11_isPlace_12 : decode cX11_isPlace 12 = .ok (.ifCond .eq 7, 3) := by decide +kernel
theorem dX11_isPlace_15 : decode cX11_isPlace 15 = .ok (.iconst 1, 1) := by decide +kernel
theorem dX11_isPlace_16 : decode cX11_isPlace 16 = .ok (.goto 4, 3) := by decide +kernel
theorem dX11_isPlace_19 : decode cX11_isPlace 19 = .ok (.iconst 0, 1) := by decide +kernel
theorem dX11_isPlace_20 : decode cX11_isPlace 20 = .ok (.ireturn, 1) := by decide +kernel
theorem dX11_isLand_0 : decode cX11_isLand 0 = .ok (.iload_n 0, 1) := by decide +kernel
theorem dX11_isLand_1 : decode cX11_isLand 1 = .ok (.ifCond .lt 12, 3) := by decide +kernel
theorem dX11_isLand_4 : decode cX11_isLand 4 = .ok (.iload_n 0, 1) := by decide +kernel
theorem dX11_isLand_5 : decode cX11_isLand 5 = .ok (.iconst 5, 1) := by decide +kernel
theorem dX11_isLand_6 : decode cX11_isLand 6 = .ok (.if_icmp .ge 7, 3) := by decide +kernel
theorem dX11_isLand_9 : decode cX11_isLand 9 = .ok (.iconst 1, 1) := by decide +kernel
theorem dX11_isLand_10 : decode cX11_isLand 10 = .ok (.goto 4, 3) := by decide +kernel
theorem dX11_isLand_13 : decode cX11_isLand 13 = .ok (.iconst 0, 1) := by decide +kernel
theorem dX11_isLand_14 : decode cX11_isLand 14 = .ok (.ireturn, 1) := by decide +kernel
theorem dX11_place_0 : decode cX11_place 0 = .ok (.iload_n 1, 1) := by decide +kernel
theorem dX11_place_1 : decode cX11_place 1 = .ok (.iconst 5, 1) := by decide +kernel
theorem dX11_place_2 : decode cX11_place 2 = .ok (.imul, 1) := by decide +kernel
theorem dX11_place_3 : decode cX11_place 3 = .ok (.iload_n 0, 1) := by decide +kernel
theorem dX11_place_4 : decode cX11_place 4 = .ok (.iadd, 1) := by decide +kernel
theorem dX11_place_5 : decode cX11_place 5 = .ok (.ireturn, 1) := by decide +kernel
theorem dX11_isIn_0 : decode cX11_isIn 0 = .ok (.iload_n 0, 1) := by decide +kernel
theorem dX11_isIn_1 : decode cX11_isIn 1 = .ok (.iload_n 1, 1) := by decide +kernel
theorem dX11_isIn_2 : decode cX11_isIn 2 = .ok (.ishr, 1) := by decide +kernel
theorem dX11_isIn_3 : decode cX11_isIn 3 = .ok (.iconst 1, 1) := by decide +kernel
theorem dX11_isIn_4 : decode cX11_isIn 4 = .ok (.iand, 1) := by decide +kernel
theorem dX11_isIn_5 : decode cX11_isIn 5 = .ok (.iconst 1, 1) := by decide +kernel
theorem dX11_isIn_6 : decode cX11_isIn 6 = .ok (.if_icmp .ne 7, 3) := by decide +kernel
theorem dX11_isIn_9 : decode cX11_isIn 9 = .ok (.iconst 1, 1) := by decide +kernel
theorem dX11_isIn_10 : decode cX11_isIn 10 = .ok (.goto 4, 3) := by decide +kernel
theorem dX11_isIn_13 : decode cX11_isIn 13 = .ok (.iconst 0, 1) := by decide +kernel
theorem dX11_isIn_14 : decode cX11_isIn 14 = .ok (.ireturn, 1) := by decide +kernel
theorem dX12_in_0 : decode cX12_in 0 = .ok (.iload_n 0, 1) := by decide +kernel
theorem dX12_in_1 : decode cX12_in 1 = .ok (.iload_n 1, 1) := by decide +kernel
theorem dX12_in_2 : decode cX12_in 2 = .ok (.if_icmp .lt 12, 3) := by decide +kernel
theorem dX12_in_5 : decode cX12_in 5 = .ok (.iload_n 0, 1) := by decide +kernel
theorem dX12_in_6 : decode cX12_in 6 = .ok (.iload_n 2, 1) := by decide +kernel
theorem dX12_in_7 : decode cX12_in 7 = .ok (.if_icmp .gt 7, 3) := by decide +kernel
theorem dX12_in_10 : decode cX12_in 10 = .ok (.iconst 1, 1) := by decide +kernel
theorem dX12_in_11 : decode cX12_in 11 = .ok (.goto 4, 3) := by decide +kernel
theorem dX12_in_14 : decode cX12_in 14 = .ok (.iconst 0, 1) := by decide +kernel
theorem dX12_in_15 : decode cX12_in 15 = .ok (.ireturn, 1) := by decide +kernel
theorem dX12_init_0 : decode cX12_init 0 = .ok (.aload_n 0, 1) := by decide +kernel
theorem dX12_init_1 : decode cX12_init 1 = .ok (.invokespecial 7, 3) := by decide +kernel
theorem dX12_init_4 : decode cX12_init 4 = .ok (.aload_n 0, 1) := by decide +kernel
theorem dX12_init_5 : decode cX12_init 5 = .ok (.bipush 20, 2) := by decide +kernel
theorem dX12_init_7 : decode cX12_init 7 = .ok (.newarray .int, 2) := by decide +kernel
theorem dX12_init_9 : decode cX12_init 9 = .ok (.putfield 13, 3) := by decide +kernel
theorem dX12_init_12 : decode cX12_init 12 = .ok (.aload_n 0, 1) := by decide +kernel
theorem dX12_init_13 : decode cX12_init 13 = .ok (.bipush 20, 2) := by decide +kernel
theorem dX12_init_15 : decode cX12_init 15 = .ok (.newarray .int, 2) := by decide +kernel
theorem dX12_init_17 : decode cX12_init 17 = .ok (.putfield 17, 3) := by decide +kernel
theorem dX12_init_20 : decode cX12_init 20 = .ok (.aload_n 0, 1) := by decide +kernel
theorem dX12_init_21 : decode cX12_init 21 = .ok (.bipush 20, 2) := by decide +kernel
theorem dX12_init_23 : decode cX12_init 23 = .ok (.newarray .int, 2) := by decide +kernel
theorem dX12_init_25 : decode cX12_init 25 = .ok (.putfield 20, 3) := by decide +kernel
theorem dX12_init_28 : decode cX12_init 28 = .ok (.aload_n 0, 1) := by decide +kernel
theorem dX12_init_29 : decode cX12_init 29 = .ok (.bipush 20, 2) := by decide +kernel
theorem dX12_init_31 : decode cX12_init 31 = .ok (.newarray .int, 2) := by decide +kernel
theorem dX12_init_33 : decode cX12_init 33 = .ok (.putfield 23, 3) := by decide +kernel
theorem dX12_init_36 : decode cX12_init 36 = .ok (.aload_n 0, 1) := by decide +kernel
theorem dX12_init_37 : decode cX12_init 37 = .ok (.bipush 16, 2) := by decide +kernel
theorem dX12_init_39 : decode cX12_init 39 = .ok (.newarray .int, 2) := by decide +kernel
theorem dX12_init_41 : decode cX12_init 41 = .ok (.putfield 26, 3) := by decide +kernel
theorem dX12_init_44 : decode cX12_init 44 = .ok (.aload_n 0, 1) := by decide +kernel
theorem dX12_init_45 : decode cX12_init 45 = .ok (.bipush 16, 2) := by decide +kernel
theorem dX12_init_47 : decode cX12_init 47 = .ok (.newarray .int, 2) := by decide +kernel
theorem dX12_init_49 : decode cX12_init 49 = .ok (.putfield 29, 3) := by decide +kernel
theorem dX12_init_52 : decode cX12_init 52 = .ok (.aload_n 0, 1) := by decide +kernel
theorem dX12_init_53 : decode cX12_init 53 = .ok (.bipush 16, 2) := by decide +kernel
theorem dX12_init_55 : decode cX12_init 55 = .ok (.newarray .int, 2) := by decide +kernel
theorem dX12_init_57 : decode cX12_init 57 = .ok (.putfield 32, 3) := by decide +kernel
theorem dX12_init_60 : decode cX12_init 60 = .ok (.aload_n 0, 1) := by decide +kernel
theorem dX12_init_61 : decode cX12_init 61 = .ok (.bipush 16, 2) := by decide +kernel
theorem dX12_init_63 : decode cX12_init 63 = .ok (.newarray .int, 2) := by decide +kernel
theorem dX12_init_65 : decode cX12_init 65 = .ok (.putfield 35, 3) := by decide +kernel
theorem dX12_init_68 : decode cX12_init 68 = .ok (.aload_n 0, 1) := by decide +kernel
theorem dX12_init_69 : decode cX12_init 69 = .ok (.bipush 16, 2) := by decide +kernel
theorem dX12_init_71 : decode cX12_init 71 = .ok (.newarray .int, 2) := by decide +kernel
theorem dX12_init_73 : decode cX12_init 73 = .ok (.putfield 38, 3) := by decide +kernel
theorem dX12_init_76 : decode cX12_init 76 = .ok (.aload_n 0, 1) := by decide +kernel
theorem dX12_init_77 : decode cX12_init 77 = .ok (.bipush 16, 2) := by decide +kernel
theorem dX12_init_79 : decode cX12_init 79 = .ok (.newarray .boolean, 2) := by decide +kernel
theorem dX12_init_81 : decode cX12_init 81 = .ok (.putfield 41, 3) := by decide +kernel
theorem dX12_init_84 : decode cX12_init 84 = .ok (.aload_n 0, 1) := by decide +kernel
theorem dX12_init_85 : decode cX12_init 85 = .ok (.bipush 60, 2) := by decide +kernel
theorem dX12_init_87 : decode cX12_init 87 = .ok (.newarray .boolean, 2) := by decide +kernel
theorem dX12_init_89 : decode cX12_init 89 = .ok (.putfield 45, 3) := by decide +kernel
theorem dX12_init_92 : decode cX12_init 92 = .ok (.aload_n 0, 1) := by decide +kernel
theorem dX12_init_93 : decode cX12_init 93 = .ok (.sipush 300, 3) := by decide +kernel
theorem dX12_init_96 : decode cX12_init 96 = .ok (.newarray .boolean, 2) := by decide +kernel
theorem dX12_init_98 : decode cX12_init 98 = .ok (.putfield 48, 3) := by decide +kernel
theorem dX12_init_101 : decode cX12_init 101 = .ok (.aload_n 0, 1) := by decide +kernel
theorem dX12_init_102 : decode cX12_init 102 = .ok (.bipush 60, 2) := by decide +kernel
theorem dX12_init_104 : decode cX12_init 104 = .ok (.newarray .long, 2) := by decide +kernel
theorem dX12_init_106 : decode cX12_init 106 = .ok (.putfield 51, 3) := by decide +kernel
theorem dX12_init_109 : decode cX12_init 109 = .ok (.aload_n 0, 1) := by decide +kernel
theorem dX12_init_110 : decode cX12_init 110 = .ok (.bipush 60, 2) := by decide +kernel
theorem dX12_init_112 : decode cX12_init 112 = .ok (.newarray .long, 2) := by decide +kernel
theorem dX12_init_114 : decode cX12_init 114 = .ok (.putfield 55, 3) := by decide +kernel
theorem dX12_init_117 : decode cX12_init 117 = .ok (.aload_n 0, 1) := by decide +kernel
theorem dX12_init_118 : decode cX12_init 118 = .ok (.bipush 60, 2) := by decide +kernel
theorem dX12_init_120 : decode cX12_init 120 = .ok (.newarray .long, 2) := by decide +kernel
theorem dX12_init_122 : decode cX12_init 122 = .ok (.putfield 58, 3) := by decide +kernel
theorem dX12_init_125 : decode cX12_init 125 = .ok (.aload_n 0, 1) := by decide +kernel
theorem dX12_init_126 : decode cX12_init 126 = .ok (.sipush 3600, 3) := by decide +kernel
theorem dX12_init_129 : decode cX12_init 129 = .ok (.newarray .long, 2) := by decide +kernel
theorem dX12_init_131 : decode cX12_init 131 = .ok (.putfield 61, 3) := by decide +kernel
theorem dX12_init_134 : decode cX12_init 134 = .ok (.aload_n 0, 1) := by decide +kernel
theorem dX12_init_135 : decode cX12_init 135 = .ok (.sipush 960, 3) := by decide +kernel
theorem dX12_init_138 : decode cX12_init 138 = .ok (.newarray .int, 2) := by decide +kernel
theorem dX12_init_140 : decode cX12_init 140 = .ok (.putfield 64, 3) := by decide +kernel
theorem dX12_init_143 : decode cX12_init 143 = .ok (.aload_n 0, 1) := by decide +kernel
theorem dX12_init_144 : decode cX12_init 144 = .ok (.bipush 6, 2) := by decide +kernel
theorem dX12_init_146 : decode cX12_init 146 = .ok (.newarray .int, 2) := by decide +kernel
theorem dX12_init_148 : decode cX12_init 148 = .ok (.putfield 67, 3) := by decide +kernel
theorem dX12_init_151 : decode cX12_init 151 = .ok (.aload_n 0, 1) := by decide +kernel
theorem dX12_init_152 : decode cX12_init 152 = .ok (.sipush 160, 3) := by decide +kernel
theorem dX12_init_155 : decode cX12_init 155 = .ok (.newarray .int, 2) := by decide +kernel
theorem dX12_init_157 : decode cX12_init 157 = .ok (.putfield 70, 3) := by decide +kernel
theorem dX12_init_160 : decode cX12_init 160 = .ok (.aload_n 0, 1) := by decide +kernel
theorem dX12_init_161 : decode cX12_init 161 = .ok (.bipush 20, 2) := by decide +kernel
theorem dX12_init_163 : decode cX12_init 163 = .ok (.newarray .int, 2) := by decide +kernel
theorem dX12_init_165 : decode cX12_init 165 = .ok (.putfield 73, 3) := by decide +kernel
theorem dX12_init_168 : decode cX12_init 168 = .ok (.aload_n 0, 1) := by decide +kernel
theorem dX12_init_169 : decode cX12_init 169 = .ok (.bipush 20, 2) := by decide +kernel
theorem dX12_init_171 : decode cX12_init 171 = .ok (.newarray .int, 2) := by decide +kernel
theorem dX12_init_173 : decode cX12_init 173 = .ok (.putfield 76, 3) := by decide +kernel
theorem dX12_init_176 : decode cX12_init 176 = .ok (.aload_n 0, 1) := by decide +kernel
theorem dX12_init_177 : decode cX12_init 177 = .ok (.bipush 20, 2) := by decide +kernel
theorem dX12_init_179 : decode cX12_init 179 = .ok (.newarray .int, 2) := by decide +kernel
theorem dX12_init_181 : decode cX12_init 181 = .ok (.putfield 79, 3) := by decide +kernel
theorem dX12_init_184 : decode cX12_init 184 = .ok (.aload_n 0, 1) := by decide +kernel
theorem dX12_init_185 : decode cX12_init 185 = .ok (.sipush 300, 3) := by decide +kernel
theorem dX12_init_188 : decode cX12_init 188 = .ok (.newarray .boolean, 2) := by decide +kernel
theorem dX12_init_190 : decode cX12_init 190 = .ok (.putfield 82, 3) := by decide +kernel
theorem dX12_init_193 : decode cX12_init 193 = .ok (.aload_n 0, 1) := by decide +kernel
theorem dX12_init_194 : decode cX12_init 194 = .ok (.bipush 60, 2) := by decide +kernel
theorem dX12_init_196 : decode cX12_init 196 = .ok (.newarray .long, 2) := by decide +kernel
theorem dX12_init_198 : decode cX12_init 198 = .ok (.putfield 85, 3) := by decide +kernel
theorem dX12_init_201 : decode cX12_init 201 = .ok (.aload_n 0, 1) := by decide +kernel
theorem dX12_init_202 : decode cX12_init 202 = .ok (.iconst 5, 1) := by decide +kernel
theorem dX12_init_203 : decode cX12_init 203 = .ok (.newarray .long, 2) := by decide +kernel
theorem dX12_init_205 : decode cX12_init 205 = .ok (.putfield 88, 3) := by decide +kernel
theorem dX12_init_208 : decode cX12_init 208 = .ok (.aload_n 0, 1) := by decide +kernel
theorem dX12_init_209 : decode cX12_init 209 = .ok (.bipush 60, 2) := by decide +kernel
theorem dX12_init_211 : decode cX12_init 211 = .ok (.newarray .long, 2) := by decide +kernel
theorem dX12_init_213 : decode cX12_init 213 = .ok (.putfield 91, 3) := by decide +kernel
theorem dX12_init_216 : decode cX12_init 216 = .ok (.aload_n 0, 1) := by decide +kernel
theorem dX12_init_217 : decode cX12_init 217 = .ok (.bipush 8, 2) := by decide +kernel
theorem dX12_init_219 : decode cX12_init 219 = .ok (.newarray .int, 2) := by decide +kernel
theorem dX12_init_221 : decode cX12_init 221 = .ok (.putfield 94, 3) := by decide +kernel
theorem dX12_init_224 : decode cX12_init 224 = .ok (.aload_n 0, 1) := by decide +kernel
theorem dX12_init_225 : decode cX12_init 225 = .ok (.bipush 8, 2) := by decide +kernel
theorem dX12_init_227 : decode cX12_init 227 = .ok (.newarray .int, 2) := by decide +kernel
theorem dX12_init_229 : decode cX12_init 229 = .ok (.putfield 97, 3) := by decide +kernel
theorem dX12_init_232 : decode cX12_init 232 = .ok (.aload_n 0, 1) := by decide +kernel
theorem dX12_init_233 : decode cX12_init 233 = .ok (.sipush 2048, 3) := by decide +kernel
theorem dX12_init_236 : decode cX12_init 236 = .ok (.newarray .int, 2) := by decide +kernel
theorem dX12_init_238 : decode cX12_init 238 = .ok (.putfield 100, 3) := by decide +kernel
theorem dX12_init_241 : decode cX12_init 241 = .ok (.aload_n 0, 1) := by decide +kernel
theorem dX12_init_242 : decode cX12_init 242 = .ok (.bipush 10, 2) := by decide +kernel
theorem dX12_init_244 : decode cX12_init 244 = .ok (.newarray .int, 2) := by decide +kernel
theorem dX12_init_246 : decode cX12_init 246 = .ok (.putfield 103, 3) := by decide +kernel
theorem dX12_init_249 : decode cX12_init 249 = .ok (.aload_n 0, 1) := by decide +kernel
theorem dX12_init_250 : decode cX12_init 250 = .ok (.bipush 10, 2) := by decide +kernel
theorem dX12_init_252 : decode cX12_init 252 = .ok (.newarray .int, 2) := by decide +kernel
theorem dX12_init_254 : decode cX12_init 254 = .ok (.putfield 106, 3) := by decide +kernel
theorem dX12_init_257 : decode cX12_init 257 = .ok (.aload_n 0, 1) := by decide +kernel
theorem dX12_init_258 : decode cX12_init 258 = .ok (.bipush 10, 2) := by decide +kernel
theorem dX12_init_260 : decode cX12_init 260 = .ok (.newarray .int, 2) := by decide +kernel
theorem dX12_init_262 : decode cX12_init 262 = .ok (.putfield 109, 3) := by decide +kernel
theorem dX12_init_265 : decode cX12_init 265 = .ok (.aload_n 0, 1) := by decide +kernel
theorem dX12_init_266 : decode cX12_init 266 = .ok (.iconst 4, 1) := by decide +kernel
theorem dX12_init_267 : decode cX12_init 267 = .ok (.newarray .boolean, 2) := by decide +kernel
theorem dX12_init_269 : decode cX12_init 269 = .ok (.putfield 112, 3) := by decide +kernel
theorem dX12_init_272 : decode cX12_init 272 = .ok (.aload_n 0, 1) := by decide +kernel
