theorem dX0_init_0 : decode cX0_init 0 = .ok (.aload_n 0, 1) := by decide +kernel
theorem dX0_init_1 : decode cX0_init 1 = .ok (.invokespecial 3, 3) := by decide +kernel
theorem dX0_init_4 : decode cX0_init 4 = .ok (.aload_n 0, 1) := by decide +kernel
theorem dX0_init_5 : decode cX0_init 5 = .ok (.bipush 60, 2) := by decide +kernel
theorem dX0_init_7 : decode cX0_init 7 = .ok (.newarray .long, 2) := by decide +kernel
theorem dX0_init_9 : decode cX0_init 9 = .ok (.putfield 11, 3) := by decide +kernel
theorem dX0_init_12 : decode cX0_init 12 = .ok (.aload_n 0, 1) := by decide +kernel
theorem dX0_init_13 : decode cX0_init 13 = .ok (.iconst 5, 1) := by decide +kernel
theorem dX0_init_14 : decode cX0_init 14 = .ok (.newarray .long, 2) := by decide +kernel
theorem dX0_init_16 : decode cX0_init 16 = .ok (.putfield 15, 3) := by decide +kernel
theorem dX0_init_19 : decode cX0_init 19 = .ok (.aload_n 0, 1) := by decide +kernel
theorem dX0_init_20 : decode cX0_init 20 = .ok (.bipush 60, 2) := by decide +kernel
theorem dX0_init_22 : decode cX0_init 22 = .ok (.newarray .long, 2) := by decide +kernel
theorem dX0_init_24 : decode cX0_init 24 = .ok (.putfield 18, 3) := by decide +kernel
theorem dX0_init_27 : decode cX0_init 27 = .ok (.aload_n 0, 1) := by decide +kernel
theorem dX0_init_28 : decode cX0_init 28 = .ok (.iload_n 1, 1) := by decide +kernel
theorem dX0_init_29 : decode cX0_init 29 = .ok (.putfield 21, 3) := by decide +kernel
theorem dX0_init_32 : decode cX0_init 32 = .ok (.aload_n 0, 1) := by decide +kernel
theorem dX0_init_33 : decode cX0_init 33 = .ok (.aload_n 2, 1) := by decide +kernel
theorem dX0_init_34 : decode cX0_init 34 = .ok (.putfield 25, 3) := by decide +kernel
theorem dX0_init_37 : decode cX0_init 37 = .ok (.aload_n 0, 1) := by decide +kernel
theorem dX0_init_38 : decode cX0_init 38 = .ok (.aload_n 3, 1) := by decide +kernel
theorem dX0_init_39 : decode cX0_init 39 = .ok (.putfield 29, 3) := by decide +kernel
theorem dX0_init_42 : decode cX0_init 42 = .ok (.aload_n 0, 1) := by decide +kernel
theorem dX0_init_43 : decode cX0_init 43 = .ok (.aload 4, 2) := by decide +kernel
theorem dX0_init_45 : decode cX0_init 45 = .ok (.putfield 33, 3) := by decide +kernel
theorem dX0_init_48 : decode cX0_init 48 = .ok (.return_, 1) := by decide +kernel
theorem dX0_givenTo_0 : decode cX0_givenTo 0 = .ok (.aload_n 0, 1) := by decide +kernel
theorem dX0_givenTo_1 : decode cX0_givenTo 1 = .ok (.getfield 15, 3) := by decide +kernel
theorem dX0_givenTo_4 : decode cX0_givenTo 4 = .ok (.iload_n 1, 1) := by decide +kernel
theorem dX0_givenTo_5 : decode cX0_givenTo 5 = .ok (.laload, 1) := by decide +kernel
theorem dX0_givenTo_6 : decode cX0_givenTo 6 = .ok (.aload_n 0, 1) := by decide +kernel
theorem dX0_givenTo_7 : decode cX0_givenTo 7 = .ok (.getfield 18, 3) := by decide +kernel
theorem dX0_givenTo_10 : decode cX0_givenTo 10 = .ok (.iload_n 1, 1) := by decide +kernel
theorem dX0_givenTo_11 : decode cX0_givenTo 11 = .ok (.aload_n 0, 1) := by decide +kernel
theorem dX0_givenTo_12 : decode cX0_givenTo 12 = .ok (.getfield 21, 3) := by decide +kernel
theorem dX0_givenTo_15 : decode cX0_givenTo 15 = .ok (.iconst 1, 1) := by decide +kernel
theorem dX0_givenTo_16 : decode cX0_givenTo 16 = .ok (.isub, 1) := by decide +kernel
theorem dX0_givenTo_17 : decode cX0_givenTo 17 = .ok (.invokestatic 37, 3) := by decide +kernel
theorem dX0_givenTo_20 : decode cX0_givenTo 20 = .ok (.laload, 1) := by decide +kernel
theorem dX0_givenTo_21 : decode cX0_givenTo 21 = .ok (.ladd, 1) := by decide +kernel
theorem dX0_givenTo_22 : decode cX0_givenTo 22 = .ok (.lreturn, 1) := by decide +kernel
theorem dX0_claimsOf_0 : decode cX0_claimsOf 0 = .ok (.aload_n 0, 1) := by decide +kernel
theorem dX0_claimsOf_1 : decode cX0_claimsOf 1 = .ok (.iload_n 1, 1) := by decide +kernel
theorem dX0_claimsOf_2 : decode cX0_claimsOf 2 = .ok (.invokevirtual 41, 3) := by decide +kernel
theorem dX0_claimsOf_5 : decode cX0_claimsOf 5 = .ok (.aload_n 0, 1) := by decide +kernel
theorem dX0_claimsOf_6 : decode cX0_claimsOf 6 = .ok (.getfield 15, 3) := by decide +kernel
theorem dX0_claimsOf_9 : decode cX0_claimsOf 9 = .ok (.iload_n 1, 1) := by decide +kernel
theorem dX0_claimsOf_10 : decode cX0_claimsOf 10 = .ok (.laload, 1) := by decide +kernel
theorem dX0_claimsOf_11 : decode cX0_claimsOf 11 = .ok (.lreturn, 1) := by decide +kernel
theorem dX0_has_0 : decode cX0_has 0 = .ok (.iload_n 1, 1) := by decide +kernel
theorem dX0_has_1 : decode cX0_has 1 = .ok (.ifCond .lt 15, 3) := by decide +kernel
theorem dX0_has_4 : decode cX0_has 4 = .ok (.iload_n 1, 1) := by decide +kernel
theorem dX0_has_5 : decode cX0_has 5 = .ok (.aload_n 0, 1) := by decide +kernel
theorem dX0_has_6 : decode cX0_has 6 = .ok (.getfield 45, 3) := by decide +kernel
theorem dX0_has_9 : decode cX0_has 9 = .ok (.if_icmp .ge 7, 3) := by decide +kernel
theorem dX0_has_12 : decode cX0_has 12 = .ok (.iconst 1, 1) := by decide +kernel
theorem dX0_has_13 : decode cX0_has 13 = .ok (.goto 4, 3) := by decide +kernel
theorem dX0_has_16 : decode cX0_has 16 = .ok (.iconst 0, 1) := by decide +kernel
theorem dX0_has_17 : decode cX0_has 17 = .ok (.ireturn, 1) := by decide +kernel
theorem dX0_keep_0 : decode cX0_keep 0 = .ok (.iconst 0, 1) := by decide +kernel
theorem dX0_keep_1 : decode cX0_keep 1 = .ok (.istore_n 1, 1) := by decide +kernel
theorem dX0_keep_2 : decode cX0_keep 2 = .ok (.iload_n 1, 1) := by decide +kernel
theorem dX0_keep_3 : decode cX0_keep 3 = .ok (.iconst 5, 1) := by decide +kernel
theorem dX0_keep_4 : decode cX0_keep 4 = .ok (.if_icmp .ge 27, 3) := by decide +kernel
theorem dX0_keep_7 : decode cX0_keep 7 = .ok (.aload_n 0, 1) := by decide +kernel
theorem dX0_keep_8 : decode cX0_keep 8 = .ok (.getfield 11, 3) := by decide +kernel
theorem dX0_keep_11 : decode cX0_keep 11 = .ok (.aload_n 0, 1) := by decide +kernel
theorem dX0_keep_12 : decode cX0_keep 12 = .ok (.getfield 45, 3) := by decide +kernel
theorem dX0_keep_15 : decode cX0_keep 15 = .ok (.iconst 5, 1) := by decide +kernel
theorem dX0_keep_16 : decode cX0_keep 16 = .ok (.imul, 1) := by decide +kernel
theorem dX0_keep_17 : decode cX0_keep 17 = .ok (.iload_n 1, 1) := by decide +kernel
theorem dX0_keep_18 : decode cX0_keep 18 = .ok (.iadd, 1) := by decide +kernel
theorem dX0_keep_19 : decode cX0_keep 19 = .ok (.aload_n 0, 1) := by decide +kernel
theorem dX0_keep_20 : decode cX0_keep 20 = .ok (.iload_n 1, 1) := by decide +kernel
theorem dX0_keep_21 : decode cX0_keep 21 = .ok (.invokevirtual 48, 3) := by decide +kernel
theorem dX0_keep_24 : decode cX0_keep 24 = .ok (.lastore, 1) := by decide +kernel
theorem dX0_keep_25 : decode cX0_keep 25 = .ok (.iinc 1 1, 3) := by decide +kernel
theorem dX0_keep_28 : decode cX0_keep 28 = .ok (.goto (-26), 3) := by decide +kernel
theorem dX0_keep_31 : decode cX0_keep 31 = .ok (.aload_n 0, 1) := by decide +kernel
theorem dX0_keep_32 : decode cX0_keep 32 = .ok (.dup, 1) := by decide +kernel
theorem dX0_keep_33 : decode cX0_keep 33 = .ok (.getfield 45, 3) := by decide +kernel
theorem dX0_keep_36 : decode cX0_keep 36 = .ok (.dup_x1, 1) := by decide +kernel
theorem dX0_keep_37 : decode cX0_keep 37 = .ok (.iconst 1, 1) := by decide +kernel
theorem dX0_keep_38 : decode cX0_keep 38 = .ok (.iadd, 1) := by decide +kernel
theorem dX0_keep_39 : decode cX0_keep 39 = .ok (.putfield 45, 3) := by decide +kernel
theorem dX0_keep_42 : decode cX0_keep 42 = .ok (.ireturn, 1) := by decide +kernel
theorem dX0_keptFor_0 : decode cX0_keptFor 0 = .ok (.aload_n 0, 1) := by decide +kernel
theorem dX0_keptFor_1 : decode cX0_keptFor 1 = .ok (.getfield 11, 3) := by decide +kernel
theorem dX0_keptFor_4 : decode cX0_keptFor 4 = .ok (.iload_n 1, 1) := by decide +kernel
theorem dX0_keptFor_5 : decode cX0_keptFor 5 = .ok (.iconst 5, 1) := by decide +kernel
theorem dX0_keptFor_6 : decode cX0_keptFor 6 = .ok (.imul, 1) := by decide +kernel
theorem dX0_keptFor_7 : decode cX0_keptFor 7 = .ok (.iload_n 2, 1) := by decide +kernel
theorem dX0_keptFor_8 : decode cX0_keptFor 8 = .ok (.iadd, 1) := by decide +kernel
theorem dX0_keptFor_9 : decode cX0_keptFor 9 = .ok (.laload, 1) := by decide +kernel
theorem dX0_keptFor_10 : decode cX0_keptFor 10 = .ok (.lreturn, 1) := by decide +kernel
theorem dX0_changedLands_0 : decode cX0_changedLands 0 = .ok (.iconst 0, 1) := by decide +kernel
theorem dX0_changedLands_1 : decode cX0_changedLands 1 = .ok (.istore_n 2, 1) := by decide +kernel
theorem dX0_changedLands_2 : decode cX0_changedLands 2 = .ok (.iconst 0, 1) := by decide +kernel
theorem dX0_changedLands_3 : decode cX0_changedLands 3 = .ok (.istore_n 3, 1) := by decide +kernel
theorem dX0_changedLands_4 : decode cX0_changedLands 4 = .ok (.iload_n 3, 1) := by decide +kernel
theorem dX0_changedLands_5 : decode cX0_changedLands 5 = .ok (.iconst 5, 1) := by decide +kernel
theorem dX0_changedLands_6 : decode cX0_changedLands 6 = .ok (.if_icmp .ge 30, 3) := by decide +kernel
theorem dX0_changedLands_9 : decode cX0_changedLands 9 = .ok (.aload_n 0, 1) := by decide +kernel
theorem dX0_changedLands_10 : decode cX0_changedLands 10 = .ok (.iload_n 3, 1) := by decide +kernel
theorem dX0_changedLands_11 : decode cX0_changedLands 11 = .ok (.invokevirtual 48, 3) := by decide +kernel
theorem dX0_changedLands_14 : decode cX0_changedLands 14 = .ok (.aload_n 0, 1) := by decide +kernel
theorem dX0_changedLands_15 : decode cX0_changedLands 15 = .ok (.iload_n 1, 1) := by decide +kernel
theorem dX0_changedLands_16 : decode cX0_changedLands 16 = .ok (.iload_n 3, 1) := by decide +kernel
theorem dX0_changedLands_17 : decode cX0_changedLands 17 = .ok (.invokevirtual 52, 3) := by decide +kernel
theorem dX0_changedLands_20 : decode cX0_changedLands 20 = .ok (.lcmp, 1) := by decide +kernel
theorem dX0_changedLands_21 : decode cX0_changedLands 21 = .ok (.ifCond .eq 9, 3) := by decide +kernel
theorem dX0_changedLands_24 : decode cX0_changedLands 24 = .ok (.iload_n 2, 1) := by decide +kernel
theorem dX0_changedLands_25 : decode cX0_changedLands 25 = .ok (.iconst 1, 1) := by decide +kernel
theorem dX0_changedLands_26 : decode cX0_changedLands 26 = .ok (.iload_n 3, 1) := by decide +kernel
theorem dX0_changedLands_27 : decode cX0_changedLands 27 = .ok (.ishl, 1) := by decide +kernel
theorem dX0_changedLands_28 : decode cX0_changedLands 28 = .ok (.ior, 1) := by decide +kernel
theorem dX0_changedLands_29 : decode cX0_changedLands 29 = .ok (.istore_n 2, 1) := by decide +kernel
theorem dX0_changedLands_30 : decode cX0_changedLands 30 = .ok (.iinc 3 1, 3) := by decide +kernel
theorem dX0_changedLands_33 : decode cX0_changedLands 33 = .ok (.goto (-29), 3) := by decide +kernel
theorem dX0_changedLands_36 : decode cX0_changedLands 36 = .ok (.iload_n 2, 1) := by decide +kernel
theorem dX0_changedLands_37 : decode cX0_changedLands 37 = .ok (.ireturn, 1) := by decide +kernel
theorem dX0_giveBack_0 : decode cX0_giveBack 0 = .ok (.aload_n 0, 1) := by decide +kernel
theorem dX0_giveBack_1 : decode cX0_giveBack 1 = .ok (.getfield 15, 3) := by decide +kernel
theorem dX0_giveBack_4 : decode cX0_giveBack 4 = .ok (.lconst 0, 1) := by decide +kernel
theorem dX0_giveBack_5 : decode cX0_giveBack 5 = .ok (.invokestatic 56, 3) := by decide +kernel
theorem dX0_giveBack_8 : decode cX0_giveBack 8 = .ok (.aload_n 0, 1) := by decide +kernel
theorem dX0_giveBack_9 : decode cX0_giveBack 9 = .ok (.getfield 18, 3) := by decide +kernel
theorem dX0_giveBack_12 : decode cX0_giveBack 12 = .ok (.lconst 0, 1) := by decide +kernel
theorem dX0_giveBack_13 : decode cX0_giveBack 13 = .ok (.invokestatic 56, 3) := by decide +kernel
theorem dX0_giveBack_16 : decode cX0_giveBack 16 = .ok (.iconst 0, 1) := by decide +kernel
theorem dX0_giveBack_17 : decode cX0_giveBack 17 = .ok (.istore_n 2, 1) := by decide +kernel
theorem dX0_giveBack_18 : decode cX0_giveBack 18 = .ok (.iload_n 2, 1) := by decide +kernel
theorem dX0_giveBack_19 : decode cX0_giveBack 19 = .ok (.iconst 5, 1) := by decide +kernel
theorem dX0_giveBack_20 : decode cX0_giveBack 20 = .ok (.if_icmp .ge 24, 3) := by decide +kernel
theorem dX0_giveBack_23 : decode cX0_giveBack 23 = .ok (.aload_n 0, 1) := by decide +kernel
theorem dX0_giveBack_24 : decode cX0_giveBack 24 = .ok (.getfield 18, 3) := by decide +kernel
theorem dX0_giveBack_27 : decode cX0_giveBack 27 = .ok (.iload_n 2, 1) := by decide +kernel
theorem dX0_giveBack_28 : decode cX0_giveBack 28 = .ok (.aload_n 0, 1) := by decide +kernel
theorem dX0_giveBack_29 : decode cX0_giveBack 29 = .ok (.getfield 25, 3) := by decide +kernel
theorem dX0_giveBack_32 : decode cX0_giveBack 32 = .ok (.getfield 62, 3) := by decide +kernel
theorem dX0_giveBack_35 : decode cX0_giveBack 35 = .ok (.iload_n 2, 1) := by decide +kernel
theorem dX0_giveBack_36 : decode cX0_giveBack 36 = .ok (.laload, 1) := by decide +kernel
theorem dX0_giveBack_37 : decode cX0_giveBack 37 = .ok (.lastore, 1) := by decide +kernel
theorem dX0_giveBack_38 : decode cX0_giveBack 38 = .ok (.iinc 2 1, 3) := by decide +kernel
theorem dX0_giveBack_41 : decode cX0_giveBack 41 = .ok (.goto (-23), 3) := by decide +kernel
theorem dX0_giveBack_44 : decode cX0_giveBack 44 = .ok (.iconst 0, 1) := by decide +kernel
theorem dX0_giveBack_45 : decode cX0_giveBack 45 = .ok (.istore_n 2, 1) := by decide +kernel
theorem dX0_giveBack_46 : decode cX0_giveBack 46 = .ok (.iload_n 2, 1) := by decide +kernel
theorem dX0_giveBack_47 : decode cX0_giveBack 47 = .ok (.aload_n 0, 1) := by decide +kernel
theorem dX0_giveBack_48 : decode cX0_giveBack 48 = .ok (.getfield 21, 3) := by decide +kernel
theorem dX0_giveBack_51 : decode cX0_giveBack 51 = .ok (.iconst 1, 1) := by decide +kernel
theorem dX0_giveBack_52 : decode cX0_giveBack 52 = .ok (.isub, 1) := by decide +kernel
theorem dX0_giveBack_53 : decode cX0_giveBack 53 = .ok (.if_icmp .ge 44, 3) := by decide +kernel
theorem dX0_giveBack_56 : decode cX0_giveBack 56 = .ok (.iconst 0, 1) := by decide +kernel
theorem dX0_giveBack_57 : decode cX0_giveBack 57 = .ok (.istore_n 3, 1) := by decide +kernel
theorem dX0_giveBack_58 : decode cX0_giveBack 58 = .ok (.iload_n 3, 1) := by decide +kernel
theorem dX0_giveBack_59 : decode cX0_giveBack 59 = .ok (.iconst 5, 1) := by decide +kernel
theorem dX0_giveBack_60 : decode cX0_giveBack 60 = .ok (.if_icmp .ge 31, 3) := by decide +kernel
theorem dX0_giveBack_63 : decode cX0_giveBack 63 = .ok (.aload_n 0, 1) := by decide +kernel
theorem dX0_giveBack_64 : decode cX0_giveBack 64 = .ok (.getfield 18, 3) := by decide +kernel
theorem dX0_giveBack_67 : decode cX0_giveBack 67 = .ok (.iload_n 3, 1) := by decide +kernel
theorem dX0_giveBack_68 : decode cX0_giveBack 68 = .ok (.iload_n 2, 1) := by decide +kernel
theorem dX0_giveBack_69 : decode cX0_giveBack 69 = .ok (.invokestatic 37, 3) := by decide +kernel
theorem dX0_giveBack_72 : decode cX0_giveBack 72 = .ok (.laload, 1) := by decide +kernel
theorem dX0_giveBack_73 : decode cX0_giveBack 73 = .ok (.lconst 0, 1) := by decide +kernel
theorem dX0_giveBack_74 : decode cX0_giveBack 74 = .ok (.lcmp, 1) := by decide +kernel
theorem dX0_giveBack_75 : decode cX0_giveBack 75 = .ok (.ifCond .eq 10, 3) := by decide +kernel
theorem dX0_giveBack_78 : decode cX0_giveBack 78 = .ok (.aload_n 0, 1) := by decide +kernel
theorem dX0_giveBack_79 : decode cX0_giveBack 79 = .ok (.iload_n 3, 1) := by decide +kernel
theorem dX0_giveBack_80 : decode cX0_giveBack 80 = .ok (.iload_n 2, 1) := by decide +kernel
theorem dX0_giveBack_81 : decode cX0_giveBack 81 = .ok (.iload_n 1, 1) := by decide +kernel
theorem dX0_giveBack_82 : decode cX0_giveBack 82 = .ok (.invokevirtual 67, 3) := by decide +kernel
theorem dX0_giveBack_85 : decode cX0_giveBack 85 = .ok (.iinc 3 1, 3) := by decide +kernel
theorem dX0_giveBack_88 : decode cX0_giveBack 88 = .ok (.goto (-30), 3) := by decide +kernel
theorem dX0_giveBack_91 : decode cX0_giveBack 91 = .ok (.iinc 2 1, 3) := by decide +kernel
theorem dX0_giveBack_94 : decode cX0_giveBack 94 = .ok (.goto (-48), 3) := by decide +kernel
theorem dX0_giveBack_97 : decode cX0_giveBack 97 = .ok (.return_, 1) := by decide +kernel
theorem dX0_goOn_0 : decode cX0_goOn 0 = .ok (.aload_n 0, 1) := by decide +kernel
theorem dX0_goOn_1 : decode cX0_goOn 1 = .ok (.getfield 18, 3) := by decide +kernel
theorem dX0_goOn_4 : decode cX0_goOn 4 = .ok (.iload_n 1, 1) := by decide +kernel
theorem dX0_goOn_5 : decode cX0_goOn 5 = .ok (.iload_n 2, 1) := by decide +kernel
theorem dX0_goOn_6 : decode cX0_goOn 6 = .ok (.invokestatic 37, 3) := by decide +kernel
theorem dX0_goOn_9 : decode cX0_goOn 9 = .ok (.laload, 1) := by decide +kernel
theorem dX0_goOn_10 : decode cX0_goOn 10 = .ok (.lstore 4, 2) := by decide +kernel
theorem dX0_goOn_12 : decode cX0_goOn 12 = .ok (.iconst 0, 1) := by decide +kernel
theorem dX0_goOn_13 : decode cX0_goOn 13 = .ok (.istore 6, 2) := by decide +kernel
theorem dX0_goOn_15 : decode cX0_goOn 15 = .ok (.iload 6, 2) := by decide +kernel
theorem dX0_goOn_17 : decode cX0_goOn 17 = .ok (.iconst 5, 1) := by decide +kernel
theorem dX0_goOn_18 : decode cX0_goOn 18 = .ok (.if_icmp .ge 130, 3) := by decide +kernel
theorem dX0_goOn_21 : decode cX0_goOn 21 = .ok (.iload 6, 2) := by decide +kernel
theorem dX0_goOn_23 : decode cX0_goOn 23 = .ok (.iload_n 2, 1) := by decide +kernel
theorem dX0_goOn_24 : decode cX0_goOn 24 = .ok (.iconst 1, 1) := by decide +kernel
theorem dX0_goOn_25 : decode cX0_goOn 25 = .ok (.iadd, 1) := by decide +kernel
theorem dX0_goOn_26 : decode cX0_goOn 26 = .ok (.invokestatic 37, 3) := by decide +kernel
theorem dX0_goOn_29 : decode cX0_goOn 29 = .ok (.istore 7, 2) := by decide +kernel
theorem dX0_goOn_31 : decode cX0_goOn 31 = .ok (.aload_n 0, 1) := by decide +kernel
theorem dX0_goOn_32 : decode cX0_goOn 32 = .ok (.getfield 25, 3) := by decide +kernel
theorem dX0_goOn_35 : decode cX0_goOn 35 = .ok (.getfield 71, 3) := by decide +kernel
theorem dX0_goOn_38 : decode cX0_goOn 38 = .ok (.iload 7, 2) := by decide +kernel
theorem dX0_goOn_40 : decode cX0_goOn 40 = .ok (.laload, 1) := by decide +kernel
theorem dX0_goOn_41 : decode cX0_goOn 41 = .ok (.lconst 0, 1) := by decide +kernel
theorem dX0_goOn_42 : decode cX0_goOn 42 = .ok (.lcmp, 1) := by decide +kernel
theorem dX0_goOn_43 : decode cX0_goOn 43 = .ok (.ifCond .eq 99, 3) := by decide +kernel
theorem dX0_goOn_46 : decode cX0_goOn 46 = .ok (.aload_n 0, 1) := by decide +kernel
theorem dX0_goOn_47 : decode cX0_goOn 47 = .ok (.getfield 29, 3) := by decide +kernel
theorem dX0_goOn_50 : decode cX0_goOn 50 = .ok (.iload_n 1, 1) := by decide +kernel
theorem dX0_goOn_51 : decode cX0_goOn 51 = .ok (.iload 6, 2) := by decide +kernel
theorem dX0_goOn_53 : decode cX0_goOn 53 = .ok (.iload_n 2, 1) := by decide +kernel
theorem dX0_goOn_54 : decode cX0_goOn 54 = .ok (.invokevirtual 74, 3) := by decide +kernel
theorem dX0_goOn_57 : decode cX0_goOn 57 = .ok (.ifCond .ne 6, 3) := by decide +kernel
theorem dX0_goOn_60 : decode cX0_goOn 60 = .ok (.goto 82, 3) := by decide +kernel
theorem dX0_goOn_63 : decode cX0_goOn 63 = .ok (.iload_n 1, 1) := by decide +kernel
theorem dX0_goOn_64 : decode cX0_goOn 64 = .ok (.iload 6, 2) := by decide +kernel
theorem dX0_goOn_66 : decode cX0_goOn 66 = .ok (.if_icmp .eq 17, 3) := by decide +kernel
theorem dX0_goOn_69 : decode cX0_goOn 69 = .ok (.iload_n 3, 1) := by decide +kernel
theorem dX0_goOn_70 : decode cX0_goOn 70 = .ok (.iconst (-1), 1) := by decide +kernel
theorem dX0_goOn_71 : decode cX0_goOn 71 = .ok (.if_icmp .eq 8, 3) := by decide +kernel
theorem dX0_goOn_74 : decode cX0_goOn 74 = .ok (.iload_n 3, 1) := by decide +kernel
theorem dX0_goOn_75 : decode cX0_goOn 75 = .ok (.iload_n 1, 1) := by decide +kernel
theorem dX0_goOn_76 : decode cX0_goOn 76 = .ok (.if_icmp .ne 7, 3) := by decide +kernel
theorem dX0_goOn_79 : decode cX0_goOn 79 = .ok (.iconst 1, 1) := by decide +kernel
theorem dX0_goOn_80 : decode cX0_goOn 80 = .ok (.goto 4, 3) := by decide +kernel
theorem dX0_goOn_83 : decode cX0_goOn 83 = .ok (.iconst 0, 1) := by decide +kernel
theorem dX0_goOn_84 : decode cX0_goOn 84 = .ok (.istore 8, 2) := by decide +kernel
theorem dX0_goOn_86 : decode cX0_goOn 86 = .ok (.iload 8, 2) := by decide +kernel
theorem dX0_goOn_88 : decode cX0_goOn 88 = .ok (.ifCond .eq 42, 3) := by decide +kernel
theorem dX0_goOn_91 : decode cX0_goOn 91 = .ok (.aload_n 0, 1) := by decide +kernel
theorem dX0_goOn_92 : decode cX0_goOn 92 = .ok (.getfield 33, 3) := by decide +kernel
theorem dX0_goOn_95 : decode cX0_goOn 95 = .ok (.iload_n 1, 1) := by decide +kernel
theorem dX0_goOn_96 : decode cX0_goOn 96 = .ok (.iload 6, 2) := by decide +kernel
theorem dX0_goOn_98 : decode cX0_goOn 98 = .ok (.iload_n 2, 1) := by decide +kernel
theorem dX0_goOn_99 : decode cX0_goOn 99 = .ok (.invokevirtual 80, 3) := by decide +kernel
theorem dX0_goOn_102 : decode cX0_goOn 102 = .ok (.ifCond .eq 28, 3) := by decide +kernel
theorem dX0_goOn_105 : decode cX0_goOn 105 = .ok (.aload_n 0, 1) := by decide +kernel
theorem dX0_goOn_106 : decode cX0_goOn 106 = .ok (.getfield 15, 3) := by decide +kernel
theorem dX0_goOn_109 : decode cX0_goOn 109 = .ok (.iload_n 1, 1) := by decide +kernel
theorem dX0_goOn_110 : decode cX0_goOn 110 = .ok (.dup2, 1) := by decide +kernel
theorem dX0_goOn_111 : decode cX0_goOn 111 = .ok (.laload, 1) := by decide +kernel
theorem dX0_goOn_112 : decode cX0_goOn 112 = .ok (.lload 4, 2) := by decide +kernel
theorem dX0_goOn_114 : decode cX0_goOn 114 = .ok (.aload_n 0, 1) := by decide +kernel
theorem dX0_goOn_115 : decode cX0_goOn 115 = .ok (.getfield 25, 3) := by decide +kernel
theorem dX0_goOn_118 : decode cX0_goOn 118 = .ok (.getfield 71, 3) := by decide +kernel
theorem dX0_goOn_121 : decode cX0_goOn 121 = .ok (.iload 7, 2) := by decide +kernel
theorem dX0_goOn_123 : decode cX0_goOn 123 = .ok (.laload, 1) := by decide +kernel
theorem dX0_goOn_124 : decode cX0_goOn 124 = .ok (.lmul, 1) := by decide +kernel
theorem dX0_goOn_125 : decode cX0_goOn 125 = .ok (.ladd, 1) := by decide +kernel
theorem dX0_goOn_126 : decode cX0_goOn 126 = .ok (.lastore, 1) := by decide +kernel
theorem dX0_goOn_127 : decode cX0_goOn 127 = .ok (.goto 15, 3) := by decide +kernel
theorem dX0_goOn_130 : decode cX0_goOn 130 = .ok (.aload_n 0, 1) := by decide +kernel
theorem dX0_goOn_131 : decode cX0_goOn 131 = .ok (.getfield 18, 3) := by decide +kernel
theorem dX0_goOn_134 : decode cX0_goOn 134 = .ok (.iload 7, 2) := by decide +kernel
theorem dX0_goOn_136 : decode cX0_goOn 136 = .ok (.dup2, 1) := by decide +kernel
theorem dX0_goOn_137 : decode cX0_goOn 137 = .ok (.laload, 1) := by decide +kernel
theorem dX0_goOn_138 : decode cX0_goOn 138 = .ok (.lload 4, 2) := by decide +kernel
theorem dX0_goOn_140 : decode cX0_goOn 140 = .ok (.ladd, 1) := by decide +kernel
theorem dX0_goOn_141 : decode cX0_goOn 141 = .ok (.lastore, 1) := by decide +kernel
theorem dX0_goOn_142 : decode cX0_goOn 142 = .ok (.iinc 6 1, 3) := by decide +kernel
theorem dX0_goOn_145 : decode cX0_goOn 145 = .ok (.goto (-130), 3) := by decide +kernel
theorem dX0_goOn_148 : decode cX0_goOn 148 = .ok (.return_, 1) := by decide +kernel
theorem dX1_init_0 : decode cX1_init 0 = .ok (.aload_n 0, 1) := by decide +kernel
theorem dX1_init_1 : decode cX1_init 1 = .ok (.invokespecial 3, 3) := by decide +kernel
theorem dX1_init_4 : decode cX1_init 4 = .ok (.aload_n 0, 1) := by decide +kernel
theorem dX1_init_5 : decode cX1_init 5 = .ok (.bipush 31, 2) := by decide +kernel
theorem dX1_init_7 : decode cX1_init 7 = .ok (.putfield 9, 3) := by decide +kernel
theorem dX1_init_10 : decode cX1_init 10 = .ok (.aload_n 0, 1) := by decide +kernel
theorem dX1_init_11 : decode cX1_init 11 = .ok (.bipush 60, 2) := by decide +kernel
theorem dX1_init_13 : decode cX1_init 13 = .ok (.newarray .long, 2) := by decide +kernel
theorem dX1_init_15 : decode cX1_init 15 = .ok (.putfield 15, 3) := by decide +kernel
theorem dX1_init_18 : decode cX1_init 18 = .ok (.aload_n 0, 1) := by decide +kernel
theorem dX1_init_19 : decode cX1_init 19 = .ok (.bipush 60, 2) := by decide +kernel
theorem dX1_init_21 : decode cX1_init 21 = .ok (.newarray .long, 2) := by decide +kernel
theorem dX1_init_23 : decode cX1_init 23 = .ok (.putfield 19, 3) := by decide +kernel
theorem dX1_init_26 : decode cX1_init 26 = .ok (.aload_n 0, 1) := by decide +kernel
theorem dX1_init_27 : decode cX1_init 27 = .ok (.bipush 60, 2) := by decide +kernel
theorem dX1_init_29 : decode cX1_init 29 = .ok (.newarray .long, 2) := by decide +kernel
theorem dX1_init_31 : decode cX1_init 31 = .ok (.putfield 22, 3) := by decide +kernel
theorem dX1_init_34 : decode cX1_init 34 = .ok (.aload_n 0, 1) := by decide +kernel
theorem dX1_init_35 : decode cX1_init 35 = .ok (.iload_n 1, 1) := by decide +kernel
theorem dX1_init_36 : decode cX1_init 36 = .ok (.putfield 25, 3) := by decide +kernel
theorem dX1_init_39 : decode cX1_init 39 = .ok (.aload_n 0, 1) := by decide +kernel
theorem dX1_init_40 : decode cX1_init 40 = .ok (.aload_n 2, 1) := by decide +kernel
theorem dX1_init_41 : decode cX1_init 41 = .ok (.putfield 28, 3) := by decide +kernel
theorem dX1_init_44 : decode cX1_init 44 = .ok (.aload_n 0, 1) := by decide +kernel
theorem dX1_init_45 : decode cX1_init 45 = .ok (.aload_n 3, 1) := by decide +kernel
theorem dX1_init_46 : decode cX1_init 46 = .ok (.putfield 32, 3) := by decide +kernel
theorem dX1_init_49 : decode cX1_init 49 = .ok (.return_, 1) := by decide +kernel
theorem dX1_recount_0 : decode cX1_recount 0 = .ok (.iconst 0, 1) := by decide +kernel
theorem dX1_recount_1 : decode cX1_recount 1 = .ok (.istore_n 1, 1) := by decide +kernel
theorem dX1_recount_2 : decode cX1_recount 2 = .ok (.iload_n 1, 1) := by decide +kernel
theorem dX1_recount_3 : decode cX1_recount 3 = .ok (.aload_n 0, 1) := by decide +kernel
theorem dX1_recount_4 : decode cX1_recount 4 = .ok (.getfield 25, 3) := by decide +kernel
theorem dX1_recount_7 : decode cX1_recount 7 = .ok (.if_icmp .ge 59, 3) := by decide +kernel
theorem dX1_recount_10 : decode cX1_recount 10 = .ok (.aload_n 0, 1) := by decide +kernel
theorem dX1_recount_11 : decode cX1_recount 11 = .ok (.getfield 32, 3) := by decide +kernel
theorem dX1_recount_14 : decode cX1_recount 14 = .ok (.iload_n 1, 1) := by decide +kernel
theorem dX1_recount_15 : decode cX1_recount 15 = .ok (.invokevirtual 36, 3) := by decide +kernel
theorem dX1_recount_18 : decode cX1_recount 18 = .ok (.istore_n 2, 1) := by decide +kernel
theorem dX1_recount_19 : decode cX1_recount 19 = .ok (.iconst 0, 1) := by decide +kernel
theorem dX1_recount_20 : decode cX1_recount 20 = .ok (.istore_n 3, 1) := by decide +kernel
theorem dX1_recount_21 : decode cX1_recount 21 = .ok (.iload_n 3, 1) := by decide +kernel
theorem dX1_recount_22 : decode cX1_recount 22 = .ok (.iconst 5, 1) := by decide +kernel
theorem dX1_recount_23 : decode cX1_recount 23 = .ok (.if_icmp .ge 37, 3) := by decide +kernel
theorem dX1_recount_26 : decode cX1_recount 26 = .ok (.aload_n 0, 1) := by decide +kernel
theorem dX1_recount_27 : decode cX1_recount 27 = .ok (.getfield 15, 3) := by decide +kernel
theorem dX1_recount_30 : decode cX1_recount 30 = .ok (.iload_n 3, 1) := by decide +kernel
theorem dX1_recount_31 : decode cX1_recount 31 = .ok (.iload_n 1, 1) := by decide +kernel
theorem dX1_recount_32 : decode cX1_recount 32 = .ok (.invokestatic 42, 3) := by decide +kernel
theorem dX1_recount_35 : decode cX1_recount 35 = .ok (.iload_n 2, 1) := by decide +kernel
theorem dX1_recount_36 : decode cX1_recount 36 = .ok (.iload_n 3, 1) := by decide +kernel
theorem dX1_recount_37 : decode cX1_recount 37 = .ok (.invokestatic 46, 3) := by decide +kernel
theorem dX1_recount_40 : decode cX1_recount 40 = .ok (.ifCond .eq 12, 3) := by decide +kernel
theorem dX1_recount_43 : decode cX1_recount 43 = .ok (.aload_n 0, 1) := by decide +kernel
theorem dX1_recount_44 : decode cX1_recount 44 = .ok (.iload_n 3, 1) := by decide +kernel
theorem dX1_recount_45 : decode cX1_recount 45 = .ok (.iload_n 1, 1) := by decide +kernel
theorem dX1_recount_46 : decode cX1_recount 46 = .ok (.invokevirtual 50, 3) := by decide +kernel
theorem dX1_recount_49 : decode cX1_recount 49 = .ok (.goto 4, 3) := by decide +kernel
theorem dX1_recount_52 : decode cX1_recount 52 = .ok (.lconst 0, 1) := by decide +kernel
theorem dX1_recount_53 : decode cX1_recount 53 = .ok (.lastore, 1) := by decide +kernel
theorem dX1_recount_54 : decode cX1_recount 54 = .ok (.iinc 3 1, 3) := by decide +kernel
theorem dX1_recount_57 : decode cX1_recount 57 = .ok (.goto (-36), 3) := by decide +kernel
theorem dX1_recount_60 : decode cX1_recount 60 = .ok (.iinc 1 1, 3) := by decide +kernel
theorem dX1_recount_63 : decode cX1_recount 63 = .ok (.goto (-61), 3) := by decide +kernel
theorem dX1_recount_66 : decode cX1_recount 66 = .ok (.aload_n 0, 1) := by decide +kernel
theorem dX1_recount_67 : decode cX1_recount 67 = .ok (.getfield 25, 3) := by decide +kernel
theorem dX1_recount_70 : decode cX1_recount 70 = .ok (.iconst 1, 1) := by decide +kernel
theorem dX1_recount_71 : decode cX1_recount 71 = .ok (.isub, 1) := by decide +kernel
theorem dX1_recount_72 : decode cX1_recount 72 = .ok (.istore_n 1, 1) := by decide +kernel
theorem dX1_recount_73 : decode cX1_recount 73 = .ok (.iload_n 1, 1) := by decide +kernel
theorem dX1_recount_74 : decode cX1_recount 74 = .ok (.ifCond .lt 59, 3) := by decide +kernel
theorem dX1_recount_77 : decode cX1_recount 77 = .ok (.aload_n 0, 1) := by decide +kernel
theorem dX1_recount_78 : decode cX1_recount 78 = .ok (.getfield 32, 3) := by decide +kernel
theorem dX1_recount_81 : decode cX1_recount 81 = .ok (.iload_n 1, 1) := by decide +kernel
theorem dX1_recount_82 : decode cX1_recount 82 = .ok (.invokevirtual 36, 3) := by decide +kernel
theorem dX1_recount_85 : decode cX1_recount 85 = .ok (.istore_n 2, 1) := by decide +kernel
theorem dX1_recount_86 : decode cX1_recount 86 = .ok (.iconst 0, 1) := by decide +kernel
theorem dX1_recount_87 : decode cX1_recount 87 = .ok (.istore_n 3, 1) := by decide +kernel
theorem dX1_recount_88 : decode cX1_recount 88 = .ok (.iload_n 3, 1) := by decide +kernel
theorem dX1_recount_89 : decode cX1_recount 89 = .ok (.iconst 5, 1) := by decide +kernel
theorem dX1_recount_90 : decode cX1_recount 90 = .ok (.if_icmp .ge 37, 3) := by decide +kernel
theorem dX1_recount_93 : decode cX1_recount 93 = .ok (.aload_n 0, 1) := by decide +kernel
theorem dX1_recount_94 : decode cX1_recount 94 = .ok (.getfield 19, 3) := by decide +kernel
theorem dX1_recount_97 : decode cX1_recount 97 = .ok (.iload_n 3, 1) := by decide +kernel
theorem dX1_recount_98 : decode cX1_recount 98 = .ok (.iload_n 1, 1) := by decide +kernel
theorem dX1_recount_99 : decode cX1_recount 99 = .ok (.invokestatic 42, 3) := by decide +kernel
theorem dX1_recount_102 : decode cX1_recount 102 = .ok (.iload_n 2, 1) := by decide +kernel
theorem dX1_recount_103 : decode cX1_recount 103 = .ok (.iload_n 3, 1) := by decide +kernel
theorem dX1_recount_104 : decode cX1_recount 104 = .ok (.invokestatic 46, 3) := by decide +kernel
theorem dX1_recount_107 : decode cX1_recount 107 = .ok (.ifCond .eq 12, 3) := by decide +kernel
theorem dX1_recount_110 : decode cX1_recount 110 = .ok (.aload_n 0, 1) := by decide +kernel
theorem dX1_recount_111 : decode cX1_recount 111 = .ok (.iload_n 3, 1) := by decide +kernel
theorem dX1_recount_112 : decode cX1_recount 112 = .ok (.iload_n 1, 1) := by decide +kernel
theorem dX1_recount_113 : decode cX1_recount 113 = .ok (.invokevirtual 54, 3) := by decide +kernel
theorem dX1_recount_116 : decode cX1_recount 116 = .ok (.goto 4, 3) := by decide +kernel
theorem dX1_recount_119 : decode cX1_recount 119 = .ok (.lconst 0, 1) := by decide +kernel
theorem dX1_recount_120 : decode cX1_recount 120 = .ok (.lastore, 1) := by decide +kernel
theorem dX1_recount_121 : decode cX1_recount 121 = .ok (.iinc 3 1, 3) := by decide +kernel
theorem dX1_recount_124 : decode cX1_recount 124 = .ok (.goto (-36), 3) := by decide +kernel
theorem dX1_recount_127 : decode cX1_recount 127 = .ok (.iinc 1 (-1), 3) := by decide +kernel
theorem dX1_recount_130 : decode cX1_recount 130 = .ok (.goto (-57), 3) := by decide +kernel
theorem dX1_recount_133 : decode cX1_recount 133 = .ok (.return_, 1) := by decide +kernel
theorem dX1_beginningsTo_0 : decode cX1_beginningsTo 0 = .ok (.iload_n 2, 1) := by decide +kernel
theorem dX1_beginningsTo_1 : decode cX1_beginningsTo 1 = .ok (.ifCond .ne 20, 3) := by decide +kernel
theorem dX1_beginningsTo_4 : decode cX1_beginningsTo 4 = .ok (.aload_n 0, 1) := by decide +kernel
theorem dX1_beginningsTo_5 : decode cX1_beginningsTo 5 = .ok (.getfield 9, 3) := by decide +kernel
theorem dX1_beginningsTo_8 : decode cX1_beginningsTo 8 = .ok (.iload_n 1, 1) := by decide +kernel
theorem dX1_beginningsTo_9 : decode cX1_beginningsTo 9 = .ok (.invokestatic 46, 3) := by decide +kernel
theorem dX1_beginningsTo_12 : decode cX1_beginningsTo 12 = .ok (.ifCond .eq 7, 3) := by decide +kernel
theorem dX1_beginningsTo_15 : decode cX1_beginningsTo 15 = .ok (.lconst 1, 1) := by decide +kernel
theorem dX1_beginningsTo_16 : decode cX1_beginningsTo 16 = .ok (.goto 4, 3) := by decide +kernel
theorem dX1_beginningsTo_19 : decode cX1_beginningsTo 19 = .ok (.lconst 0, 1) := by decide +kernel
theorem dX1_beginningsTo_20 : decode cX1_beginningsTo 20 = .ok (.lreturn, 1) := by decide +kernel
theorem dX1_beginningsTo_21 : decode cX1_beginningsTo 21 = .ok (.aload_n 0, 1) := by decide +kernel
theorem dX1_beginningsTo_22 : decode cX1_beginningsTo 22 = .ok (.aload_n 0, 1) := by decide +kernel
theorem dX1_beginningsTo_23 : decode cX1_beginningsTo 23 = .ok (.getfield 15, 3) := by decide +kernel
theorem dX1_beginningsTo_26 : decode cX1_beginningsTo 26 = .ok (.iload_n 1, 1) := by decide +kernel
theorem dX1_beginningsTo_27 : decode cX1_beginningsTo 27 = .ok (.iload_n 2, 1) := by decide +kernel
theorem dX1_beginningsTo_28 : decode cX1_beginningsTo 28 = .ok (.invokevirtual 57, 3) := by decide +kernel
theorem dX1_beginningsTo_31 : decode cX1_beginningsTo 31 = .ok (.lreturn, 1) := by decide +kernel
theorem dX1_endsFrom_0 : decode cX1_endsFrom 0 = .ok (.iload_n 2, 1) := by decide +kernel
theorem dX1_endsFrom_1 : decode cX1_endsFrom 1 = .ok (.aload_n 0, 1) := by decide +kernel
theorem dX1_endsFrom_2 : decode cX1_endsFrom 2 = .ok (.getfield 25, 3) := by decide +kernel
theorem dX1_endsFrom_5 : decode cX1_endsFrom 5 = .ok (.iconst 1, 1) := by decide +kernel
theorem dX1_endsFrom_6 : decode cX1_endsFrom 6 = .ok (.isub, 1) := by decide +kernel
theorem dX1_endsFrom_7 : decode cX1_endsFrom 7 = .ok (.if_icmp .ne 5, 3) := by decide +kernel
theorem dX1_endsFrom_10 : decode cX1_endsFrom 10 = .ok (.lconst 1, 1) := by decide +kernel
theorem dX1_endsFrom_11 : decode cX1_endsFrom 11 = .ok (.lreturn, 1) := by decide +kernel
theorem dX1_endsFrom_12 : decode cX1_endsFrom 12 = .ok (.aload_n 0, 1) := by decide +kernel
theorem dX1_endsFrom_13 : decode cX1_endsFrom 13 = .ok (.aload_n 0, 1) := by decide +kernel
theorem dX1_endsFrom_14 : decode cX1_endsFrom 14 = .ok (.getfield 19, 3) := by decide +kernel
theorem dX1_endsFrom_17 : decode cX1_endsFrom 17 = .ok (.iload_n 1, 1) := by decide +kernel
theorem dX1_endsFrom_18 : decode cX1_endsFrom 18 = .ok (.iload_n 2, 1) := by decide +kernel
theorem dX1_endsFrom_19 : decode cX1_endsFrom 19 = .ok (.invokevirtual 61, 3) := by decide +kernel
theorem dX1_endsFrom_22 : decode cX1_endsFrom 22 = .ok (.lreturn, 1) := by decide +kernel
theorem dX1_sumBefore_0 : decode cX1_sumBefore 0 = .ok (.lconst 0, 1) := by decide +kernel
theorem dX1_sumBefore_1 : decode cX1_sumBefore 1 = .ok (.lstore 4, 2) := by decide +kernel
theorem dX1_sumBefore_3 : decode cX1_sumBefore 3 = .ok (.iconst 0, 1) := by decide +kernel
theorem dX1_sumBefore_4 : decode cX1_sumBefore 4 = .ok (.istore 6, 2) := by decide +kernel
theorem dX1_sumBefore_6 : decode cX1_sumBefore 6 = .ok (.iload 6, 2) := by decide +kernel
theorem dX1_sumBefore_8 : decode cX1_sumBefore 8 = .ok (.iconst 5, 1) := by decide +kernel
theorem dX1_sumBefore_9 : decode cX1_sumBefore 9 = .ok (.if_icmp .ge 40, 3) := by decide +kernel
theorem dX1_sumBefore_12 : decode cX1_sumBefore 12 = .ok (.aload_n 0, 1) := by decide +kernel
theorem dX1_sumBefore_13 : decode cX1_sumBefore 13 = .ok (.getfield 28, 3) := by decide +kernel
theorem dX1_sumBefore_16 : decode cX1_sumBefore 16 = .ok (.iload 6, 2) := by decide +kernel
theorem dX1_sumBefore_18 : decode cX1_sumBefore 18 = .ok (.iload_n 2, 1) := by decide +kernel
theorem dX1_sumBefore_19 : decode cX1_sumBefore 19 = .ok (.iload_n 3, 1) := by decide +kernel
theorem dX1_sumBefore_20 : decode cX1_sumBefore 20 = .ok (.iconst 1, 1) := by decide +kernel
theorem dX1_sumBefore_21 : decode cX1_sumBefore 21 = .ok (.isub, 1) := by decide +kernel
theorem dX1_sumBefore_22 : decode cX1_sumBefore 22 = .ok (.invokevirtual 64, 3) := by decide +kernel
theorem dX1_sumBefore_25 : decode cX1_sumBefore 25 = .ok (.ifCond .eq 18, 3) := by decide +kernel
theorem dX1_sumBefore_28 : decode cX1_sumBefore 28 = .ok (.lload 4, 2) := by decide +kernel
theorem dX1_sumBefore_30 : decode cX1_sumBefore 30 = .ok (.aload_n 1, 1) := by decide +kernel
theorem dX1_sumBefore_31 : decode cX1_sumBefore 31 = .ok (.iload 6, 2) := by decide +kernel
theorem dX1_sumBefore_33 : decode cX1_sumBefore 33 = .ok (.iload_n 3, 1) := by decide +kernel
theorem dX1_sumBefore_34 : decode cX1_sumBefore 34 = .ok (.iconst 1, 1) := by decide +kernel
theorem dX1_sumBefore_35 : decode cX1_sumBefore 35 = .ok (.isub, 1) := by decide +kernel
theorem dX1_sumBefore_36 : decode cX1_sumBefore 36 = .ok (.invokestatic 42, 3) := by decide +kernel
theorem dX1_sumBefore_39 : decode cX1_sumBefore 39 = .ok (.laload, 1) := by decide +kernel
theorem dX1_sumBefore_40 : decode cX1_sumBefore 40 = .ok (.ladd, 1) := by decide +kernel
theorem dX1_sumBefore_41 : decode cX1_sumBefore 41 = .ok (.lstore 4, 2) := by decide +kernel
theorem dX1_sumBefore_43 : decode cX1_sumBefore 43 = .ok (.iinc 6 1, 3) := by decide +kernel
theorem dX1_sumBefore_46 : decode cX1_sumBefore 46 = .ok (.goto (-40), 3) := by decide +kernel
theorem dX1_sumBefore_49 : decode cX1_sumBefore 49 = .ok (.lload 4, 2) := by decide +kernel
theorem dX1_sumBefore_51 : decode cX1_sumBefore 51 = .ok (.lreturn, 1) := by decide +kernel
theorem dX1_sumBehind_0 : decode cX1_sumBehind 0 = .ok (.lconst 0, 1) := by decide +kernel
theorem dX1_sumBehind_1 : decode cX1_sumBehind 1 = .ok (.lstore 4, 2) := by decide +kernel
theorem dX1_sumBehind_3 : decode cX1_sumBehind 3 = .ok (.iconst 0, 1) := by decide +kernel
theorem dX1_sumBehind_4 : decode cX1_sumBehind 4 = .ok (.istore 6, 2) := by decide +kernel
theorem dX1_sumBehind_6 : decode cX1_sumBehind 6 = .ok (.iload 6, 2) := by decide +kernel
theorem dX1_sumBehind_8 : decode cX1_sumBehind 8 = .ok (.iconst 5, 1) := by decide +kernel
theorem dX1_sumBehind_9 : decode cX1_sumBehind 9 = .ok (.if_icmp .ge 38, 3) := by decide +kernel
theorem dX1_sumBehind_12 : decode cX1_sumBehind 12 = .ok (.aload_n 0, 1) := by decide +kernel
theorem dX1_sumBehind_13 : decode cX1_sumBehind 13 = .ok (.getfield 28, 3) := by decide +kernel
theorem dX1_sumBehind_16 : decode cX1_sumBehind 16 = .ok (.iload_n 2, 1) := by decide +kernel
theorem dX1_sumBehind_17 : decode cX1_sumBehind 17 = .ok (.iload 6, 2) := by decide +kernel
theorem dX1_sumBehind_19 : decode cX1_sumBehind 19 = .ok (.iload_n 3, 1) := by decide +kernel
theorem dX1_sumBehind_20 : decode cX1_sumBehind 20 = .ok (.invokevirtual 64, 3) := by decide +kernel
theorem dX1_sumBehind_23 : decode cX1_sumBehind 23 = .ok (.ifCond .eq 18, 3) := by decide +kernel
theorem dX1_sumBehind_26 : decode cX1_sumBehind 26 = .ok (.lload 4, 2) := by decide +kernel
theorem dX1_sumBehind_28 : decode cX1_sumBehind 28 = .ok (.aload_n 1, 1) := by decide +kernel
theorem dX1_sumBehind_29 : decode cX1_sumBehind 29 = .ok (.iload 6, 2) := by decide +kernel
theorem dX1_sumBehind_31 : decode cX1_sumBehind 31 = .ok (.iload_n 3, 1) := by decide +kernel
theorem dX1_sumBehind_32 : decode cX1_sumBehind 32 = .ok (.iconst 1, 1) := by decide +kernel
theorem dX1_sumBehind_33 : decode cX1_sumBehind 33 = .ok (.iadd, 1) := by decide +kernel
theorem dX1_sumBehind_34 : decode cX1_sumBehind 34 = .ok (.invokestatic 42, 3) := by decide +kernel
theorem dX1_sumBehind_37 : decode cX1_sumBehind 37 = .ok (.laload, 1) := by decide +kernel
theorem dX1_sumBehind_38 : decode cX1_sumBehind 38 = .ok (.ladd, 1) := by decide +kernel
theorem dX1_sumBehind_39 : decode cX1_sumBehind 39 = .ok (.lstore 4, 2) := by decide +kernel
theorem dX1_sumBehind_41 : decode cX1_sumBehind 41 = .ok (.iinc 6 1, 3) := by decide +kernel
theorem dX1_sumBehind_44 : decode cX1_sumBehind 44 = .ok (.goto (-38), 3) := by decide +kernel
theorem dX1_sumBehind_47 : decode cX1_sumBehind 47 = .ok (.lload 4, 2) := by decide +kernel
theorem dX1_sumBehind_49 : decode cX1_sumBehind 49 = .ok (.lreturn, 1) := by decide +kernel
theorem dX1_total_0 : decode cX1_total 0 = .ok (.lconst 0, 1) := by decide +kernel
theorem dX1_total_1 : decode cX1_total 1 = .ok (.lstore_n 1, 1) := by decide +kernel
theorem dX1_total_2 : decode cX1_total 2 = .ok (.iconst 0, 1) := by decide +kernel
theorem dX1_total_3 : decode cX1_total 3 = .ok (.istore_n 3, 1) := by decide +kernel
theorem dX1_total_4 : decode cX1_total 4 = .ok (.iload_n 3, 1) := by decide +kernel
theorem dX1_total_5 : decode cX1_total 5 = .ok (.iconst 5, 1) := by decide +kernel
theorem dX1_total_6 : decode cX1_total 6 = .ok (.if_icmp .ge 21, 3) := by decide +kernel
theorem dX1_total_9 : decode cX1_total 9 = .ok (.lload_n 1, 1) := by decide +kernel
theorem dX1_total_10 : decode cX1_total 10 = .ok (.aload_n 0, 1) := by decide +kernel
theorem dX1_total_11 : decode cX1_total 11 = .ok (.iload_n 3, 1) := by decide +kernel
theorem dX1_total_12 : decode cX1_total 12 = .ok (.iconst 0, 1) := by decide +kernel
theorem dX1_total_13 : decode cX1_total 13 = .ok (.invokestatic 42, 3) := by decide +kernel
theorem dX1_total_16 : decode cX1_total 16 = .ok (.invokevirtual 70, 3) := by decide +kernel
theorem dX1_total_19 : decode cX1_total 19 = .ok (.ladd, 1) := by decide +kernel
theorem dX1_total_20 : decode cX1_total 20 = .ok (.lstore_n 1, 1) := by decide +kernel
theorem dX1_total_21 : decode cX1_total 21 = .ok (.iinc 3 1, 3) := by decide +kernel
theorem dX1_total_24 : decode cX1_total 24 = .ok (.goto (-20), 3) := by decide +kernel
theorem dX1_total_27 : decode cX1_total 27 = .ok (.lload_n 1, 1) := by decide +kernel
theorem dX1_total_28 : decode cX1_total 28 = .ok (.lreturn, 1) := by decide +kernel
theorem dX1_through_0 : decode cX1_through 0 = .ok (.aload_n 0, 1) := by decide +kernel
theorem dX1_through_1 : decode cX1_through 1 = .ok (.getfield 15, 3) := by decide +kernel
theorem dX1_through_4 : decode cX1_through 4 = .ok (.iload_n 1, 1) := by decide +kernel
theorem dX1_through_5 : decode cX1_through 5 = .ok (.laload, 1) := by decide +kernel
theorem dX1_through_6 : decode cX1_through 6 = .ok (.aload_n 0, 1) := by decide +kernel
theorem dX1_through_7 : decode cX1_through 7 = .ok (.getfield 19, 3) := by decide +kernel
theorem dX1_through_10 : decode cX1_through 10 = .ok (.iload_n 1, 1) := by decide +kernel
theorem dX1_through_11 : decode cX1_through 11 = .ok (.laload, 1) := by decide +kernel
theorem dX1_through_12 : decode cX1_through 12 = .ok (.lmul, 1) := by decide +kernel
theorem dX1_through_13 : decode cX1_through 13 = .ok (.lreturn, 1) := by decide +kernel
theorem dX1_countWith_0 : decode cX1_countWith 0 = .ok (.iload_n 1, 1) := by decide +kernel
theorem dX1_countWith_1 : decode cX1_countWith 1 = .ok (.iload_n 2, 1) := by decide +kernel
theorem dX1_countWith_2 : decode cX1_countWith 2 = .ok (.invokestatic 42, 3) := by decide +kernel
theorem dX1_countWith_5 : decode cX1_countWith 5 = .ok (.istore_n 3, 1) := by decide +kernel
theorem dX1_countWith_6 : decode cX1_countWith 6 = .ok (.aload_n 0, 1) := by decide +kernel
theorem dX1_countWith_7 : decode cX1_countWith 7 = .ok (.getfield 22, 3) := by decide +kernel
theorem dX1_countWith_10 : decode cX1_countWith 10 = .ok (.lconst 0, 1) := by decide +kernel
theorem dX1_countWith_11 : decode cX1_countWith 11 = .ok (.invokestatic 74, 3) := by decide +kernel
theorem dX1_countWith_14 : decode cX1_countWith 14 = .ok (.aload_n 0, 1) := by decide +kernel
theorem dX1_countWith_15 : decode cX1_countWith 15 = .ok (.getfield 22, 3) := by decide +kernel
theorem dX1_countWith_18 : decode cX1_countWith 18 = .ok (.iload_n 3, 1) := by decide +kernel
theorem dX1_countWith_19 : decode cX1_countWith 19 = .ok (.lconst 1, 1) := by decide +kernel
theorem dX1_countWith_20 : decode cX1_countWith 20 = .ok (.lastore, 1) := by decide +kernel
theorem dX1_countWith_21 : decode cX1_countWith 21 = .ok (.iload_n 2, 1) := by decide +kernel
theorem dX1_countWith_22 : decode cX1_countWith 22 = .ok (.iconst 1, 1) := by decide +kernel
theorem dX1_countWith_23 : decode cX1_countWith 23 = .ok (.iadd, 1) := by decide +kernel
theorem dX1_countWith_24 : decode cX1_countWith 24 = .ok (.istore 4, 2) := by decide +kernel
theorem dX1_countWith_26 : decode cX1_countWith 26 = .ok (.iload 4, 2) := by decide +kernel
theorem dX1_countWith_28 : decode cX1_countWith 28 = .ok (.aload_n 0, 1) := by decide +kernel
theorem dX1_countWith_29 : decode cX1_countWith 29 = .ok (.getfield 25, 3) := by decide +kernel
theorem dX1_countWith_32 : decode cX1_countWith 32 = .ok (.if_icmp .ge 65, 3) := by decide +kernel
theorem dX1_countWith_35 : decode cX1_countWith 35 = .ok (.iconst 0, 1) := by decide +kernel
theorem dX1_countWith_36 : decode cX1_countWith 36 = .ok (.istore 5, 2) := by decide +kernel
theorem dX1_countWith_38 : decode cX1_countWith 38 = .ok (.iload 5, 2) := by decide +kernel
theorem dX1_countWith_40 : decode cX1_countWith 40 = .ok (.iconst 5, 1) := by decide +kernel
theorem dX1_countWith_41 : decode cX1_countWith 41 = .ok (.if_icmp .ge 50, 3) := by decide +kernel
theorem dX1_countWith_44 : decode cX1_countWith 44 = .ok (.aload_n 0, 1) := by decide +kernel
theorem dX1_countWith_45 : decode cX1_countWith 45 = .ok (.getfield 19, 3) := by decide +kernel
theorem dX1_countWith_48 : decode cX1_countWith 48 = .ok (.iload 5, 2) := by decide +kernel
theorem dX1_countWith_50 : decode cX1_countWith 50 = .ok (.iload 4, 2) := by decide +kernel
theorem dX1_countWith_52 : decode cX1_countWith 52 = .ok (.invokestatic 42, 3) := by decide +kernel
theorem dX1_countWith_55 : decode cX1_countWith 55 = .ok (.laload, 1) := by decide +kernel
theorem dX1_countWith_56 : decode cX1_countWith 56 = .ok (.lconst 0, 1) := by decide +kernel
theorem dX1_countWith_57 : decode cX1_countWith 57 = .ok (.lcmp, 1) := by decide +kernel
theorem dX1_countWith_58 : decode cX1_countWith 58 = .ok (.ifCond .eq 27, 3) := by decide +kernel
theorem dX1_countWith_61 : decode cX1_countWith 61 = .ok (.aload_n 0, 1) := by decide +kernel
theorem dX1_countWith_62 : decode cX1_countWith 62 = .ok (.getfield 22, 3) := by decide +kernel
theorem dX1_countWith_65 : decode cX1_countWith 65 = .ok (.iload 5, 2) := by decide +kernel
theorem dX1_countWith_67 : decode cX1_countWith 67 = .ok (.iload 4, 2) := by decide +kernel
theorem dX1_countWith_69 : decode cX1_countWith 69 = .ok (.invokestatic 42, 3) := by decide +kernel
theorem dX1_countWith_72 : decode cX1_countWith 72 = .ok (.aload_n 0, 1) := by decide +kernel
theorem dX1_countWith_73 : decode cX1_countWith 73 = .ok (.aload_n 0, 1) := by decide +kernel
theorem dX1_countWith_74 : decode cX1_countWith 74 = .ok (.getfield 22, 3) := by decide +kernel
theorem dX1_countWith_77 : decode cX1_countWith 77 = .ok (.iload 5, 2) := by decide +kernel
theorem dX1_countWith_79 : decode cX1_countWith 79 = .ok (.iload 4, 2) := by decide +kernel
theorem dX1_countWith_81 : decode cX1_countWith 81 = .ok (.invokevirtual 57, 3) := by decide +kernel
theorem dX1_countWith_84 : decode cX1_countWith 84 = .ok (.lastore, 1) := by decide +kernel
theorem dX1_countWith_85 : decode cX1_countWith 85 = .ok (.iinc 5 1, 3) := by decide +kernel
theorem dX1_countWith_88 : decode cX1_countWith 88 = .ok (.goto (-50), 3) := by decide +kernel
theorem dX1_countWith_91 : decode cX1_countWith 91 = .ok (.iinc 4 1, 3) := by decide +kernel
theorem dX1_countWith_94 : decode cX1_countWith 94 = .ok (.goto (-68), 3) := by decide +kernel
theorem dX1_countWith_97 : decode cX1_countWith 97 = .ok (.iload_n 2, 1) := by decide +kernel
theorem dX1_countWith_98 : decode cX1_countWith 98 = .ok (.iconst 1, 1) := by decide +kernel
theorem dX1_countWith_99 : decode cX1_countWith 99 = .ok (.isub, 1) := by decide +kernel
theorem dX1_countWith_100 : decode cX1_countWith 100 = .ok (.istore 4, 2) := by decide +kernel
theorem dX1_countWith_102 : decode cX1_countWith 102 = .ok (.iload 4, 2) := by decide +kernel
theorem dX1_countWith_104 : decode cX1_countWith 104 = .ok (.ifCond .lt 65, 3) := by decide +kernel
theorem dX1_countWith_107 : decode cX1_countWith 107 = .ok (.iconst 0, 1) := by decide +kernel
theorem dX1_countWith_108 : decode cX1_countWith 108 = .ok (.istore 5, 2) := by decide +kernel
theorem dX1_countWith_110 : decode cX1_countWith 110 = .ok (.iload 5, 2) := by decide +kernel
theorem dX1_countWith_112 : decode cX1_countWith 112 = .ok (.iconst 5, 1) := by decide +kernel
theorem dX1_countWith_113 : decode cX1_countWith 113 = .ok (.if_icmp .ge 50, 3) := by decide +kernel
theorem dX1_countWith_116 : decode cX1_countWith 116 = .ok (.aload_n 0, 1) := by decide +kernel
theorem dX1_countWith_117 : decode cX1_countWith 117 = .ok (.getfield 15, 3) := by decide +kernel
theorem dX1_countWith_120 : decode cX1_countWith 120 = .ok (.iload 5, 2) := by decide +kernel
theorem dX1_countWith_122 : decode cX1_countWith 122 = .ok (.iload 4, 2) := by decide +kernel
theorem dX1_countWith_124 : decode cX1_countWith 124 = .ok (.invokestatic 42, 3) := by decide +kernel
theorem dX1_countWith_127 : decode cX1_countWith 127 = .ok (.laload, 1) := by decide +kernel
theorem dX1_countWith_128 : decode cX1_countWith 128 = .ok (.lconst 0, 1) := by decide +kernel
theorem dX1_countWith_129 : decode cX1_countWith 129 = .ok (.lcmp, 1) := by decide +kernel
theorem dX1_countWith_130 : decode cX1_countWith 130 = .ok (.ifCond .eq 27, 3) := by decide +kernel
theorem dX1_countWith_133 : decode cX1_countWith 133 = .ok (.aload_n 0, 1) := by decide +kernel
theorem dX1_countWith_134 : decode cX1_countWith 134 = .ok (.getfield 22, 3) := by decide +kernel
theorem dX1_countWith_137 : decode cX1_countWith 137 = .ok (.iload 5, 2) := by decide +kernel
theorem dX1_countWith_139 : decode cX1_countWith 139 = .ok (.iload 4, 2) := by decide +kernel
theorem dX1_countWith_141 : decode cX1_countWith 141 = .ok (.invokestatic 42, 3) := by decide +kernel
theorem dX1_countWith_144 : decode cX1_countWith 144 = .ok (.aload_n 0, 1) := by decide +kernel
theorem dX1_countWith_145 : decode cX1_countWith 145 = .ok (.aload_n 0, 1) := by decide +kernel
theorem dX1_countWith_146 : decode cX1_countWith 146 = .ok (.getfield 22, 3) := by decide +kernel
theorem dX1_countWith_149 : decode cX1_countWith 149 = .ok (.iload 5, 2) := by decide +kernel
theorem dX1_countWith_151 : decode cX1_countWith 151 = .ok (.iload 4, 2) := by decide +kernel
theorem dX1_countWith_153 : decode cX1_countWith 153 = .ok (.invokevirtual 61, 3) := by decide +kernel
theorem dX1_countWith_156 : decode cX1_countWith 156 = .ok (.lastore, 1) := by decide +kernel
theorem dX1_countWith_157 : decode cX1_countWith 157 = .ok (.iinc 5 1, 3) := by decide +kernel
theorem dX1_countWith_160 : decode cX1_countWith 160 = .ok (.goto (-50), 3) := by decide +kernel
theorem dX1_countWith_163 : decode cX1_countWith 163 = .ok (.iinc 4 (-1), 3) := by decide +kernel
theorem dX1_countWith_166 : decode cX1_countWith 166 = .ok (.goto (-64), 3) := by decide +kernel
theorem dX1_countWith_169 : decode cX1_countWith 169 = .ok (.iconst 0, 1) := by decide +kernel
theorem dX1_countWith_170 : decode cX1_countWith 170 = .ok (.istore 4, 2) := by decide +kernel
theorem dX1_countWith_172 : decode cX1_countWith 172 = .ok (.iload 4, 2) := by decide +kernel
theorem dX1_countWith_174 : decode cX1_countWith 174 = .ok (.aload_n 0, 1) := by decide +kernel
theorem dX1_countWith_175 : decode cX1_countWith 175 = .ok (.getfield 25, 3) := by decide +kernel
theorem dX1_countWith_178 : decode cX1_countWith 178 = .ok (.iconst 5, 1) := by decide +kernel
theorem dX1_countWith_179 : decode cX1_countWith 179 = .ok (.imul, 1) := by decide +kernel
theorem dX1_countWith_180 : decode cX1_countWith 180 = .ok (.if_icmp .ge 50, 3) := by decide +kernel
theorem dX1_countWith_183 : decode cX1_countWith 183 = .ok (.iload_n 3, 1) := by decide +kernel
theorem dX1_countWith_184 : decode cX1_countWith 184 = .ok (.iload 4, 2) := by decide +kernel
theorem dX1_countWith_186 : decode cX1_countWith 186 = .ok (.invokestatic 80, 3) := by decide +kernel
theorem dX1_countWith_189 : decode cX1_countWith 189 = .ok (.istore 5, 2) := by decide +kernel
theorem dX1_countWith_191 : decode cX1_countWith 191 = .ok (.iload_n 3, 1) := by decide +kernel
theorem dX1_countWith_192 : decode cX1_countWith 192 = .ok (.iload 4, 2) := by decide +kernel
theorem dX1_countWith_194 : decode cX1_countWith 194 = .ok (.invokestatic 85, 3) := by decide +kernel
theorem dX1_countWith_197 : decode cX1_countWith 197 = .ok (.istore 6, 2) := by decide +kernel
theorem dX1_countWith_199 : decode cX1_countWith 199 = .ok (.aload_n 0, 1) := by decide +kernel
theorem dX1_countWith_200 : decode cX1_countWith 200 = .ok (.getfield 22, 3) := by decide +kernel
theorem dX1_countWith_203 : decode cX1_countWith 203 = .ok (.iload 4, 2) := by decide +kernel
theorem dX1_countWith_205 : decode cX1_countWith 205 = .ok (.dup2, 1) := by decide +kernel
theorem dX1_countWith_206 : decode cX1_countWith 206 = .ok (.laload, 1) := by decide +kernel
theorem dX1_countWith_207 : decode cX1_countWith 207 = .ok (.aload_n 0, 1) := by decide +kernel
theorem dX1_countWith_208 : decode cX1_countWith 208 = .ok (.getfield 15, 3) := by decide +kernel
theorem dX1_countWith_211 : decode cX1_countWith 211 = .ok (.iload 5, 2) := by decide +kernel
theorem dX1_countWith_213 : decode cX1_countWith 213 = .ok (.laload, 1) := by decide +kernel
theorem dX1_countWith_214 : decode cX1_countWith 214 = .ok (.aload_n 0, 1) := by decide +kernel
theorem dX1_countWith_215 : decode cX1_countWith 215 = .ok (.getfield 19, 3) := by decide +kernel
theorem dX1_countWith_218 : decode cX1_countWith 218 = .ok (.iload 6, 2) := by decide +kernel
theorem dX1_countWith_220 : decode cX1_countWith 220 = .ok (.laload, 1) := by decide +kernel
theorem dX1_countWith_221 : decode cX1_countWith 221 = .ok (.lmul, 1) := by decide +kernel
theorem dX1_countWith_222 : decode cX1_countWith 222 = .ok (.lmul, 1) := by decide +kernel
theorem dX1_countWith_223 : decode cX1_countWith 223 = .ok (.lastore, 1) := by decide +kernel
theorem dX1_countWith_224 : decode cX1_countWith 224 = .ok (.iinc 4 1, 3) := by decide +kernel
theorem dX1_countWith_227 : decode cX1_countWith 227 = .ok (.goto (-55), 3) := by decide +kernel
theorem dX1_countWith_230 : decode cX1_countWith 230 = .ok (.return_, 1) := by decide +kernel
theorem dX1_landOf_0 : decode cX1_landOf 0 = .ok (.iload_n 1, 1) := by decide +kernel
theorem dX1_landOf_1 : decode cX1_landOf 1 = .ok (.i2l, 1) := by decide +kernel
theorem dX1_landOf_2 : decode cX1_landOf 2 = .ok (.lstore_n 3, 1) := by decide +kernel
theorem dX1_landOf_3 : decode cX1_landOf 3 = .ok (.iconst (-1), 1) := by decide +kernel
theorem dX1_landOf_4 : decode cX1_landOf 4 = .ok (.istore 5, 2) := by decide +kernel
theorem dX1_landOf_6 : decode cX1_landOf 6 = .ok (.iconst 0, 1) := by decide +kernel
theorem dX1_landOf_7 : decode cX1_landOf 7 = .ok (.istore 6, 2) := by decide +kernel
theorem dX1_landOf_9 : decode cX1_landOf 9 = .ok (.iload 6, 2) := by decide +kernel
theorem dX1_landOf_11 : decode cX1_landOf 11 = .ok (.iload_n 2, 1) := by decide +kernel
theorem dX1_landOf_12 : decode cX1_landOf 12 = .ok (.if_icmp .gt 68, 3) := by decide +kernel
theorem dX1_landOf_15 : decode cX1_landOf 15 = .ok (.iload 5, 2) := by decide +kernel
theorem dX1_landOf_17 : decode cX1_landOf 17 = .ok (.istore 7, 2) := by decide +kernel
theorem dX1_landOf_19 : decode cX1_landOf 19 = .ok (.iconst (-1), 1) := by decide +kernel
theorem dX1_landOf_20 : decode cX1_landOf 20 = .ok (.istore 5, 2) := by decide +kernel
theorem dX1_landOf_22 : decode cX1_landOf 22 = .ok (.iconst 0, 1) := by decide +kernel
theorem dX1_landOf_23 : decode cX1_landOf 23 = .ok (.istore 8, 2) := by decide +kernel
theorem dX1_landOf_25 : decode cX1_landOf 25 = .ok (.iload 8, 2) := by decide +kernel
theorem dX1_landOf_27 : decode cX1_landOf 27 = .ok (.iconst 5, 1) := by decide +kernel
theorem dX1_landOf_28 : decode cX1_landOf 28 = .ok (.if_icmp .ge 46, 3) := by decide +kernel
theorem dX1_landOf_31 : decode cX1_landOf 31 = .ok (.iload 5, 2) := by decide +kernel
theorem dX1_landOf_33 : decode cX1_landOf 33 = .ok (.iconst (-1), 1) := by decide +kernel
theorem dX1_landOf_34 : decode cX1_landOf 34 = .ok (.if_icmp .ne 40, 3) := by decide +kernel
theorem dX1_landOf_37 : decode cX1_landOf 37 = .ok (.aload_n 0, 1) := by decide +kernel
theorem dX1_landOf_38 : decode cX1_landOf 38 = .ok (.iload 8, 2) := by decide +kernel
theorem dX1_landOf_40 : decode cX1_landOf 40 = .ok (.iload 6, 2) := by decide +kernel
theorem dX1_landOf_42 : decode cX1_landOf 42 = .ok (.iload 7, 2) := by decide +kernel
theorem dX1_landOf_44 : decode cX1_landOf 44 = .ok (.invokevirtual 88, 3) := by decide +kernel
theorem dX1_landOf_47 : decode cX1_landOf 47 = .ok (.lstore 9, 2) := by decide +kernel
theorem dX1_landOf_49 : decode cX1_landOf 49 = .ok (.lload_n 3, 1) := by decide +kernel
theorem dX1_landOf_50 : decode cX1_landOf 50 = .ok (.lload 9, 2) := by decide +kernel
theorem dX1_landOf_52 : decode cX1_landOf 52 = .ok (.lcmp, 1) := by decide +kernel
theorem dX1_landOf_53 : decode cX1_landOf 53 = .ok (.ifCond .ge 10, 3) := by decide +kernel
theorem dX1_landOf_56 : decode cX1_landOf 56 = .ok (.iload 8, 2) := by decide +kernel
theorem dX1_landOf_58 : decode cX1_landOf 58 = .ok (.istore 5, 2) := by decide +kernel
theorem dX1_landOf_60 : decode cX1_landOf 60 = .ok (.goto 8, 3) := by decide +kernel
theorem dX1_landOf_63 : decode cX1_landOf 63 = .ok (.lload_n 3, 1) := by decide +kernel
theorem dX1_landOf_64 : decode cX1_landOf 64 = .ok (.lload 9, 2) := by decide +kernel
theorem dX1_landOf_66 : decode cX1_landOf 66 = .ok (.lsub, 1) := by decide +kernel
theorem dX1_landOf_67 : decode cX1_landOf 67 = .ok (.lstore_n 3, 1) := by decide +kernel
theorem dX1_landOf_68 : decode cX1_landOf 68 = .ok (.iinc 8 1, 3) := by decide +kernel
theorem dX1_landOf_71 : decode cX1_landOf 71 = .ok (.goto (-46), 3) := by decide +kernel
theorem dX1_landOf_74 : decode cX1_landOf 74 = .ok (.iinc 6 1, 3) := by decide +kernel
theorem dX1_landOf_77 : decode cX1_landOf 77 = .ok (.goto (-68), 3) := by decide +kernel
theorem dX1_landOf_80 : decode cX1_landOf 80 = .ok (.iload 5, 2) := by decide +kernel
theorem dX1_landOf_82 : decode cX1_landOf 82 = .ok (.ireturn, 1) := by decide +kernel
theorem dX1_goingTo_0 : decode cX1_goingTo 0 = .ok (.iload_n 2, 1) := by decide +kernel
theorem dX1_goingTo_1 : decode cX1_goingTo 1 = .ok (.ifCond .ne 13, 3) := by decide +kernel
theorem dX1_goingTo_4 : decode cX1_goingTo 4 = .ok (.aload_n 0, 1) := by decide +kernel
theorem dX1_goingTo_5 : decode cX1_goingTo 5 = .ok (.iload_n 1, 1) := by decide +kernel
theorem dX1_goingTo_6 : decode cX1_goingTo 6 = .ok (.iconst 0, 1) := by decide +kernel
theorem dX1_goingTo_7 : decode cX1_goingTo 7 = .ok (.invokestatic 42, 3) := by decide +kernel
theorem dX1_goingTo_10 : decode cX1_goingTo 10 = .ok (.invokevirtual 70, 3) := by decide +kernel
theorem dX1_goingTo_13 : decode cX1_goingTo 13 = .ok (.lreturn, 1) := by decide +kernel
theorem dX1_goingTo_14 : decode cX1_goingTo 14 = .ok (.iload_n 3, 1) := by decide +kernel
theorem dX1_goingTo_15 : decode cX1_goingTo 15 = .ok (.iconst (-1), 1) := by decide +kernel
theorem dX1_goingTo_16 : decode cX1_goingTo 16 = .ok (.if_icmp .eq 18, 3) := by decide +kernel
theorem dX1_goingTo_19 : decode cX1_goingTo 19 = .ok (.aload_n 0, 1) := by decide +kernel
theorem dX1_goingTo_20 : decode cX1_goingTo 20 = .ok (.getfield 28, 3) := by decide +kernel
theorem dX1_goingTo_23 : decode cX1_goingTo 23 = .ok (.iload_n 3, 1) := by decide +kernel
theorem dX1_goingTo_24 : decode cX1_goingTo 24 = .ok (.iload_n 1, 1) := by decide +kernel
theorem dX1_goingTo_25 : decode cX1_goingTo 25 = .ok (.iload_n 2, 1) := by decide +kernel
theorem dX1_goingTo_26 : decode cX1_goingTo 26 = .ok (.iconst 1, 1) := by decide +kernel
theorem dX1_goingTo_27 : decode cX1_goingTo 27 = .ok (.isub, 1) := by decide +kernel
theorem dX1_goingTo_28 : decode cX1_goingTo 28 = .ok (.invokevirtual 64, 3) := by decide +kernel
theorem dX1_goingTo_31 : decode cX1_goingTo 31 = .ok (.ifCond .ne 5, 3) := by decide +kernel
theorem dX1_goingTo_34 : decode cX1_goingTo 34 = .ok (.lconst 0, 1) := by decide +kernel
theorem dX1_goingTo_35 : decode cX1_goingTo 35 = .ok (.lreturn, 1) := by decide +kernel
theorem dX1_goingTo_36 : decode cX1_goingTo 36 = .ok (.aload_n 0, 1) := by decide +kernel
theorem dX1_goingTo_37 : decode cX1_goingTo 37 = .ok (.getfield 19, 3) := by decide +kernel
theorem dX1_goingTo_40 : decode cX1_goingTo 40 = .ok (.iload_n 1, 1) := by decide +kernel
theorem dX1_goingTo_41 : decode cX1_goingTo 41 = .ok (.iload_n 2, 1) := by decide +kernel
theorem dX1_goingTo_42 : decode cX1_goingTo 42 = .ok (.invokestatic 42, 3) := by decide +kernel
theorem dX1_goingTo_45 : decode cX1_goingTo 45 = .ok (.laload, 1) := by decide +kernel
theorem dX1_goingTo_46 : decode cX1_goingTo 46 = .ok (.lreturn, 1) := by decide +kernel
theorem dX2_init_0 : decode cX2_init 0 = .ok (.aload_n 0, 1) := by decide +kernel
theorem dX2_init_1 : decode cX2_init 1 = .ok (.invokespecial 3, 3) := by decide +kernel
theorem dX2_init_4 : decode cX2_init 4 = .ok (.aload_n 0, 1) := by decide +kernel
theorem dX2_init_5 : decode cX2_init 5 = .ok (.iload_n 1, 1) := by decide +kernel
theorem dX2_init_6 : decode cX2_init 6 = .ok (.putfield 9, 3) := by decide +kernel
theorem dX2_init_9 : decode cX2_init 9 = .ok (.aload_n 0, 1) := by decide +kernel
theorem dX2_init_10 : decode cX2_init 10 = .ok (.aload_n 2, 1) := by decide +kernel
theorem dX2_init_11 : decode cX2_init 11 = .ok (.putfield 15, 3) := by decide +kernel
theorem dX2_init_14 : decode cX2_init 14 = .ok (.return_, 1) := by decide +kernel
theorem dX2_worstOf_0 : decode cX2_worstOf 0 = .ok (.aload_n 0, 1) := by decide +kernel
theorem dX2_worstOf_1 : decode cX2_worstOf 1 = .ok (.getfield 15, 3) := by decide +kernel
theorem dX2_worstOf_4 : decode cX2_worstOf 4 = .ok (.iload_n 1, 1) := by decide +kernel
theorem dX2_worstOf_5 : decode cX2_worstOf 5 = .ok (.invokevirtual 19, 3) := by decide +kernel
theorem dX2_worstOf_8 : decode cX2_worstOf 8 = .ok (.lstore_n 2, 1) := by decide +kernel
theorem dX2_worstOf_9 : decode cX2_worstOf 9 = .ok (.lload_n 2, 1) := by decide +kernel
theorem dX2_worstOf_10 : decode cX2_worstOf 10 = .ok (.aload_n 0, 1) := by decide +kernel
theorem dX2_worstOf_11 : decode cX2_worstOf 11 = .ok (.getfield 15, 3) := by decide +kernel
theorem dX2_worstOf_14 : decode cX2_worstOf 14 = .ok (.invokevirtual 25, 3) := by decide +kernel
theorem dX2_worstOf_17 : decode cX2_worstOf 17 = .ok (.lload_n 2, 1) := by decide +kernel
theorem dX2_worstOf_18 : decode cX2_worstOf 18 = .ok (.lsub, 1) := by decide +kernel
theorem dX2_worstOf_19 : decode cX2_worstOf 19 = .ok (.invokestatic 29, 3) := by decide +kernel
theorem dX2_worstOf_22 : decode cX2_worstOf 22 = .ok (.lreturn, 1) := by decide +kernel
theorem dX2_best_0 : decode cX2_best 0 = .ok (.aload_n 0, 1) := by decide +kernel
theorem dX2_best_1 : decode cX2_best 1 = .ok (.getfield 15, 3) := by decide +kernel
theorem dX2_best_4 : decode cX2_best 4 = .ok (.invokevirtual 25, 3) := by decide +kernel
theorem dX2_best_7 : decode cX2_best 7 = .ok (.lstore_n 1, 1) := by decide +kernel
theorem dX2_best_8 : decode cX2_best 8 = .ok (.lload_n 1, 1) := by decide +kernel
theorem dX2_best_9 : decode cX2_best 9 = .ok (.lstore_n 3, 1) := by decide +kernel
theorem dX2_best_10 : decode cX2_best 10 = .ok (.iconst (-1), 1) := by decide +kernel
theorem dX2_best_11 : decode cX2_best 11 = .ok (.istore 5, 2) := by decide +kernel
theorem dX2_best_13 : decode cX2_best 13 = .ok (.iconst 0, 1) := by decide +kernel
theorem dX2_best_14 : decode cX2_best 14 = .ok (.istore 6, 2) := by decide +kernel
theorem dX2_best_16 : decode cX2_best 16 = .ok (.iload 6, 2) := by decide +kernel
theorem dX2_best_18 : decode cX2_best 18 = .ok (.aload_n 0, 1) := by decide +kernel
theorem dX2_best_19 : decode cX2_best 19 = .ok (.getfield 9, 3) := by decide +kernel
theorem dX2_best_22 : decode cX2_best 22 = .ok (.iconst 5, 1) := by decide +kernel
theorem dX2_best_23 : decode cX2_best 23 = .ok (.imul, 1) := by decide +kernel
theorem dX2_best_24 : decode cX2_best 24 = .ok (.if_icmp .ge 45, 3) := by decide +kernel
theorem dX2_best_27 : decode cX2_best 27 = .ok (.aload_n 0, 1) := by decide +kernel
theorem dX2_best_28 : decode cX2_best 28 = .ok (.getfield 15, 3) := by decide +kernel
theorem dX2_best_31 : decode cX2_best 31 = .ok (.iload 6, 2) := by decide +kernel
theorem dX2_best_33 : decode cX2_best 33 = .ok (.invokevirtual 19, 3) := by decide +kernel
theorem dX2_best_36 : decode cX2_best 36 = .ok (.lstore 7, 2) := by decide +kernel
theorem dX2_best_38 : decode cX2_best 38 = .ok (.lload 7, 2) := by decide +kernel
theorem dX2_best_40 : decode cX2_best 40 = .ok (.lload_n 1, 1) := by decide +kernel
theorem dX2_best_41 : decode cX2_best 41 = .ok (.lload 7, 2) := by decide +kernel
theorem dX2_best_43 : decode cX2_best 43 = .ok (.lsub, 1) := by decide +kernel
theorem dX2_best_44 : decode cX2_best 44 = .ok (.invokestatic 29, 3) := by decide +kernel
theorem dX2_best_47 : decode cX2_best 47 = .ok (.lstore 9, 2) := by decide +kernel
theorem dX2_best_49 : decode cX2_best 49 = .ok (.lload 9, 2) := by decide +kernel
theorem dX2_best_51 : decode cX2_best 51 = .ok (.lload_n 3, 1) := by decide +kernel
theorem dX2_best_52 : decode cX2_best 52 = .ok (.lcmp, 1) := by decide +kernel
theorem dX2_best_53 : decode cX2_best 53 = .ok (.ifCond .ge 10, 3) := by decide +kernel
theorem dX2_best_56 : decode cX2_best 56 = .ok (.lload 9, 2) := by decide +kernel
theorem dX2_best_58 : decode cX2_best 58 = .ok (.lstore_n 3, 1) := by decide +kernel
theorem dX2_best_59 : decode cX2_best 59 = .ok (.iload 6, 2) := by decide +kernel
theorem dX2_best_61 : decode cX2_best 61 = .ok (.istore 5, 2) := by decide +kernel
theorem dX2_best_63 : decode cX2_best 63 = .ok (.iinc 6 1, 3) := by decide +kernel
theorem dX2_best_66 : decode cX2_best 66 = .ok (.goto (-50), 3) := by decide +kernel
theorem dX2_best_69 : decode cX2_best 69 = .ok (.iload 5, 2) := by decide +kernel
theorem dX2_best_71 : decode cX2_best 71 = .ok (.invokestatic 35, 3) := by decide +kernel
theorem dX2_best_74 : decode cX2_best 74 = .ok (.ireturn, 1) := by decide +kernel
theorem dX2_worstWithNext_0 : decode cX2_worstWithNext 0 = .ok (.aload_n 0, 1) := by decide +kernel
theorem dX2_worstWithNext_1 : decode cX2_worstWithNext 1 = .ok (.getfield 15, 3) := by decide +kernel
theorem dX2_worstWithNext_4 : decode cX2_worstWithNext 4 = .ok (.iload_n 1, 1) := by decide +kernel
theorem dX2_worstWithNext_5 : decode cX2_worstWithNext 5 = .ok (.iload_n 2, 1) := by decide +kernel
theorem dX2_worstWithNext_6 : decode cX2_worstWithNext 6 = .ok (.invokevirtual 39, 3) := by decide +kernel
theorem dX2_worstWithNext_9 : decode cX2_worstWithNext 9 = .ok (.aload_n 0, 1) := by decide +kernel
theorem dX2_worstWithNext_10 : decode cX2_worstWithNext 10 = .ok (.getfield 15, 3) := by decide +kernel
theorem dX2_worstWithNext_13 : decode cX2_worstWithNext 13 = .ok (.iload_n 1, 1) := by decide +kernel
theorem dX2_worstWithNext_14 : decode cX2_worstWithNext 14 = .ok (.iload_n 2, 1) := by decide +kernel
theorem dX2_worstWithNext_15 : decode cX2_worstWithNext 15 = .ok (.invokestatic 43, 3) := by decide +kernel
theorem dX2_worstWithNext_18 : decode cX2_worstWithNext 18 = .ok (.invokevirtual 19, 3) := by decide +kernel
theorem dX2_worstWithNext_21 : decode cX2_worstWithNext 21 = .ok (.lstore_n 3, 1) := by decide +kernel
theorem dX2_worstWithNext_22 : decode cX2_worstWithNext 22 = .ok (.aload_n 0, 1) := by decide +kernel
theorem dX2_worstWithNext_23 : decode cX2_worstWithNext 23 = .ok (.getfield 15, 3) := by decide +kernel
theorem dX2_worstWithNext_26 : decode cX2_worstWithNext 26 = .ok (.invokevirtual 25, 3) := by decide +kernel
theorem dX2_worstWithNext_29 : decode cX2_worstWithNext 29 = .ok (.lload_n 3, 1) := by decide +kernel
theorem dX2_worstWithNext_30 : decode cX2_worstWithNext 30 = .ok (.lsub, 1) := by decide +kernel
theorem dX2_worstWithNext_31 : decode cX2_worstWithNext 31 = .ok (.lstore 5, 2) := by decide +kernel
theorem dX2_worstWithNext_33 : decode cX2_worstWithNext 33 = .ok (.lload_n 3, 1) := by decide +kernel
theorem dX2_worstWithNext_34 : decode cX2_worstWithNext 34 = .ok (.lstore 7, 2) := by decide +kernel
theorem dX2_worstWithNext_36 : decode cX2_worstWithNext 36 = .ok (.lload 5, 2) := by decide +kernel
theorem dX2_worstWithNext_38 : decode cX2_worstWithNext 38 = .ok (.lstore 9, 2) := by decide +kernel
theorem dX2_worstWithNext_40 : decode cX2_worstWithNext 40 = .ok (.iconst 0, 1) := by decide +kernel
theorem dX2_worstWithNext_41 : decode cX2_worstWithNext 41 = .ok (.istore 11, 2) := by decide +kernel
theorem dX2_worstWithNext_43 : decode cX2_worstWithNext 43 = .ok (.iload 11, 2) := by decide +kernel
theorem dX2_worstWithNext_45 : decode cX2_worstWithNext 45 = .ok (.aload_n 0, 1) := by decide +kernel
theorem dX2_worstWithNext_46 : decode cX2_worstWithNext 46 = .ok (.getfield 9, 3) := by decide +kernel
theorem dX2_worstWithNext_49 : decode cX2_worstWithNext 49 = .ok (.iconst 5, 1) := by decide +kernel
theorem dX2_worstWithNext_50 : decode cX2_worstWithNext 50 = .ok (.imul, 1) := by decide +kernel
theorem dX2_worstWithNext_51 : decode cX2_worstWithNext 51 = .ok (.if_icmp .ge 68, 3) := by decide +kernel
theorem dX2_worstWithNext_54 : decode cX2_worstWithNext 54 = .ok (.aload_n 0, 1) := by decide +kernel
theorem dX2_worstWithNext_55 : decode cX2_worstWithNext 55 = .ok (.getfield 15, 3) := by decide +kernel
theorem dX2_worstWithNext_58 : decode cX2_worstWithNext 58 = .ok (.getfield 47, 3) := by decide +kernel
theorem dX2_worstWithNext_61 : decode cX2_worstWithNext 61 = .ok (.iload 11, 2) := by decide +kernel
theorem dX2_worstWithNext_63 : decode cX2_worstWithNext 63 = .ok (.laload, 1) := by decide +kernel
theorem dX2_worstWithNext_64 : decode cX2_worstWithNext 64 = .ok (.lstore 12, 2) := by decide +kernel
theorem dX2_worstWithNext_66 : decode cX2_worstWithNext 66 = .ok (.aload_n 0, 1) := by decide +kernel
theorem dX2_worstWithNext_67 : decode cX2_worstWithNext 67 = .ok (.getfield 15, 3) := by decide +kernel
theorem dX2_worstWithNext_70 : decode cX2_worstWithNext 70 = .ok (.iload 11, 2) := by decide +kernel
theorem dX2_worstWithNext_72 : decode cX2_worstWithNext 72 = .ok (.invokevirtual 19, 3) := by decide +kernel
theorem dX2_worstWithNext_75 : decode cX2_worstWithNext 75 = .ok (.lload 12, 2) := by decide +kernel
theorem dX2_worstWithNext_77 : decode cX2_worstWithNext 77 = .ok (.lsub, 1) := by decide +kernel
theorem dX2_worstWithNext_78 : decode cX2_worstWithNext 78 = .ok (.lstore 14, 2) := by decide +kernel
theorem dX2_worstWithNext_80 : decode cX2_worstWithNext 80 = .ok (.lload 7, 2) := by decide +kernel
theorem dX2_worstWithNext_82 : decode cX2_worstWithNext 82 = .ok (.lload 12, 2) := by decide +kernel
theorem dX2_worstWithNext_84 : decode cX2_worstWithNext 84 = .ok (.lload_n 3, 1) := by decide +kernel
theorem dX2_worstWithNext_85 : decode cX2_worstWithNext 85 = .ok (.lload 12, 2) := by decide +kernel
theorem dX2_worstWithNext_87 : decode cX2_worstWithNext 87 = .ok (.lsub, 1) := by decide +kernel
theorem dX2_worstWithNext_88 : decode cX2_worstWithNext 88 = .ok (.invokestatic 29, 3) := by decide +kernel
theorem dX2_worstWithNext_91 : decode cX2_worstWithNext 91 = .ok (.invokestatic 51, 3) := by decide +kernel
theorem dX2_worstWithNext_94 : decode cX2_worstWithNext 94 = .ok (.lstore 7, 2) := by decide +kernel
theorem dX2_worstWithNext_96 : decode cX2_worstWithNext 96 = .ok (.lload 9, 2) := by decide +kernel
theorem dX2_worstWithNext_98 : decode cX2_worstWithNext 98 = .ok (.lload 14, 2) := by decide +kernel
theorem dX2_worstWithNext_100 : decode cX2_worstWithNext 100 = .ok (.lload 5, 2) := by decide +kernel
theorem dX2_worstWithNext_102 : decode cX2_worstWithNext 102 = .ok (.lload 14, 2) := by decide +kernel
theorem dX2_worstWithNext_104 : decode cX2_worstWithNext 104 = .ok (.lsub, 1) := by decide +kernel
theorem dX2_worstWithNext_105 : decode cX2_worstWithNext 105 = .ok (.invokestatic 29, 3) := by decide +kernel
theorem dX2_worstWithNext_108 : decode cX2_worstWithNext 108 = .ok (.invokestatic 51, 3) := by decide +kernel
theorem dX2_worstWithNext_111 : decode cX2_worstWithNext 111 = .ok (.lstore 9, 2) := by decide +kernel
theorem dX2_worstWithNext_113 : decode cX2_worstWithNext 113 = .ok (.iinc 11 1, 3) := by decide +kernel
theorem dX2_worstWithNext_116 : decode cX2_worstWithNext 116 = .ok (.goto (-73), 3) := by decide +kernel
theorem dX2_worstWithNext_119 : decode cX2_worstWithNext 119 = .ok (.lload 7, 2) := by decide +kernel
theorem dX2_worstWithNext_121 : decode cX2_worstWithNext 121 = .ok (.lload 9, 2) := by decide +kernel
theorem dX2_worstWithNext_123 : decode cX2_worstWithNext 123 = .ok (.invokestatic 29, 3) := by decide +kernel
theorem dX2_worstWithNext_126 : decode cX2_worstWithNext 126 = .ok (.lreturn, 1) := by decide +kernel
theorem dX2_bestWithNext_0 : decode cX2_bestWithNext 0 = .ok (.aload_n 0, 1) := by decide +kernel
theorem dX2_bestWithNext_1 : decode cX2_bestWithNext 1 = .ok (.getfield 15, 3) := by decide +kernel
theorem dX2_bestWithNext_4 : decode cX2_bestWithNext 4 = .ok (.invokevirtual 25, 3) := by decide +kernel
theorem dX2_bestWithNext_7 : decode cX2_bestWithNext 7 = .ok (.lstore_n 1, 1) := by decide +kernel
theorem dX2_bestWithNext_8 : decode cX2_bestWithNext 8 = .ok (.iconst (-1), 1) := by decide +kernel
theorem dX2_bestWithNext_9 : decode cX2_bestWithNext 9 = .ok (.istore_n 3, 1) := by decide +kernel
theorem dX2_bestWithNext_10 : decode cX2_bestWithNext 10 = .ok (.iconst 0, 1) := by decide +kernel
theorem dX2_bestWithNext_11 : decode cX2_bestWithNext 11 = .ok (.istore 4, 2) := by decide +kernel
theorem dX2_bestWithNext_13 : decode cX2_bestWithNext 13 = .ok (.iload 4, 2) := by decide +kernel
theorem dX2_bestWithNext_15 : decode cX2_bestWithNext 15 = .ok (.aload_n 0, 1) := by decide +kernel
theorem dX2_bestWithNext_16 : decode cX2_bestWithNext 16 = .ok (.getfield 9, 3) := by decide +kernel
theorem dX2_bestWithNext_19 : decode cX2_bestWithNext 19 = .ok (.if_icmp .ge 52, 3) := by decide +kernel
theorem dX2_bestWithNext_22 : decode cX2_bestWithNext 22 = .ok (.iconst 0, 1) := by decide +kernel
theorem dX2_bestWithNext_23 : decode cX2_bestWithNext 23 = .ok (.istore 5, 2) := by decide +kernel
theorem dX2_bestWithNext_25 : decode cX2_bestWithNext 25 = .ok (.iload 5, 2) := by decide +kernel
theorem dX2_bestWithNext_27 : decode cX2_bestWithNext 27 = .ok (.iconst 5, 1) := by decide +kernel
theorem dX2_bestWithNext_28 : decode cX2_bestWithNext 28 = .ok (.if_icmp .ge 37, 3) := by decide +kernel
theorem dX2_bestWithNext_31 : decode cX2_bestWithNext 31 = .ok (.aload_n 0, 1) := by decide +kernel
theorem dX2_bestWithNext_32 : decode cX2_bestWithNext 32 = .ok (.iload 5, 2) := by decide +kernel
theorem dX2_bestWithNext_34 : decode cX2_bestWithNext 34 = .ok (.iload 4, 2) := by decide +kernel
theorem dX2_bestWithNext_36 : decode cX2_bestWithNext 36 = .ok (.invokevirtual 54, 3) := by decide +kernel
theorem dX2_bestWithNext_39 : decode cX2_bestWithNext 39 = .ok (.lstore 6, 2) := by decide +kernel
theorem dX2_bestWithNext_41 : decode cX2_bestWithNext 41 = .ok (.lload 6, 2) := by decide +kernel
theorem dX2_bestWithNext_43 : decode cX2_bestWithNext 43 = .ok (.lload_n 1, 1) := by decide +kernel
theorem dX2_bestWithNext_44 : decode cX2_bestWithNext 44 = .ok (.lcmp, 1) := by decide +kernel
theorem dX2_bestWithNext_45 : decode cX2_bestWithNext 45 = .ok (.ifCond .ge 14, 3) := by decide +kernel
theorem dX2_bestWithNext_48 : decode cX2_bestWithNext 48 = .ok (.lload 6, 2) := by decide +kernel
theorem dX2_bestWithNext_50 : decode cX2_bestWithNext 50 = .ok (.lstore_n 1, 1) := by decide +kernel
theorem dX2_bestWithNext_51 : decode cX2_bestWithNext 51 = .ok (.iload 5, 2) := by decide +kernel
theorem dX2_bestWithNext_53 : decode cX2_bestWithNext 53 = .ok (.iload 4, 2) := by decide +kernel
theorem dX2_bestWithNext_55 : decode cX2_bestWithNext 55 = .ok (.invokestatic 43, 3) := by decide +kernel
theorem dX2_bestWithNext_58 : decode cX2_bestWithNext 58 = .ok (.istore_n 3, 1) := by decide +kernel
theorem dX2_bestWithNext_59 : decode cX2_bestWithNext 59 = .ok (.iinc 5 1, 3) := by decide +kernel
theorem dX2_bestWithNext_62 : decode cX2_bestWithNext 62 = .ok (.goto (-37), 3) := by decide +kernel
theorem dX2_bestWithNext_65 : decode cX2_bestWithNext 65 = .ok (.iinc 4 1, 3) := by decide +kernel
theorem dX2_bestWithNext_68 : decode cX2_bestWithNext 68 = .ok (.goto (-55), 3) := by decide +kernel
theorem dX2_bestWithNext_71 : decode cX2_bestWithNext 71 = .ok (.iload_n 3, 1) := by decide +kernel
theorem dX2_bestWithNext_72 : decode cX2_bestWithNext 72 = .ok (.invokestatic 35, 3) := by decide +kernel
theorem dX2_bestWithNext_75 : decode cX2_bestWithNext 75 = .ok (.ireturn, 1) := by decide +kernel
theorem dX2_told_0 : decode cX2_told 0 = .ok (.iload_n 0, 1) := by decide +kernel
theorem dX2_told_1 : decode cX2_told 1 = .ok (.iconst (-1), 1) := by decide +kernel
theorem dX2_told_2 : decode cX2_told 2 = .ok (.if_icmp .ne 7, 3) := by decide +kernel
theorem dX2_told_5 : decode cX2_told 5 = .ok (.iconst (-1), 1) := by decide +kernel
theorem dX2_told_6 : decode cX2_told 6 = .ok (.goto 13, 3) := by decide +kernel
theorem dX2_told_9 : decode cX2_told 9 = .ok (.bipush 10, 2) := by decide +kernel
theorem dX2_told_11 : decode cX2_told 11 = .ok (.iload_n 0, 1) := by decide +kernel
theorem dX2_told_12 : decode cX2_told 12 = .ok (.iconst 5, 1) := by decide +kernel
theorem dX2_told_13 : decode cX2_told 13 = .ok (.idiv, 1) := by decide +kernel
theorem dX2_told_14 : decode cX2_told 14 = .ok (.imul, 1) := by decide +kernel
theorem dX2_told_15 : decode cX2_told 15 = .ok (.iload_n 0, 1) := by decide +kernel
theorem dX2_told_16 : decode cX2_told 16 = .ok (.iconst 5, 1) := by decide +kernel
theorem dX2_told_17 : decode cX2_told 17 = .ok (.irem, 1) := by decide +kernel
theorem dX2_told_18 : decode cX2_told 18 = .ok (.iadd, 1) := by decide +kernel
theorem dX2_told_19 : decode cX2_told 19 = .ok (.ireturn, 1) := by decide +kernel
theorem dX3_init_0 : decode cX3_init 0 = .ok (.aload_n 0, 1) := by decide +kernel
theorem dX3_init_1 : decode cX3_init 1 = .ok (.invokespecial 3, 3) := by decide +kernel
theorem dX3_init_4 : decode cX3_init 4 = .ok (.aload_n 0, 1) := by decide +kernel
theorem dX3_init_5 : decode cX3_init 5 = .ok (.bipush 6, 2) := by decide +kernel
theorem dX3_init_7 : decode cX3_init 7 = .ok (.anewarray 11, 3) := by decide +kernel
theorem dX3_init_10 : decode cX3_init 10 = .ok (.putfield 13, 3) := by decide +kernel
theorem dX3_init_13 : decode cX3_init 13 = .ok (.aload_n 0, 1) := by decide +kernel
theorem dX3_init_14 : decode cX3_init 14 = .ok (.bipush 20, 2) := by decide +kernel
theorem dX3_init_16 : decode cX3_init 16 = .ok (.newarray .int, 2) := by decide +kernel
theorem dX3_init_18 : decode cX3_init 18 = .ok (.putfield 17, 3) := by decide +kernel
theorem dX3_init_21 : decode cX3_init 21 = .ok (.aload_n 0, 1) := by decide +kernel
theorem dX3_init_22 : decode cX3_init 22 = .ok (.bipush 20, 2) := by decide +kernel
theorem dX3_init_24 : decode cX3_init 24 = .ok (.newarray .int, 2) := by decide +kernel
theorem dX3_init_26 : decode cX3_init 26 = .ok (.putfield 21, 3) := by decide +kernel
theorem dX3_init_29 : decode cX3_init 29 = .ok (.aload_n 0, 1) := by decide +kernel
theorem dX3_init_30 : decode cX3_init 30 = .ok (.bipush 20, 2) := by decide +kernel
theorem dX3_init_32 : decode cX3_init 32 = .ok (.newarray .int, 2) := by decide +kernel
theorem dX3_init_34 : decode cX3_init 34 = .ok (.putfield 24, 3) := by decide +kernel
theorem dX3_init_37 : decode cX3_init 37 = .ok (.aload_n 0, 1) := by decide +kernel
theorem dX3_init_38 : decode cX3_init 38 = .ok (.sipush 160, 3) := by decide +kernel
theorem dX3_init_41 : decode cX3_init 41 = .ok (.newarray .int, 2) := by decide +kernel
theorem dX3_init_43 : decode cX3_init 43 = .ok (.putfield 29, 3) := by decide +kernel
theorem dX3_init_46 : decode cX3_init 46 = .ok (.aload_n 0, 1) := by decide +kernel
theorem dX3_init_47 : decode cX3_init 47 = .ok (.bipush 6, 2) := by decide +kernel
theorem dX3_init_49 : decode cX3_init 49 = .ok (.newarray .int, 2) := by decide +kernel
theorem dX3_init_51 : decode cX3_init 51 = .ok (.putfield 32, 3) := by decide +kernel
theorem dX3_init_54 : decode cX3_init 54 = .ok (.aload_n 0, 1) := by decide +kernel
theorem dX3_init_55 : decode cX3_init 55 = .ok (.iload_n 1, 1) := by decide +kernel
theorem dX3_init_56 : decode cX3_init 56 = .ok (.putfield 35, 3) := by decide +kernel
theorem dX3_init_59 : decode cX3_init 59 = .ok (.aload_n 0, 1) := by decide +kernel
theorem dX3_init_60 : decode cX3_init 60 = .ok (.aload_n 2, 1) := by decide +kernel
theorem dX3_init_61 : decode cX3_init 61 = .ok (.putfield 39, 3) := by decide +kernel
theorem dX3_init_64 : decode cX3_init 64 = .ok (.aload_n 0, 1) := by decide +kernel
theorem dX3_init_65 : decode cX3_init 65 = .ok (.aload_n 3, 1) := by decide +kernel
theorem dX3_init_66 : decode cX3_init 66 = .ok (.putfield 43, 3) := by decide +kernel
theorem dX3_init_69 : decode cX3_init 69 = .ok (.aload_n 0, 1) := by decide +kernel
theorem dX3_init_70 : decode cX3_init 70 = .ok (.getfield 13, 3) := by decide +kernel
theorem dX3_init_73 : decode cX3_init 73 = .ok (.iconst 0, 1) := by decide +kernel
theorem dX3_init_74 : decode cX3_init 74 = .ok (.new 11, 3) := by decide +kernel
theorem dX3_init_77 : decode cX3_init 77 = .ok (.dup, 1) := by decide +kernel
theorem dX3_init_78 : decode cX3_init 78 = .ok (.iconst 2, 1) := by decide +kernel
theorem dX3_init_79 : decode cX3_init 79 = .ok (.newarray .int, 2) := by decide +kernel
theorem dX3_init_81 : decode cX3_init 81 = .ok (.dup, 1) := by decide +kernel
theorem dX3_init_82 : decode cX3_init 82 = .ok (.iconst 0, 1) := by decide +kernel
theorem dX3_init_83 : decode cX3_init 83 = .ok (.bipush (-6), 2) := by decide +kernel
theorem dX3_init_85 : decode cX3_init 85 = .ok (.iastore, 1) := by decide +kernel
theorem dX3_init_86 : decode cX3_init 86 = .ok (.dup, 1) := by decide +kernel
theorem dX3_init_87 : decode cX3_init 87 = .ok (.iconst 1, 1) := by decide +kernel
theorem dX3_init_88 : decode cX3_init 88 = .ok (.iconst 5, 1) := by decide +kernel
theorem dX3_init_89 : decode cX3_init 89 = .ok (.iastore, 1) := by decide +kernel
theorem dX3_init_90 : decode cX3_init 90 = .ok (.iconst 1, 1) := by decide +kernel
theorem dX3_init_91 : decode cX3_init 91 = .ok (.invokespecial 47, 3) := by decide +kernel
theorem dX3_init_94 : decode cX3_init 94 = .ok (.aastore, 1) := by decide +kernel
theorem dX3_init_95 : decode cX3_init 95 = .ok (.aload_n 0, 1) := by decide +kernel
theorem dX3_init_96 : decode cX3_init 96 = .ok (.iconst 1, 1) := by decide +kernel
theorem dX3_init_97 : decode cX3_init 97 = .ok (.putfield 50, 3) := by decide +kernel
theorem dX3_init_100 : decode cX3_init 100 = .ok (.return_, 1) := by decide +kernel
theorem dX3_addText_0 : decode cX3_addText 0 = .ok (.aload_n 0, 1) := by decide +kernel
theorem dX3_addText_1 : decode cX3_addText 1 = .ok (.getfield 13, 3) := by decide +kernel
theorem dX3_addText_4 : decode cX3_addText 4 = .ok (.aload_n 0, 1) := by decide +kernel
theorem dX3_addText_5 : decode cX3_addText 5 = .ok (.getfield 50, 3) := by decide +kernel
theorem dX3_addText_8 : decode cX3_addText 8 = .ok (.new 11, 3) := by decide +kernel
theorem dX3_addText_11 : decode cX3_addText 11 = .ok (.dup, 1) := by decide +kernel
theorem dX3_addText_12 : decode cX3_addText 12 = .ok (.aload_n 1, 1) := by decide +kernel
theorem dX3_addText_13 : decode cX3_addText 13 = .ok (.iload_n 2, 1) := by decide +kernel
theorem dX3_addText_14 : decode cX3_addText 14 = .ok (.invokespecial 47, 3) := by decide +kernel
theorem dX3_addText_17 : decode cX3_addText 17 = .ok (.aastore, 1) := by decide +kernel
theorem dX3_addText_18 : decode cX3_addText 18 = .ok (.aload_n 0, 1) := by decide +kernel
theorem dX3_addText_19 : decode cX3_addText 19 = .ok (.dup, 1) := by decide +kernel
theorem dX3_addText_20 : decode cX3_addText 20 = .ok (.getfield 50, 3) := by decide +kernel
theorem dX3_addText_23 : decode cX3_addText 23 = .ok (.dup_x1, 1) := by decide +kernel
theorem dX3_addText_24 : decode cX3_addText 24 = .ok (.iconst 1, 1) := by decide +kernel
theorem dX3_addText_25 : decode cX3_addText 25 = .ok (.iadd, 1) := by decide +kernel
theorem dX3_addText_26 : decode cX3_addText 26 = .ok (.putfield 50, 3) := by decide +kernel
theorem dX3_addText_29 : decode cX3_addText 29 = .ok (.ireturn, 1) := by decide +kernel
theorem dX3_add_0 : decode cX3_add 0 = .ok (.aload_n 0, 1) := by decide +kernel
theorem dX3_add_1 : decode cX3_add 1 = .ok (.getfield 17, 3) := by decide +kernel
theorem dX3_add_4 : decode cX3_add 4 = .ok (.aload_n 0, 1) := by decide +kernel
theorem dX3_add_5 : decode cX3_add 5 = .ok (.getfield 53, 3) := by decide +kernel
theorem dX3_add_8 : decode cX3_add 8 = .ok (.iload_n 1, 1) := by decide +kernel
theorem dX3_add_9 : decode cX3_add 9 = .ok (.iastore, 1) := by decide +kernel
theorem dX3_add_10 : decode cX3_add 10 = .ok (.aload_n 0, 1) := by decide +kernel
theorem dX3_add_11 : decode cX3_add 11 = .ok (.getfield 21, 3) := by decide +kernel
theorem dX3_add_14 : decode cX3_add 14 = .ok (.aload_n 0, 1) := by decide +kernel
theorem dX3_add_15 : decode cX3_add 15 = .ok (.getfield 53, 3) := by decide +kernel
theorem dX3_add_18 : decode cX3_add 18 = .ok (.iload_n 2, 1) := by decide +kernel
theorem dX3_add_19 : decode cX3_add 19 = .ok (.iastore, 1) := by decide +kernel
theorem dX3_add_20 : decode cX3_add 20 = .ok (.aload_n 0, 1) := by decide +kernel
theorem dX3_add_21 : decode cX3_add 21 = .ok (.getfield 24, 3) := by decide +kernel
theorem dX3_add_24 : decode cX3_add 24 = .ok (.aload_n 0, 1) := by decide +kernel
theorem dX3_add_25 : decode cX3_add 25 = .ok (.getfield 53, 3) := by decide +kernel
theorem dX3_add_28 : decode cX3_add 28 = .ok (.iload_n 3, 1) := by decide +kernel
theorem dX3_add_29 : decode cX3_add 29 = .ok (.iastore, 1) := by decide +kernel
theorem dX3_add_30 : decode cX3_add 30 = .ok (.aload_n 0, 1) := by decide +kernel
theorem dX3_add_31 : decode cX3_add 31 = .ok (.dup, 1) := by decide +kernel
theorem dX3_add_32 : decode cX3_add 32 = .ok (.getfield 53, 3) := by decide +kernel
theorem dX3_add_35 : decode cX3_add 35 = .ok (.dup_x1, 1) := by decide +kernel
theorem dX3_add_36 : decode cX3_add 36 = .ok (.iconst 1, 1) := by decide +kernel
theorem dX3_add_37 : decode cX3_add 37 = .ok (.iadd, 1) := by decide +kernel
theorem dX3_add_38 : decode cX3_add 38 = .ok (.putfield 53, 3) := by decide +kernel
theorem dX3_add_41 : decode cX3_add 41 = .ok (.ireturn, 1) := by decide +kernel
theorem dX3_textFor_0 : decode cX3_textFor 0 = .ok (.iconst 0, 1) := by decide +kernel
theorem dX3_textFor_1 : decode cX3_textFor 1 = .ok (.istore_n 3, 1) := by decide +kernel
theorem dX3_textFor_2 : decode cX3_textFor 2 = .ok (.iconst (-1), 1) := by decide +kernel
theorem dX3_textFor_3 : decode cX3_textFor 3 = .ok (.istore 4, 2) := by decide +kernel
theorem dX3_textFor_5 : decode cX3_textFor 5 = .ok (.iconst 0, 1) := by decide +kernel
theorem dX3_textFor_6 : decode cX3_textFor 6 = .ok (.istore 5, 2) := by decide +kernel
theorem dX3_textFor_8 : decode cX3_textFor 8 = .ok (.iload 5, 2) := by decide +kernel
theorem dX3_textFor_10 : decode cX3_textFor 10 = .ok (.aload_n 0, 1) := by decide +kernel
theorem dX3_textFor_11 : decode cX3_textFor 11 = .ok (.getfield 53, 3) := by decide +kernel
theorem dX3_textFor_14 : decode cX3_textFor 14 = .ok (.if_icmp .ge 60, 3) := by decide +kernel
theorem dX3_textFor_17 : decode cX3_textFor 17 = .ok (.aload_n 0, 1) := by decide +kernel
theorem dX3_textFor_18 : decode cX3_textFor 18 = .ok (.getfield 17, 3) := by decide +kernel
theorem dX3_textFor_21 : decode cX3_textFor 21 = .ok (.iload 5, 2) := by decide +kernel
theorem dX3_textFor_23 : decode cX3_textFor 23 = .ok (.iaload, 1) := by decide +kernel
theorem dX3_textFor_24 : decode cX3_textFor 24 = .ok (.iload_n 1, 1) := by decide +kernel
theorem dX3_textFor_25 : decode cX3_textFor 25 = .ok (.if_icmp .ne 43, 3) := by decide +kernel
theorem dX3_textFor_28 : decode cX3_textFor 28 = .ok (.aload_n 0, 1) := by decide +kernel
theorem dX3_textFor_29 : decode cX3_textFor 29 = .ok (.getfield 21, 3) := by decide +kernel
theorem dX3_textFor_32 : decode cX3_textFor 32 = .ok (.iload 5, 2) := by decide +kernel
theorem dX3_textFor_34 : decode cX3_textFor 34 = .ok (.iaload, 1) := by decide +kernel
theorem dX3_textFor_35 : decode cX3_textFor 35 = .ok (.iload_n 2, 1) := by decide +kernel
theorem dX3_textFor_36 : decode cX3_textFor 36 = .ok (.if_icmp .gt 32, 3) := by decide +kernel
theorem dX3_textFor_39 : decode cX3_textFor 39 = .ok (.aload_n 0, 1) := by decide +kernel
theorem dX3_textFor_40 : decode cX3_textFor 40 = .ok (.getfield 21, 3) := by decide +kernel
theorem dX3_textFor_43 : decode cX3_textFor 43 = .ok (.iload 5, 2) := by decide +kernel
theorem dX3_textFor_45 : decode cX3_textFor 45 = .ok (.iaload, 1) := by decide +kernel
theorem dX3_textFor_46 : decode cX3_textFor 46 = .ok (.iload 4, 2) := by decide +kernel
theorem dX3_textFor_48 : decode cX3_textFor 48 = .ok (.if_icmp .lt 20, 3) := by decide +kernel
theorem dX3_textFor_51 : decode cX3_textFor 51 = .ok (.aload_n 0, 1) := by decide +kernel
theorem dX3_textFor_52 : decode cX3_textFor 52 = .ok (.getfield 21, 3) := by decide +kernel
theorem dX3_textFor_55 : decode cX3_textFor 55 = .ok (.iload 5, 2) := by decide +kernel
theorem dX3_textFor_57 : decode cX3_textFor 57 = .ok (.iaload, 1) := by decide +kernel
theorem dX3_textFor_58 : decode cX3_textFor 58 = .ok (.istore 4, 2) := by decide +kernel
theorem dX3_textFor_60 : decode cX3_textFor 60 = .ok (.aload_n 0, 1) := by decide +kernel
theorem dX3_textFor_61 : decode cX3_textFor 61 = .ok (.getfield 24, 3) := by decide +kernel
theorem dX3_textFor_64 : decode cX3_textFor 64 = .ok (.iload 5, 2) := by decide +kernel
theorem dX3_textFor_66 : decode cX3_textFor 66 = .ok (.iaload, 1) := by decide +kernel
theorem dX3_textFor_67 : decode cX3_textFor 67 = .ok (.istore_n 3, 1) := by decide +kernel
theorem dX3_textFor_68 : decode cX3_textFor 68 = .ok (.iinc 5 1, 3) := by decide +kernel
theorem dX3_textFor_71 : decode cX3_textFor 71 = .ok (.goto (-63), 3) := by decide +kernel
theorem dX3_textFor_74 : decode cX3_textFor 74 = .ok (.iload_n 3, 1) := by decide +kernel
theorem dX3_textFor_75 : decode cX3_textFor 75 = .ok (.ireturn, 1) := by decide +kernel
theorem dX3_hold_0 : decode cX3_hold 0 = .ok (.aload_n 0, 1) := by decide +kernel
theorem dX3_hold_1 : decode cX3_hold 1 = .ok (.iload_n 1, 1) := by decide +kernel
theorem dX3_hold_2 : decode cX3_hold 2 = .ok (.iload_n 2, 1) := by decide +kernel
theorem dX3_hold_3 : decode cX3_hold 3 = .ok (.iload_n 3, 1) := by decide +kernel
theorem dX3_hold_4 : decode cX3_hold 4 = .ok (.invokevirtual 56, 3) := by decide +kernel
theorem dX3_hold_7 : decode cX3_hold 7 = .ok (.astore 4, 2) := by decide +kernel
theorem dX3_hold_9 : decode cX3_hold 9 = .ok (.aload_n 0, 1) := by decide +kernel
theorem dX3_hold_10 : decode cX3_hold 10 = .ok (.aload 4, 2) := by decide +kernel
theorem dX3_hold_12 : decode cX3_hold 12 = .ok (.getfield 60, 3) := by decide +kernel
theorem dX3_hold_15 : decode cX3_hold 15 = .ok (.iconst 0, 1) := by decide +kernel
theorem dX3_hold_16 : decode cX3_hold 16 = .ok (.aload 4, 2) := by decide +kernel
theorem dX3_hold_18 : decode cX3_hold 18 = .ok (.getfield 63, 3) := by decide +kernel
theorem dX3_hold_21 : decode cX3_hold 21 = .ok (.invokevirtual 66, 3) := by decide +kernel
theorem dX3_hold_24 : decode cX3_hold 24 = .ok (.ireturn, 1) := by decide +kernel
theorem dX3_limit_0 : decode cX3_limit 0 = .ok (.aload_n 0, 1) := by decide +kernel
theorem dX3_limit_1 : decode cX3_limit 1 = .ok (.iload_n 1, 1) := by decide +kernel
theorem dX3_limit_2 : decode cX3_limit 2 = .ok (.iload_n 2, 1) := by decide +kernel
theorem dX3_limit_3 : decode cX3_limit 3 = .ok (.iload_n 3, 1) := by decide +kernel
theorem dX3_limit_4 : decode cX3_limit 4 = .ok (.invokevirtual 56, 3) := by decide +kernel
theorem dX3_limit_7 : decode cX3_limit 7 = .ok (.astore 4, 2) := by decide +kernel
theorem dX3_limit_9 : decode cX3_limit 9 = .ok (.aload_n 0, 1) := by decide +kernel
theorem dX3_limit_10 : decode cX3_limit 10 = .ok (.aload 4, 2) := by decide +kernel
theorem dX3_limit_12 : decode cX3_limit 12 = .ok (.getfield 60, 3) := by decide +kernel
theorem dX3_limit_15 : decode cX3_limit 15 = .ok (.aload 4, 2) := by decide +kernel
theorem dX3_limit_17 : decode cX3_limit 17 = .ok (.getfield 63, 3) := by decide +kernel
theorem dX3_limit_20 : decode cX3_limit 20 = .ok (.aload 4, 2) := by decide +kernel
theorem dX3_limit_22 : decode cX3_limit 22 = .ok (.getfield 60, 3) := by decide +kernel
theorem dX3_limit_25 : decode cX3_limit 25 = .ok (.arraylength, 1) := by decide +kernel
theorem dX3_limit_26 : decode cX3_limit 26 = .ok (.invokevirtual 66, 3) := by decide +kernel
theorem dX3_limit_29 : decode cX3_limit 29 = .ok (.ireturn, 1) := by decide +kernel
theorem dX3_givesBack_0 : decode cX3_givesBack 0 = .ok (.aload_n 0, 1) := by decide +kernel
theorem dX3_givesBack_1 : decode cX3_givesBack 1 = .ok (.iload_n 1, 1) := by decide +kernel
theorem dX3_givesBack_2 : decode cX3_givesBack 2 = .ok (.iload_n 2, 1) := by decide +kernel
theorem dX3_givesBack_3 : decode cX3_givesBack 3 = .ok (.iload_n 3, 1) := by decide +kernel
theorem dX3_givesBack_4 : decode cX3_givesBack 4 = .ok (.invokevirtual 70, 3) := by decide +kernel
theorem dX3_givesBack_7 : decode cX3_givesBack 7 = .ok (.ifCond .ne 23, 3) := by decide +kernel
theorem dX3_givesBack_10 : decode cX3_givesBack 10 = .ok (.aload_n 0, 1) := by decide +kernel
theorem dX3_givesBack_11 : decode cX3_givesBack 11 = .ok (.getfield 35, 3) := by decide +kernel
theorem dX3_givesBack_14 : decode cX3_givesBack 14 = .ok (.iload_n 3, 1) := by decide +kernel
theorem dX3_givesBack_15 : decode cX3_givesBack 15 = .ok (.isub, 1) := by decide +kernel
theorem dX3_givesBack_16 : decode cX3_givesBack 16 = .ok (.aload_n 0, 1) := by decide +kernel
theorem dX3_givesBack_17 : decode cX3_givesBack 17 = .ok (.iload_n 1, 1) := by decide +kernel
theorem dX3_givesBack_18 : decode cX3_givesBack 18 = .ok (.iload_n 2, 1) := by decide +kernel
theorem dX3_givesBack_19 : decode cX3_givesBack 19 = .ok (.iload_n 3, 1) := by decide +kernel
theorem dX3_givesBack_20 : decode cX3_givesBack 20 = .ok (.invokevirtual 74, 3) := by decide +kernel
theorem dX3_givesBack_23 : decode cX3_givesBack 23 = .ok (.if_icmp .gt 7, 3) := by decide +kernel
theorem dX3_givesBack_26 : decode cX3_givesBack 26 = .ok (.iconst 1, 1) := by decide +kernel
theorem dX3_givesBack_27 : decode cX3_givesBack 27 = .ok (.goto 4, 3) := by decide +kernel
theorem dX3_givesBack_30 : decode cX3_givesBack 30 = .ok (.iconst 0, 1) := by decide +kernel
theorem dX3_givesBack_31 : decode cX3_givesBack 31 = .ok (.ireturn, 1) := by decide +kernel
theorem dX3_look_0 : decode cX3_look 0 = .ok (.aload_n 0, 1) := by decide +kernel
theorem dX3_look_1 : decode cX3_look 1 = .ok (.iconst (-1), 1) := by decide +kernel
theorem dX3_look_2 : decode cX3_look 2 = .ok (.iload_n 1, 1) := by decide +kernel
theorem dX3_look_3 : decode cX3_look 3 = .ok (.invokevirtual 77, 3) := by decide +kernel
theorem dX3_look_6 : decode cX3_look 6 = .ok (.aload_n 0, 1) := by decide +kernel
theorem dX3_look_7 : decode cX3_look 7 = .ok (.bipush (-2), 2) := by decide +kernel
theorem dX3_look_9 : decode cX3_look 9 = .ok (.iload_n 2, 1) := by decide +kernel
theorem dX3_look_10 : decode cX3_look 10 = .ok (.invokevirtual 77, 3) := by decide +kernel
theorem dX3_look_13 : decode cX3_look 13 = .ok (.aload_n 0, 1) := by decide +kernel
theorem dX3_look_14 : decode cX3_look 14 = .ok (.bipush (-3), 2) := by decide +kernel
theorem dX3_look_16 : decode cX3_look 16 = .ok (.iload_n 3, 1) := by decide +kernel
theorem dX3_look_17 : decode cX3_look 17 = .ok (.invokevirtual 77, 3) := by decide +kernel
theorem dX3_look_20 : decode cX3_look 20 = .ok (.aload_n 0, 1) := by decide +kernel
theorem dX3_look_21 : decode cX3_look 21 = .ok (.bipush (-4), 2) := by decide +kernel
theorem dX3_look_23 : decode cX3_look 23 = .ok (.aload_n 0, 1) := by decide +kernel
theorem dX3_look_24 : decode cX3_look 24 = .ok (.getfield 35, 3) := by decide +kernel
theorem dX3_look_27 : decode cX3_look 27 = .ok (.invokevirtual 77, 3) := by decide +kernel
theorem dX3_look_30 : decode cX3_look 30 = .ok (.aload_n 0, 1) := by decide +kernel
theorem dX3_look_31 : decode cX3_look 31 = .ok (.bipush (-5), 2) := by decide +kernel
theorem dX3_look_33 : decode cX3_look 33 = .ok (.aload_n 0, 1) := by decide +kernel
theorem dX3_look_34 : decode cX3_look 34 = .ok (.getfield 43, 3) := by decide +kernel
theorem dX3_look_37 : decode cX3_look 37 = .ok (.getfield 81, 3) := by decide +kernel
theorem dX3_look_40 : decode cX3_look 40 = .ok (.invokestatic 86, 3) := by decide +kernel
theorem dX3_look_43 : decode cX3_look 43 = .ok (.invokevirtual 77, 3) := by decide +kernel
theorem dX3_look_46 : decode cX3_look 46 = .ok (.aload_n 0, 1) := by decide +kernel
theorem dX3_look_47 : decode cX3_look 47 = .ok (.bipush (-6), 2) := by decide +kernel
theorem dX3_look_49 : decode cX3_look 49 = .ok (.aload_n 0, 1) := by decide +kernel
theorem dX3_look_50 : decode cX3_look 50 = .ok (.getfield 39, 3) := by decide +kernel
theorem dX3_look_53 : decode cX3_look 53 = .ok (.iload_n 1, 1) := by decide +kernel
theorem dX3_look_54 : decode cX3_look 54 = .ok (.iload_n 2, 1) := by decide +kernel
theorem dX3_look_55 : decode cX3_look 55 = .ok (.iload_n 3, 1) := by decide +kernel
theorem dX3_look_56 : decode cX3_look 56 = .ok (.invokevirtual 92, 3) := by decide +kernel
theorem dX3_look_59 : decode cX3_look 59 = .ok (.invokevirtual 77, 3) := by decide +kernel
theorem dX3_look_62 : decode cX3_look 62 = .ok (.aload_n 0, 1) := by decide +kernel
theorem dX3_look_63 : decode cX3_look 63 = .ok (.getfield 13, 3) := by decide +kernel
theorem dX3_look_66 : decode cX3_look 66 = .ok (.aload_n 0, 1) := by decide +kernel
theorem dX3_look_67 : decode cX3_look 67 = .ok (.iload_n 1, 1) := by decide +kernel
theorem dX3_look_68 : decode cX3_look 68 = .ok (.iload_n 3, 1) := by decide +kernel
theorem dX3_look_69 : decode cX3_look 69 = .ok (.invokevirtual 97, 3) := by decide +kernel
theorem dX3_look_72 : decode cX3_look 72 = .ok (.aaload, 1) := by decide +kernel
theorem dX3_look_73 : decode cX3_look 73 = .ok (.areturn, 1) := by decide +kernel
theorem dX3_name_0 : decode cX3_name 0 = .ok (.aload_n 0, 1) := by decide +kernel
theorem dX3_name_1 : decode cX3_name 1 = .ok (.getfield 32, 3) := by decide +kernel
theorem dX3_name_4 : decode cX3_name 4 = .ok (.iconst (-1), 1) := by decide +kernel
theorem dX3_name_5 : decode cX3_name 5 = .ok (.iload_n 1, 1) := by decide +kernel
theorem dX3_name_6 : decode cX3_name 6 = .ok (.isub, 1) := by decide +kernel
theorem dX3_name_7 : decode cX3_name 7 = .ok (.iload_n 2, 1) := by decide +kernel
theorem dX3_name_8 : decode cX3_name 8 = .ok (.iastore, 1) := by decide +kernel
theorem dX3_name_9 : decode cX3_name 9 = .ok (.return_, 1) := by decide +kernel
theorem dX3_valueOf_0 : decode cX3_valueOf 0 = .ok (.iconst 0, 1) := by decide +kernel
theorem dX3_valueOf_1 : decode cX3_valueOf 1 = .ok (.istore 4, 2) := by decide +kernel
theorem dX3_valueOf_3 : decode cX3_valueOf 3 = .ok (.iload_n 2, 1) := by decide +kernel
theorem dX3_valueOf_4 : decode cX3_valueOf 4 = .ok (.istore 5, 2) := by decide +kernel
theorem dX3_valueOf_6 : decode cX3_valueOf 6 = .ok (.iload 5, 2) := by decide +kernel
theorem dX3_valueOf_8 : decode cX3_valueOf 8 = .ok (.iload_n 3, 1) := by decide +kernel
theorem dX3_valueOf_9 : decode cX3_valueOf 9 = .ok (.if_icmp .ge 131, 3) := by decide +kernel
theorem dX3_valueOf_12 : decode cX3_valueOf 12 = .ok (.aload_n 1, 1) := by decide +kernel
theorem dX3_valueOf_13 : decode cX3_valueOf 13 = .ok (.iload 5, 2) := by decide +kernel
theorem dX3_valueOf_15 : decode cX3_valueOf 15 = .ok (.iaload, 1) := by decide +kernel
theorem dX3_valueOf_16 : decode cX3_valueOf 16 = .ok (.istore 6, 2) := by decide +kernel
theorem dX3_valueOf_18 : decode cX3_valueOf 18 = .ok (.iload 6, 2) := by decide +kernel
theorem dX3_valueOf_20 : decode cX3_valueOf 20 = .ok (.bipush (-6), 2) := by decide +kernel
theorem dX3_valueOf_22 : decode cX3_valueOf 22 = .ok (.if_icmp .lt 35, 3) := by decide +kernel
theorem dX3_valueOf_25 : decode cX3_valueOf 25 = .ok (.aload_n 0, 1) := by decide +kernel
theorem dX3_valueOf_26 : decode cX3_valueOf 26 = .ok (.getfield 29, 3) := by decide +kernel
theorem dX3_valueOf_29 : decode cX3_valueOf 29 = .ok (.iload 4, 2) := by decide +kernel
theorem dX3_valueOf_31 : decode cX3_valueOf 31 = .ok (.iload 6, 2) := by decide +kernel
theorem dX3_valueOf_33 : decode cX3_valueOf 33 = .ok (.ifCond .lt 8, 3) := by decide +kernel
theorem dX3_valueOf_36 : decode cX3_valueOf 36 = .ok (.iload 6, 2) := by decide +kernel
theorem dX3_valueOf_38 : decode cX3_valueOf 38 = .ok (.goto 12, 3) := by decide +kernel
theorem dX3_valueOf_41 : decode cX3_valueOf 41 = .ok (.aload_n 0, 1) := by decide +kernel
theorem dX3_valueOf_42 : decode cX3_valueOf 42 = .ok (.getfield 32, 3) := by decide +kernel
theorem dX3_valueOf_45 : decode cX3_valueOf 45 = .ok (.iconst (-1), 1) := by decide +kernel
theorem dX3_valueOf_46 : decode cX3_valueOf 46 = .ok (.iload 6, 2) := by decide +kernel
theorem dX3_valueOf_48 : decode cX3_valueOf 48 = .ok (.isub, 1) := by decide +kernel
theorem dX3_valueOf_49 : decode cX3_valueOf 49 = .ok (.iaload, 1) := by decide +kernel
theorem dX3_valueOf_50 : decode cX3_valueOf 50 = .ok (.iastore, 1) := by decide +kernel
theorem dX3_valueOf_51 : decode cX3_valueOf 51 = .ok (.iinc 4 1, 3) := by decide +kernel
theorem dX3_valueOf_54 : decode cX3_valueOf 54 = .ok (.goto 80, 3) := by decide +kernel
theorem dX3_valueOf_57 : decode cX3_valueOf 57 = .ok (.iload 6, 2) := by decide +kernel
theorem dX3_valueOf_59 : decode cX3_valueOf 59 = .ok (.bipush (-8), 2) := by decide +kernel
theorem dX3_valueOf_61 : decode cX3_valueOf 61 = .ok (.if_icmp .lt 34, 3) := by decide +kernel
theorem dX3_valueOf_64 : decode cX3_valueOf 64 = .ok (.iload 4, 2) := by decide +kernel
theorem dX3_valueOf_66 : decode cX3_valueOf 66 = .ok (.ifCond .le 68, 3) := by decide +kernel
theorem dX3_valueOf_69 : decode cX3_valueOf 69 = .ok (.aload_n 0, 1) := by decide +kernel
theorem dX3_valueOf_70 : decode cX3_valueOf 70 = .ok (.getfield 29, 3) := by decide +kernel
theorem dX3_valueOf_73 : decode cX3_valueOf 73 = .ok (.iload 4, 2) := by decide +kernel
theorem dX3_valueOf_75 : decode cX3_valueOf 75 = .ok (.iconst 1, 1) := by decide +kernel
theorem dX3_valueOf_76 : decode cX3_valueOf 76 = .ok (.isub, 1) := by decide +kernel
theorem dX3_valueOf_77 : decode cX3_valueOf 77 = .ok (.iload 6, 2) := by decide +kernel
theorem dX3_valueOf_79 : decode cX3_valueOf 79 = .ok (.aload_n 0, 1) := by decide +kernel
theorem dX3_valueOf_80 : decode cX3_valueOf 80 = .ok (.getfield 29, 3) := by decide +kernel
theorem dX3_valueOf_83 : decode cX3_valueOf 83 = .ok (.iload 4, 2) := by decide +kernel
theorem dX3_valueOf_85 : decode cX3_valueOf 85 = .ok (.iconst 1, 1) := by decide +kernel
theorem dX3_valueOf_86 : decode cX3_valueOf 86 = .ok (.isub, 1) := by decide +kernel
theorem dX3_valueOf_87 : decode cX3_valueOf 87 = .ok (.iaload, 1) := by decide +kernel
theorem dX3_valueOf_88 : decode cX3_valueOf 88 = .ok (.invokestatic 101, 3) := by decide +kernel
theorem dX3_valueOf_91 : decode cX3_valueOf 91 = .ok (.iastore, 1) := by decide +kernel
theorem dX3_valueOf_92 : decode cX3_valueOf 92 = .ok (.goto 42, 3) := by decide +kernel
theorem dX3_valueOf_95 : decode cX3_valueOf 95 = .ok (.iload 4, 2) := by decide +kernel
theorem dX3_valueOf_97 : decode cX3_valueOf 97 = .ok (.iconst 1, 1) := by decide +kernel
theorem dX3_valueOf_98 : decode cX3_valueOf 98 = .ok (.if_icmp .le 36, 3) := by decide +kernel
theorem dX3_valueOf_101 : decode cX3_valueOf 101 = .ok (.iinc 4 (-1), 3) := by decide +kernel
theorem dX3_valueOf_104 : decode cX3_valueOf 104 = .ok (.aload_n 0, 1) := by decide +kernel
theorem dX3_valueOf_105 : decode cX3_valueOf 105 = .ok (.getfield 29, 3) := by decide +kernel
theorem dX3_valueOf_108 : decode cX3_valueOf 108 = .ok (.iload 4, 2) := by decide +kernel
theorem dX3_valueOf_110 : decode cX3_valueOf 110 = .ok (.iconst 1, 1) := by decide +kernel
theorem dX3_valueOf_111 : decode cX3_valueOf 111 = .ok (.isub, 1) := by decide +kernel
theorem dX3_valueOf_112 : decode cX3_valueOf 112 = .ok (.iload 6, 2) := by decide +kernel
theorem dX3_valueOf_114 : decode cX3_valueOf 114 = .ok (.aload_n 0, 1) := by decide +kernel
theorem dX3_valueOf_115 : decode cX3_valueOf 115 = .ok (.getfield 29, 3) := by decide +kernel
theorem dX3_valueOf_118 : decode cX3_valueOf 118 = .ok (.iload 4, 2) := by decide +kernel
theorem dX3_valueOf_120 : decode cX3_valueOf 120 = .ok (.iconst 1, 1) := by decide +kernel
theorem dX3_valueOf_121 : decode cX3_valueOf 121 = .ok (.isub, 1) := by decide +kernel
theorem dX3_valueOf_122 : decode cX3_valueOf 122 = .ok (.iaload, 1) := by decide +kernel
theorem dX3_valueOf_123 : decode cX3_valueOf 123 = .ok (.aload_n 0, 1) := by decide +kernel
theorem dX3_valueOf_124 : decode cX3_valueOf 124 = .ok (.getfield 29, 3) := by decide +kernel
theorem dX3_valueOf_127 : decode cX3_valueOf 127 = .ok (.iload 4, 2) := by decide +kernel
theorem dX3_valueOf_129 : decode cX3_valueOf 129 = .ok (.iaload, 1) := by decide +kernel
theorem dX3_valueOf_130 : decode cX3_valueOf 130 = .ok (.invokestatic 104, 3) := by decide +kernel
theorem dX3_valueOf_133 : decode cX3_valueOf 133 = .ok (.iastore, 1) := by decide +kernel
theorem dX3_valueOf_134 : decode cX3_valueOf 134 = .ok (.iinc 5 1, 3) := by decide +kernel
theorem dX3_valueOf_137 : decode cX3_valueOf 137 = .ok (.goto (-131), 3) := by decide +kernel
theorem dX3_valueOf_140 : decode cX3_valueOf 140 = .ok (.iload 4, 2) := by decide +kernel
theorem dX3_valueOf_142 : decode cX3_valueOf 142 = .ok (.ifCond .le 15, 3) := by decide +kernel
theorem dX3_valueOf_145 : decode cX3_valueOf 145 = .ok (.aload_n 0, 1) := by decide +kernel
theorem dX3_valueOf_146 : decode cX3_valueOf 146 = .ok (.getfield 29, 3) := by decide +kernel
theorem dX3_valueOf_149 : decode cX3_valueOf 149 = .ok (.iload 4, 2) := by decide +kernel
theorem dX3_valueOf_151 : decode cX3_valueOf 151 = .ok (.iconst 1, 1) := by decide +kernel
theorem dX3_valueOf_152 : decode cX3_valueOf 152 = .ok (.isub, 1) := by decide +kernel
theorem dX3_valueOf_153 : decode cX3_valueOf 153 = .ok (.iaload, 1) := by decide +kernel
theorem dX3_valueOf_154 : decode cX3_valueOf 154 = .ok (.goto 4, 3) := by decide +kernel
theorem dX3_valueOf_157 : decode cX3_valueOf 157 = .ok (.iconst 0, 1) := by decide +kernel
theorem dX3_valueOf_158 : decode cX3_valueOf 158 = .ok (.ireturn, 1) := by decide +kernel
theorem dX3_ofOne_0 : decode cX3_ofOne 0 = .ok (.iload_n 0, 1) := by decide +kernel
theorem dX3_ofOne_1 : decode cX3_ofOne 1 = .ok (.bipush (-7), 2) := by decide +kernel
theorem dX3_ofOne_3 : decode cX3_ofOne 3 = .ok (.if_icmp .ne 6, 3) := by decide +kernel
theorem dX3_ofOne_6 : decode cX3_ofOne 6 = .ok (.iload_n 1, 1) := by decide +kernel
theorem dX3_ofOne_7 : decode cX3_ofOne 7 = .ok (.ineg, 1) := by decide +kernel
theorem dX3_ofOne_8 : decode cX3_ofOne 8 = .ok (.ireturn, 1) := by decide +kernel
theorem dX3_ofOne_9 : decode cX3_ofOne 9 = .ok (.iload_n 1, 1) := by decide +kernel
theorem dX3_ofOne_10 : decode cX3_ofOne 10 = .ok (.ifCond .ne 7, 3) := by decide +kernel
theorem dX3_ofOne_13 : decode cX3_ofOne 13 = .ok (.iconst 1, 1) := by decide +kernel
theorem dX3_ofOne_14 : decode cX3_ofOne 14 = .ok (.goto 4, 3) := by decide +kernel
theorem dX3_ofOne_17 : decode cX3_ofOne 17 = .ok (.iconst 0, 1) := by decide +kernel
theorem dX3_ofOne_18 : decode cX3_ofOne 18 = .ok (.ireturn, 1) := by decide +kernel
theorem dX3_ofTwo_0 : decode cX3_ofTwo 0 = .ok (.iload_n 0, 1) := by decide +kernel
theorem dX3_ofTwo_1 : decode cX3_ofTwo 1 = .ok (.tableswitch 97 (-14) (-9) #[93, 89, 78, 67, 53, 39], 39) := by decide +kernel
theorem dX3_ofTwo_40 : decode cX3_ofTwo 40 = .ok (.iload_n 1, 1) := by decide +kernel
theorem dX3_ofTwo_41 : decode cX3_ofTwo 41 = .ok (.ifCond .ne 7, 3) := by decide +kernel
theorem dX3_ofTwo_44 : decode cX3_ofTwo 44 = .ok (.iload_n 2, 1) := by decide +kernel
theorem dX3_ofTwo_45 : decode cX3_ofTwo 45 = .ok (.ifCond .eq 7, 3) := by decide +kernel
theorem dX3_ofTwo_48 : decode cX3_ofTwo 48 = .ok (.iconst 1, 1) := by decide +kernel
theorem dX3_ofTwo_49 : decode cX3_ofTwo 49 = .ok (.goto 4, 3) := by decide +kernel
theorem dX3_ofTwo_52 : decode cX3_ofTwo 52 = .ok (.iconst 0, 1) := by decide +kernel
theorem dX3_ofTwo_53 : decode cX3_ofTwo 53 = .ok (.ireturn, 1) := by decide +kernel
theorem dX3_ofTwo_54 : decode cX3_ofTwo 54 = .ok (.iload_n 1, 1) := by decide +kernel
theorem dX3_ofTwo_55 : decode cX3_ofTwo 55 = .ok (.ifCond .eq 11, 3) := by decide +kernel
theorem dX3_ofTwo_58 : decode cX3_ofTwo 58 = .ok (.iload_n 2, 1) := by decide +kernel
theorem dX3_ofTwo_59 : decode cX3_ofTwo 59 = .ok (.ifCond .eq 7, 3) := by decide +kernel
theorem dX3_ofTwo_62 : decode cX3_ofTwo 62 = .ok (.iconst 1, 1) := by decide +kernel
theorem dX3_ofTwo_63 : decode cX3_ofTwo 63 = .ok (.goto 4, 3) := by decide +kernel
theorem dX3_ofTwo_66 : decode cX3_ofTwo 66 = .ok (.iconst 0, 1) := by decide +kernel
theorem dX3_ofTwo_67 : decode cX3_ofTwo 67 = .ok (.ireturn, 1) := by decide +kernel
theorem dX3_ofTwo_68 : decode cX3_ofTwo 68 = .ok (.iload_n 1, 1) := by decide +kernel
theorem dX3_ofTwo_69 : decode cX3_ofTwo 69 = .ok (.iload_n 2, 1) := by decide +kernel
theorem dX3_ofTwo_70 : decode cX3_ofTwo 70 = .ok (.if_icmp .ge 7, 3) := by decide +kernel
theorem dX3_ofTwo_73 : decode cX3_ofTwo 73 = .ok (.iconst 1, 1) := by decide +kernel
theorem dX3_ofTwo_74 : decode cX3_ofTwo 74 = .ok (.goto 4, 3) := by decide +kernel
theorem dX3_ofTwo_77 : decode cX3_ofTwo 77 = .ok (.iconst 0, 1) := by decide +kernel
theorem dX3_ofTwo_78 : decode cX3_ofTwo 78 = .ok (.ireturn, 1) := by decide +kernel
theorem dX3_ofTwo_79 : decode cX3_ofTwo 79 = .ok (.iload_n 1, 1) := by decide +kernel
theorem dX3_ofTwo_80 : decode cX3_ofTwo 80 = .ok (.iload_n 2, 1) := by decide +kernel
theorem dX3_ofTwo_81 : decode cX3_ofTwo 81 = .ok (.if_icmp .ne 7, 3) := by decide +kernel
theorem dX3_ofTwo_84 : decode cX3_ofTwo 84 = .ok (.iconst 1, 1) := by decide +kernel
theorem dX3_ofTwo_85 : decode cX3_ofTwo 85 = .ok (.goto 4, 3) := by decide +kernel
theorem dX3_ofTwo_88 : decode cX3_ofTwo 88 = .ok (.iconst 0, 1) := by decide +kernel
theorem dX3_ofTwo_89 : decode cX3_ofTwo 89 = .ok (.ireturn, 1) := by decide +kernel
theorem dX3_ofTwo_90 : decode cX3_ofTwo 90 = .ok (.iload_n 1, 1) := by decide +kernel
theorem dX3_ofTwo_91 : decode cX3_ofTwo 91 = .ok (.iload_n 2, 1) := by decide +kernel
theorem dX3_ofTwo_92 : decode cX3_ofTwo 92 = .ok (.iadd, 1) := by decide +kernel
theorem dX3_ofTwo_93 : decode cX3_ofTwo 93 = .ok (.ireturn, 1) := by decide +kernel
theorem dX3_ofTwo_94 : decode cX3_ofTwo 94 = .ok (.iload_n 1, 1) := by decide +kernel
theorem dX3_ofTwo_95 : decode cX3_ofTwo 95 = .ok (.iload_n 2, 1) := by decide +kernel
theorem dX3_ofTwo_96 : decode cX3_ofTwo 96 = .ok (.isub, 1) := by decide +kernel
theorem dX3_ofTwo_97 : decode cX3_ofTwo 97 = .ok (.ireturn, 1) := by decide +kernel
theorem dX3_ofTwo_98 : decode cX3_ofTwo 98 = .ok (.iload_n 1, 1) := by decide +kernel
theorem dX3_ofTwo_99 : decode cX3_ofTwo 99 = .ok (.iload_n 2, 1) := by decide +kernel
theorem dX3_ofTwo_100 : decode cX3_ofTwo 100 = .ok (.imul, 1) := by decide +kernel
theorem dX3_ofTwo_101 : decode cX3_ofTwo 101 = .ok (.ireturn, 1) := by decide +kernel
theorem dX4_init_0 : decode cX4_init 0 = .ok (.aload_n 0, 1) := by decide +kernel
theorem dX4_init_1 : decode cX4_init 1 = .ok (.invokespecial 3, 3) := by decide +kernel
theorem dX4_init_4 : decode cX4_init 4 = .ok (.aload_n 0, 1) := by decide +kernel
theorem dX4_init_5 : decode cX4_init 5 = .ok (.bipush 16, 2) := by decide +kernel
theorem dX4_init_7 : decode cX4_init 7 = .ok (.newarray .int, 2) := by decide +kernel
theorem dX4_init_9 : decode cX4_init 9 = .ok (.putfield 11, 3) := by decide +kernel
theorem dX4_init_12 : decode cX4_init 12 = .ok (.aload_n 0, 1) := by decide +kernel
theorem dX4_init_13 : decode cX4_init 13 = .ok (.bipush 16, 2) := by decide +kernel
theorem dX4_init_15 : decode cX4_init 15 = .ok (.newarray .int, 2) := by decide +kernel
theorem dX4_init_17 : decode cX4_init 17 = .ok (.putfield 15, 3) := by decide +kernel
theorem dX4_init_20 : decode cX4_init 20 = .ok (.aload_n 0, 1) := by decide +kernel
theorem dX4_init_21 : decode cX4_init 21 = .ok (.bipush 16, 2) := by decide +kernel
theorem dX4_init_23 : decode cX4_init 23 = .ok (.newarray .int, 2) := by decide +kernel
theorem dX4_init_25 : decode cX4_init 25 = .ok (.putfield 18, 3) := by decide +kernel
theorem dX4_init_28 : decode cX4_init 28 = .ok (.aload_n 0, 1) := by decide +kernel
theorem dX4_init_29 : decode cX4_init 29 = .ok (.bipush 16, 2) := by decide +kernel
theorem dX4_init_31 : decode cX4_init 31 = .ok (.newarray .int, 2) := by decide +kernel
theorem dX4_init_33 : decode cX4_init 33 = .ok (.putfield 21, 3) := by decide +kernel
theorem dX4_init_36 : decode cX4_init 36 = .ok (.aload_n 0, 1) := by decide +kernel
theorem dX4_init_37 : decode cX4_init 37 = .ok (.bipush 16, 2) := by decide +kernel
theorem dX4_init_39 : decode cX4_init 39 = .ok (.newarray .int, 2) := by decide +kernel
theorem dX4_init_41 : decode cX4_init 41 = .ok (.putfield 24, 3) := by decide +kernel
theorem dX4_init_44 : decode cX4_init 44 = .ok (.return_, 1) := by decide +kernel
theorem dX4_has_0 : decode cX4_has 0 = .ok (.iload_n 1, 1) := by decide +kernel
theorem dX4_has_1 : decode cX4_has 1 = .ok (.ifCond .lt 15, 3) := by decide +kernel
theorem dX4_has_4 : decode cX4_has 4 = .ok (.iload_n 1, 1) := by decide +kernel
theorem dX4_has_5 : decode cX4_has 5 = .ok (.aload_n 0, 1) := by decide +kernel
theorem dX4_has_6 : decode cX4_has 6 = .ok (.getfield 27, 3) := by decide +kernel
theorem dX4_has_9 : decode cX4_has 9 = .ok (.if_icmp .ge 7, 3) := by decide +kernel
theorem dX4_has_12 : decode cX4_has 12 = .ok (.iconst 1, 1) := by decide +kernel
theorem dX4_has_13 : decode cX4_has 13 = .ok (.goto 4, 3) := by decide +kernel
theorem dX4_has_16 : decode cX4_has 16 = .ok (.iconst 0, 1) := by decide +kernel
theorem dX4_has_17 : decode cX4_has 17 = .ok (.ireturn, 1) := by decide +kernel
theorem dX4_hasAll_0 : decode cX4_hasAll 0 = .ok (.iload_n 1, 1) := by decide +kernel
theorem dX4_hasAll_1 : decode cX4_hasAll 1 = .ok (.ifCond .lt 17, 3) := by decide +kernel
theorem dX4_hasAll_4 : decode cX4_hasAll 4 = .ok (.iload_n 1, 1) := by decide +kernel
theorem dX4_hasAll_5 : decode cX4_hasAll 5 = .ok (.iconst 1, 1) := by decide +kernel
theorem dX4_hasAll_6 : decode cX4_hasAll 6 = .ok (.aload_n 0, 1) := by decide +kernel
theorem dX4_hasAll_7 : decode cX4_hasAll 7 = .ok (.getfield 27, 3) := by decide +kernel
theorem dX4_hasAll_10 : decode cX4_hasAll 10 = .ok (.ishl, 1) := by decide +kernel
theorem dX4_hasAll_11 : decode cX4_hasAll 11 = .ok (.if_icmp .ge 7, 3) := by decide +kernel
theorem dX4_hasAll_14 : decode cX4_hasAll 14 = .ok (.iconst 1, 1) := by decide +kernel
theorem dX4_hasAll_15 : decode cX4_hasAll 15 = .ok (.goto 4, 3) := by decide +kernel
theorem dX4_hasAll_18 : decode cX4_hasAll 18 = .ok (.iconst 0, 1) := by decide +kernel
theorem dX4_hasAll_19 : decode cX4_hasAll 19 = .ok (.ireturn, 1) := by decide +kernel
theorem dX4_add_0 : decode cX4_add 0 = .ok (.aload_n 0, 1) := by decide +kernel
theorem dX4_add_1 : decode cX4_add 1 = .ok (.getfield 11, 3) := by decide +kernel
theorem dX4_add_4 : decode cX4_add 4 = .ok (.aload_n 0, 1) := by decide +kernel
theorem dX4_add_5 : decode cX4_add 5 = .ok (.getfield 27, 3) := by decide +kernel
theorem dX4_add_8 : decode cX4_add 8 = .ok (.iload_n 1, 1) := by decide +kernel
theorem dX4_add_9 : decode cX4_add 9 = .ok (.iastore, 1) := by decide +kernel
theorem dX4_add_10 : decode cX4_add 10 = .ok (.aload_n 0, 1) := by decide +kernel
theorem dX4_add_11 : decode cX4_add 11 = .ok (.getfield 15, 3) := by decide +kernel
theorem dX4_add_14 : decode cX4_add 14 = .ok (.aload_n 0, 1) := by decide +kernel
theorem dX4_add_15 : decode cX4_add 15 = .ok (.getfield 27, 3) := by decide +kernel
theorem dX4_add_18 : decode cX4_add 18 = .ok (.iload_n 2, 1) := by decide +kernel
theorem dX4_add_19 : decode cX4_add 19 = .ok (.iastore, 1) := by decide +kernel
theorem dX4_add_20 : decode cX4_add 20 = .ok (.aload_n 0, 1) := by decide +kernel
theorem dX4_add_21 : decode cX4_add 21 = .ok (.getfield 18, 3) := by decide +kernel
theorem dX4_add_24 : decode cX4_add 24 = .ok (.aload_n 0, 1) := by decide +kernel
theorem dX4_add_25 : decode cX4_add 25 = .ok (.getfield 27, 3) := by decide +kernel
theorem dX4_add_28 : decode cX4_add 28 = .ok (.iload_n 3, 1) := by decide +kernel
theorem dX4_add_29 : decode cX4_add 29 = .ok (.iastore, 1) := by decide +kernel
theorem dX4_add_30 : decode cX4_add 30 = .ok (.aload_n 0, 1) := by decide +kernel
theorem dX4_add_31 : decode cX4_add 31 = .ok (.getfield 21, 3) := by decide +kernel
theorem dX4_add_34 : decode cX4_add 34 = .ok (.aload_n 0, 1) := by decide +kernel
theorem dX4_add_35 : decode cX4_add 35 = .ok (.getfield 27, 3) := by decide +kernel
theorem dX4_add_38 : decode cX4_add 38 = .ok (.iload 4, 2) := by decide +kernel
theorem dX4_add_40 : decode cX4_add 40 = .ok (.iastore, 1) := by decide +kernel
theorem dX4_add_41 : decode cX4_add 41 = .ok (.aload_n 0, 1) := by decide +kernel
theorem dX4_add_42 : decode cX4_add 42 = .ok (.getfield 24, 3) := by decide +kernel
theorem dX4_add_45 : decode cX4_add 45 = .ok (.aload_n 0, 1) := by decide +kernel
theorem dX4_add_46 : decode cX4_add 46 = .ok (.getfield 27, 3) := by decide +kernel
theorem dX4_add_49 : decode cX4_add 49 = .ok (.iload 5, 2) := by decide +kernel
theorem dX4_add_51 : decode cX4_add 51 = .ok (.iastore, 1) := by decide +kernel
theorem dX4_add_52 : decode cX4_add 52 = .ok (.aload_n 0, 1) := by decide +kernel
theorem dX4_add_53 : decode cX4_add 53 = .ok (.dup, 1) := by decide +kernel
theorem dX4_add_54 : decode cX4_add 54 = .ok (.getfield 27, 3) := by decide +kernel
theorem dX4_add_57 : decode cX4_add 57 = .ok (.iconst 1, 1) := by decide +kernel
theorem dX4_add_58 : decode cX4_add 58 = .ok (.iadd, 1) := by decide +kernel
theorem dX4_add_59 : decode cX4_add 59 = .ok (.putfield 27, 3) := by decide +kernel
theorem dX4_add_62 : decode cX4_add 62 = .ok (.aload_n 0, 1) := by decide +kernel
theorem dX4_add_63 : decode cX4_add 63 = .ok (.aload_n 0, 1) := by decide +kernel
theorem dX4_add_64 : decode cX4_add 64 = .ok (.aload_n 0, 1) := by decide +kernel
theorem dX4_add_65 : decode cX4_add 65 = .ok (.getfield 31, 3) := by decide +kernel
theorem dX4_add_68 : decode cX4_add 68 = .ok (.invokevirtual 34, 3) := by decide +kernel
theorem dX4_add_71 : decode cX4_add 71 = .ok (.putfield 38, 3) := by decide +kernel
theorem dX4_add_74 : decode cX4_add 74 = .ok (.aload_n 0, 1) := by decide +kernel
theorem dX4_add_75 : decode cX4_add 75 = .ok (.getfield 27, 3) := by decide +kernel
theorem dX4_add_78 : decode cX4_add 78 = .ok (.iconst 1, 1) := by decide +kernel
theorem dX4_add_79 : decode cX4_add 79 = .ok (.isub, 1) := by decide +kernel
theorem dX4_add_80 : decode cX4_add 80 = .ok (.ireturn, 1) := by decide +kernel
theorem dX4_markForged_0 : decode cX4_markForged 0 = .ok (.aload_n 0, 1) := by decide +kernel
theorem dX4_markForged_1 : decode cX4_markForged 1 = .ok (.iload_n 2, 1) := by decide +kernel
theorem dX4_markForged_2 : decode cX4_markForged 2 = .ok (.ifCond .eq 14, 3) := by decide +kernel
theorem dX4_markForged_5 : decode cX4_markForged 5 = .ok (.aload_n 0, 1) := by decide +kernel
theorem dX4_markForged_6 : decode cX4_markForged 6 = .ok (.getfield 31, 3) := by decide +kernel
theorem dX4_markForged_9 : decode cX4_markForged 9 = .ok (.iconst 1, 1) := by decide +kernel
theorem dX4_markForged_10 : decode cX4_markForged 10 = .ok (.iload_n 1, 1) := by decide +kernel
theorem dX4_markForged_11 : decode cX4_markForged 11 = .ok (.ishl, 1) := by decide +kernel
theorem dX4_markForged_12 : decode cX4_markForged 12 = .ok (.ior, 1) := by decide +kernel
theorem dX4_markForged_13 : decode cX4_markForged 13 = .ok (.goto 13, 3) := by decide +kernel
theorem dX4_markForged_16 : decode cX4_markForged 16 = .ok (.aload_n 0, 1) := by decide +kernel
theorem dX4_markForged_17 : decode cX4_markForged 17 = .ok (.getfield 31, 3) := by decide +kernel
theorem dX4_markForged_20 : decode cX4_markForged 20 = .ok (.iconst 1, 1) := by decide +kernel
theorem dX4_markForged_21 : decode cX4_markForged 21 = .ok (.iload_n 1, 1) := by decide +kernel
theorem dX4_markForged_22 : decode cX4_markForged 22 = .ok (.ishl, 1) := by decide +kernel
theorem dX4_markForged_23 : decode cX4_markForged 23 = .ok (.iconst (-1), 1) := by decide +kernel
theorem dX4_markForged_24 : decode cX4_markForged 24 = .ok (.ixor, 1) := by decide +kernel
theorem dX4_markForged_25 : decode cX4_markForged 25 = .ok (.iand, 1) := by decide +kernel
theorem dX4_markForged_26 : decode cX4_markForged 26 = .ok (.putfield 31, 3) := by decide +kernel
theorem dX4_markForged_29 : decode cX4_markForged 29 = .ok (.aload_n 0, 1) := by decide +kernel
theorem dX4_markForged_30 : decode cX4_markForged 30 = .ok (.aload_n 0, 1) := by decide +kernel
theorem dX4_markForged_31 : decode cX4_markForged 31 = .ok (.aload_n 0, 1) := by decide +kernel
theorem dX4_markForged_32 : decode cX4_markForged 32 = .ok (.getfield 31, 3) := by decide +kernel
theorem dX4_markForged_35 : decode cX4_markForged 35 = .ok (.invokevirtual 34, 3) := by decide +kernel
theorem dX4_markForged_38 : decode cX4_markForged 38 = .ok (.putfield 38, 3) := by decide +kernel
theorem dX4_markForged_41 : decode cX4_markForged 41 = .ok (.return_, 1) := by decide +kernel
theorem dX4_standingCount_0 : decode cX4_standingCount 0 = .ok (.aload_n 0, 1) := by decide +kernel
theorem dX4_standingCount_1 : decode cX4_standingCount 1 = .ok (.getfield 38, 3) := by decide +kernel
theorem dX4_standingCount_4 : decode cX4_standingCount 4 = .ok (.invokestatic 41, 3) := by decide +kernel
theorem dX4_standingCount_7 : decode cX4_standingCount 7 = .ok (.ireturn, 1) := by decide +kernel
theorem dX4_fallingWith_0 : decode cX4_fallingWith 0 = .ok (.aload_n 0, 1) := by decide +kernel
theorem dX4_fallingWith_1 : decode cX4_fallingWith 1 = .ok (.getfield 38, 3) := by decide +kernel
theorem dX4_fallingWith_4 : decode cX4_fallingWith 4 = .ok (.aload_n 0, 1) := by decide +kernel
theorem dX4_fallingWith_5 : decode cX4_fallingWith 5 = .ok (.aload_n 0, 1) := by decide +kernel
theorem dX4_fallingWith_6 : decode cX4_fallingWith 6 = .ok (.getfield 31, 3) := by decide +kernel
theorem dX4_fallingWith_9 : decode cX4_fallingWith 9 = .ok (.iconst 1, 1) := by decide +kernel
theorem dX4_fallingWith_10 : decode cX4_fallingWith 10 = .ok (.iload_n 1, 1) := by decide +kernel
theorem dX4_fallingWith_11 : decode cX4_fallingWith 11 = .ok (.ishl, 1) := by decide +kernel
theorem dX4_fallingWith_12 : decode cX4_fallingWith 12 = .ok (.ior, 1) := by decide +kernel
theorem dX4_fallingWith_13 : decode cX4_fallingWith 13 = .ok (.invokevirtual 34, 3) := by decide +kernel
theorem dX4_fallingWith_16 : decode cX4_fallingWith 16 = .ok (.iconst (-1), 1) := by decide +kernel
theorem dX4_fallingWith_17 : decode cX4_fallingWith 17 = .ok (.ixor, 1) := by decide +kernel
theorem dX4_fallingWith_18 : decode cX4_fallingWith 18 = .ok (.iand, 1) := by decide +kernel
theorem dX4_fallingWith_19 : decode cX4_fallingWith 19 = .ok (.ireturn, 1) := by decide +kernel
theorem dX4_standingWithout_0 : decode cX4_standingWithout 0 = .ok (.iconst 0, 1) := by decide +kernel
theorem dX4_standingWithout_1 : decode cX4_standingWithout 1 = .ok (.istore_n 2, 1) := by decide +kernel
theorem dX4_standingWithout_2 : decode cX4_standingWithout 2 = .ok (.iconst 0, 1) := by decide +kernel
theorem dX4_standingWithout_3 : decode cX4_standingWithout 3 = .ok (.istore_n 3, 1) := by decide +kernel
theorem dX4_standingWithout_4 : decode cX4_standingWithout 4 = .ok (.iload_n 3, 1) := by decide +kernel
theorem dX4_standingWithout_5 : decode cX4_standingWithout 5 = .ok (.aload_n 0, 1) := by decide +kernel
theorem dX4_standingWithout_6 : decode cX4_standingWithout 6 = .ok (.getfield 27, 3) := by decide +kernel
theorem dX4_standingWithout_9 : decode cX4_standingWithout 9 = .ok (.if_icmp .ge 36, 3) := by decide +kernel
theorem dX4_standingWithout_12 : decode cX4_standingWithout 12 = .ok (.iload_n 1, 1) := by decide +kernel
theorem dX4_standingWithout_13 : decode cX4_standingWithout 13 = .ok (.iload_n 3, 1) := by decide +kernel
theorem dX4_standingWithout_14 : decode cX4_standingWithout 14 = .ok (.invokestatic 46, 3) := by decide +kernel
theorem dX4_standingWithout_17 : decode cX4_standingWithout 17 = .ok (.ifCond .ne 22, 3) := by decide +kernel
theorem dX4_standingWithout_20 : decode cX4_standingWithout 20 = .ok (.aload_n 0, 1) := by decide +kernel
theorem dX4_standingWithout_21 : decode cX4_standingWithout 21 = .ok (.getfield 24, 3) := by decide +kernel
theorem dX4_standingWithout_24 : decode cX4_standingWithout 24 = .ok (.iload_n 3, 1) := by decide +kernel
theorem dX4_standingWithout_25 : decode cX4_standingWithout 25 = .ok (.iaload, 1) := by decide +kernel
theorem dX4_standingWithout_26 : decode cX4_standingWithout 26 = .ok (.iload_n 2, 1) := by decide +kernel
theorem dX4_standingWithout_27 : decode cX4_standingWithout 27 = .ok (.iconst (-1), 1) := by decide +kernel
theorem dX4_standingWithout_28 : decode cX4_standingWithout 28 = .ok (.ixor, 1) := by decide +kernel
theorem dX4_standingWithout_29 : decode cX4_standingWithout 29 = .ok (.iand, 1) := by decide +kernel
theorem dX4_standingWithout_30 : decode cX4_standingWithout 30 = .ok (.ifCond .ne 9, 3) := by decide +kernel
theorem dX4_standingWithout_33 : decode cX4_standingWithout 33 = .ok (.iload_n 2, 1) := by decide +kernel
theorem dX4_standingWithout_34 : decode cX4_standingWithout 34 = .ok (.iconst 1, 1) := by decide +kernel
theorem dX4_standingWithout_35 : decode cX4_standingWithout 35 = .ok (.iload_n 3, 1) := by decide +kernel
theorem dX4_standingWithout_36 : decode cX4_standingWithout 36 = .ok (.ishl, 1) := by decide +kernel
theorem dX4_standingWithout_37 : decode cX4_standingWithout 37 = .ok (.ior, 1) := by decide +kernel
theorem dX4_standingWithout_38 : decode cX4_standingWithout 38 = .ok (.istore_n 2, 1) := by decide +kernel
theorem dX4_standingWithout_39 : decode cX4_standingWithout 39 = .ok (.iinc 3 1, 3) := by decide +kernel
theorem dX4_standingWithout_42 : decode cX4_standingWithout 42 = .ok (.goto (-38), 3) := by decide +kernel
theorem dX4_standingWithout_45 : decode cX4_standingWithout 45 = .ok (.iload_n 2, 1) := by decide +kernel
theorem dX4_standingWithout_46 : decode cX4_standingWithout 46 = .ok (.ireturn, 1) := by decide +kernel
theorem dX4_allowedLands_0 : decode cX4_allowedLands 0 = .ok (.bipush 31, 2) := by decide +kernel
theorem dX4_allowedLands_2 : decode cX4_allowedLands 2 = .ok (.istore_n 2, 1) := by decide +kernel
theorem dX4_allowedLands_3 : decode cX4_allowedLands 3 = .ok (.iconst 0, 1) := by decide +kernel
theorem dX4_allowedLands_4 : decode cX4_allowedLands 4 = .ok (.istore_n 3, 1) := by decide +kernel
theorem dX4_allowedLands_5 : decode cX4_allowedLands 5 = .ok (.iload_n 3, 1) := by decide +kernel
theorem dX4_allowedLands_6 : decode cX4_allowedLands 6 = .ok (.aload_n 0, 1) := by decide +kernel
theorem dX4_allowedLands_7 : decode cX4_allowedLands 7 = .ok (.getfield 27, 3) := by decide +kernel
theorem dX4_allowedLands_10 : decode cX4_allowedLands 10 = .ok (.if_icmp .ge 29, 3) := by decide +kernel
theorem dX4_allowedLands_13 : decode cX4_allowedLands 13 = .ok (.aload_n 0, 1) := by decide +kernel
theorem dX4_allowedLands_14 : decode cX4_allowedLands 14 = .ok (.getfield 38, 3) := by decide +kernel
theorem dX4_allowedLands_17 : decode cX4_allowedLands 17 = .ok (.iload_n 3, 1) := by decide +kernel
theorem dX4_allowedLands_18 : decode cX4_allowedLands 18 = .ok (.invokestatic 46, 3) := by decide +kernel
theorem dX4_allowedLands_21 : decode cX4_allowedLands 21 = .ok (.ifCond .eq 12, 3) := by decide +kernel
theorem dX4_allowedLands_24 : decode cX4_allowedLands 24 = .ok (.iload_n 2, 1) := by decide +kernel
theorem dX4_allowedLands_25 : decode cX4_allowedLands 25 = .ok (.aload_n 0, 1) := by decide +kernel
theorem dX4_allowedLands_26 : decode cX4_allowedLands 26 = .ok (.iload_n 3, 1) := by decide +kernel
theorem dX4_allowedLands_27 : decode cX4_allowedLands 27 = .ok (.iload_n 1, 1) := by decide +kernel
theorem dX4_allowedLands_28 : decode cX4_allowedLands 28 = .ok (.invokevirtual 50, 3) := by decide +kernel
theorem dX4_allowedLands_31 : decode cX4_allowedLands 31 = .ok (.iand, 1) := by decide +kernel
theorem dX4_allowedLands_32 : decode cX4_allowedLands 32 = .ok (.istore_n 2, 1) := by decide +kernel
theorem dX4_allowedLands_33 : decode cX4_allowedLands 33 = .ok (.iinc 3 1, 3) := by decide +kernel
theorem dX4_allowedLands_36 : decode cX4_allowedLands 36 = .ok (.goto (-31), 3) := by decide +kernel
theorem dX4_allowedLands_39 : decode cX4_allowedLands 39 = .ok (.iload_n 2, 1) := by decide +kernel
theorem dX4_allowedLands_40 : decode cX4_allowedLands 40 = .ok (.ireturn, 1) := by decide +kernel
theorem dX4_landsByPaper_0 : decode cX4_landsByPaper 0 = .ok (.bipush 31, 2) := by decide +kernel
theorem dX4_landsByPaper_2 : decode cX4_landsByPaper 2 = .ok (.istore_n 3, 1) := by decide +kernel
theorem dX4_landsByPaper_3 : decode cX4_landsByPaper 3 = .ok (.aload_n 0, 1) := by decide +kernel
theorem dX4_landsByPaper_4 : decode cX4_landsByPaper 4 = .ok (.getfield 11, 3) := by decide +kernel
theorem dX4_landsByPaper_7 : decode cX4_landsByPaper 7 = .ok (.iload_n 1, 1) := by decide +kernel
theorem dX4_landsByPaper_8 : decode cX4_landsByPaper 8 = .ok (.iaload, 1) := by decide +kernel
theorem dX4_landsByPaper_9 : decode cX4_landsByPaper 9 = .ok (.istore 4, 2) := by decide +kernel
theorem dX4_landsByPaper_11 : decode cX4_landsByPaper 11 = .ok (.iconst 0, 1) := by decide +kernel
theorem dX4_landsByPaper_12 : decode cX4_landsByPaper 12 = .ok (.istore 5, 2) := by decide +kernel
theorem dX4_landsByPaper_14 : decode cX4_landsByPaper 14 = .ok (.iload 5, 2) := by decide +kernel
theorem dX4_landsByPaper_16 : decode cX4_landsByPaper 16 = .ok (.bipush 6, 2) := by decide +kernel
theorem dX4_landsByPaper_18 : decode cX4_landsByPaper 18 = .ok (.if_icmp .ge 53, 3) := by decide +kernel
theorem dX4_landsByPaper_21 : decode cX4_landsByPaper 21 = .ok (.iload 4, 2) := by decide +kernel
theorem dX4_landsByPaper_23 : decode cX4_landsByPaper 23 = .ok (.iconst (-1), 1) := by decide +kernel
theorem dX4_landsByPaper_24 : decode cX4_landsByPaper 24 = .ok (.if_icmp .eq 47, 3) := by decide +kernel
theorem dX4_landsByPaper_27 : decode cX4_landsByPaper 27 = .ok (.iload_n 3, 1) := by decide +kernel
theorem dX4_landsByPaper_28 : decode cX4_landsByPaper 28 = .ok (.aload_n 0, 1) := by decide +kernel
theorem dX4_landsByPaper_29 : decode cX4_landsByPaper 29 = .ok (.iload 4, 2) := by decide +kernel
theorem dX4_landsByPaper_31 : decode cX4_landsByPaper 31 = .ok (.iload_n 1, 1) := by decide +kernel
theorem dX4_landsByPaper_32 : decode cX4_landsByPaper 32 = .ok (.iload_n 2, 1) := by decide +kernel
theorem dX4_landsByPaper_33 : decode cX4_landsByPaper 33 = .ok (.invokevirtual 54, 3) := by decide +kernel
theorem dX4_landsByPaper_36 : decode cX4_landsByPaper 36 = .ok (.iand, 1) := by decide +kernel
theorem dX4_landsByPaper_37 : decode cX4_landsByPaper 37 = .ok (.istore_n 3, 1) := by decide +kernel
theorem dX4_landsByPaper_38 : decode cX4_landsByPaper 38 = .ok (.iload 4, 2) := by decide +kernel
theorem dX4_landsByPaper_40 : decode cX4_landsByPaper 40 = .ok (.iconst 5, 1) := by decide +kernel
theorem dX4_landsByPaper_41 : decode cX4_landsByPaper 41 = .ok (.if_icmp .ne 16, 3) := by decide +kernel
theorem dX4_landsByPaper_44 : decode cX4_landsByPaper 44 = .ok (.iload_n 2, 1) := by decide +kernel
theorem dX4_landsByPaper_45 : decode cX4_landsByPaper 45 = .ok (.aload_n 0, 1) := by decide +kernel
theorem dX4_landsByPaper_46 : decode cX4_landsByPaper 46 = .ok (.getfield 21, 3) := by decide +kernel
theorem dX4_landsByPaper_49 : decode cX4_landsByPaper 49 = .ok (.iload_n 1, 1) := by decide +kernel
theorem dX4_landsByPaper_50 : decode cX4_landsByPaper 50 = .ok (.iaload, 1) := by decide +kernel
theorem dX4_landsByPaper_51 : decode cX4_landsByPaper 51 = .ok (.if_icmp .ne 6, 3) := by decide +kernel
theorem dX4_landsByPaper_54 : decode cX4_landsByPaper 54 = .ok (.goto 17, 3) := by decide +kernel
theorem dX4_landsByPaper_57 : decode cX4_landsByPaper 57 = .ok (.getstatic 58, 3) := by decide +kernel
theorem dX4_landsByPaper_60 : decode cX4_landsByPaper 60 = .ok (.iload 4, 2) := by decide +kernel
theorem dX4_landsByPaper_62 : decode cX4_landsByPaper 62 = .ok (.iaload, 1) := by decide +kernel
theorem dX4_landsByPaper_63 : decode cX4_landsByPaper 63 = .ok (.istore 4, 2) := by decide +kernel
theorem dX4_landsByPaper_65 : decode cX4_landsByPaper 65 = .ok (.iinc 5 1, 3) := by decide +kernel
theorem dX4_landsByPaper_68 : decode cX4_landsByPaper 68 = .ok (.goto (-54), 3) := by decide +kernel
theorem dX4_landsByPaper_71 : decode cX4_landsByPaper 71 = .ok (.iload_n 3, 1) := by decide +kernel
theorem dX4_landsByPaper_72 : decode cX4_landsByPaper 72 = .ok (.ireturn, 1) := by decide +kernel
theorem dX4_landsByKind_0 : decode cX4_landsByKind 0 = .ok (.iload_n 3, 1) := by decide +kernel
theorem dX4_landsByKind_1 : decode cX4_landsByKind 1 = .ok (.aload_n 0, 1) := by decide +kernel
theorem dX4_landsByKind_2 : decode cX4_landsByKind 2 = .ok (.getfield 21, 3) := by decide +kernel
theorem dX4_landsByKind_5 : decode cX4_landsByKind 5 = .ok (.iload_n 2, 1) := by decide +kernel
theorem dX4_landsByKind_6 : decode cX4_landsByKind 6 = .ok (.iaload, 1) := by decide +kernel
theorem dX4_landsByKind_7 : decode cX4_landsByKind 7 = .ok (.isub, 1) := by decide +kernel
theorem dX4_landsByKind_8 : decode cX4_landsByKind 8 = .ok (.istore 4, 2) := by decide +kernel
theorem dX4_landsByKind_10 : decode cX4_landsByKind 10 = .ok (.iconst 1, 1) := by decide +kernel
theorem dX4_landsByKind_11 : decode cX4_landsByKind 11 = .ok (.aload_n 0, 1) := by decide +kernel
theorem dX4_landsByKind_12 : decode cX4_landsByKind 12 = .ok (.getfield 15, 3) := by decide +kernel
theorem dX4_landsByKind_15 : decode cX4_landsByKind 15 = .ok (.iload_n 2, 1) := by decide +kernel
theorem dX4_landsByKind_16 : decode cX4_landsByKind 16 = .ok (.iaload, 1) := by decide +kernel
theorem dX4_landsByKind_17 : decode cX4_landsByKind 17 = .ok (.ishl, 1) := by decide +kernel
theorem dX4_landsByKind_18 : decode cX4_landsByKind 18 = .ok (.istore 5, 2) := by decide +kernel
theorem dX4_landsByKind_20 : decode cX4_landsByKind 20 = .ok (.iconst 1, 1) := by decide +kernel
theorem dX4_landsByKind_21 : decode cX4_landsByKind 21 = .ok (.aload_n 0, 1) := by decide +kernel
theorem dX4_landsByKind_22 : decode cX4_landsByKind 22 = .ok (.getfield 18, 3) := by decide +kernel
theorem dX4_landsByKind_25 : decode cX4_landsByKind 25 = .ok (.iload_n 2, 1) := by decide +kernel
theorem dX4_landsByKind_26 : decode cX4_landsByKind 26 = .ok (.iaload, 1) := by decide +kernel
theorem dX4_landsByKind_27 : decode cX4_landsByKind 27 = .ok (.ishl, 1) := by decide +kernel
theorem dX4_landsByKind_28 : decode cX4_landsByKind 28 = .ok (.istore 6, 2) := by decide +kernel
theorem dX4_landsByKind_30 : decode cX4_landsByKind 30 = .ok (.iload_n 1, 1) := by decide +kernel
theorem dX4_landsByKind_31 : decode cX4_landsByKind 31 = .ok (.tableswitch 141 0 5 #[37, 50, 67, 85, 103, 123], 37) := by decide +kernel
theorem dX4_landsByKind_68 : decode cX4_landsByKind 68 = .ok (.iload 4, 2) := by decide +kernel
theorem dX4_landsByKind_70 : decode cX4_landsByKind 70 = .ok (.ifCond .ne 8, 3) := by decide +kernel
theorem dX4_landsByKind_73 : decode cX4_landsByKind 73 = .ok (.iload 5, 2) := by decide +kernel
theorem dX4_landsByKind_75 : decode cX4_landsByKind 75 = .ok (.goto 5, 3) := by decide +kernel
theorem dX4_landsByKind_78 : decode cX4_landsByKind 78 = .ok (.bipush 31, 2) := by decide +kernel
theorem dX4_landsByKind_80 : decode cX4_landsByKind 80 = .ok (.ireturn, 1) := by decide +kernel
theorem dX4_landsByKind_81 : decode cX4_landsByKind 81 = .ok (.iload 4, 2) := by decide +kernel
theorem dX4_landsByKind_83 : decode cX4_landsByKind 83 = .ok (.iconst 1, 1) := by decide +kernel
theorem dX4_landsByKind_84 : decode cX4_landsByKind 84 = .ok (.if_icmp .ne 11, 3) := by decide +kernel
theorem dX4_landsByKind_87 : decode cX4_landsByKind 87 = .ok (.iload 5, 2) := by decide +kernel
theorem dX4_landsByKind_89 : decode cX4_landsByKind 89 = .ok (.iload 6, 2) := by decide +kernel
theorem dX4_landsByKind_91 : decode cX4_landsByKind 91 = .ok (.ior, 1) := by decide +kernel
theorem dX4_landsByKind_92 : decode cX4_landsByKind 92 = .ok (.goto 5, 3) := by decide +kernel
theorem dX4_landsByKind_95 : decode cX4_landsByKind 95 = .ok (.bipush 31, 2) := by decide +kernel
theorem dX4_landsByKind_97 : decode cX4_landsByKind 97 = .ok (.ireturn, 1) := by decide +kernel
theorem dX4_landsByKind_98 : decode cX4_landsByKind 98 = .ok (.iload 4, 2) := by decide +kernel
theorem dX4_landsByKind_100 : decode cX4_landsByKind 100 = .ok (.ifCond .ge 13, 3) := by decide +kernel
theorem dX4_landsByKind_103 : decode cX4_landsByKind 103 = .ok (.bipush 31, 2) := by decide +kernel
theorem dX4_landsByKind_105 : decode cX4_landsByKind 105 = .ok (.iload 5, 2) := by decide +kernel
theorem dX4_landsByKind_107 : decode cX4_landsByKind 107 = .ok (.iconst (-1), 1) := by decide +kernel
theorem dX4_landsByKind_108 : decode cX4_landsByKind 108 = .ok (.ixor, 1) := by decide +kernel
theorem dX4_landsByKind_109 : decode cX4_landsByKind 109 = .ok (.iand, 1) := by decide +kernel
theorem dX4_landsByKind_110 : decode cX4_landsByKind 110 = .ok (.goto 5, 3) := by decide +kernel
theorem dX4_landsByKind_113 : decode cX4_landsByKind 113 = .ok (.bipush 31, 2) := by decide +kernel
theorem dX4_landsByKind_115 : decode cX4_landsByKind 115 = .ok (.ireturn, 1) := by decide +kernel
theorem dX4_landsByKind_116 : decode cX4_landsByKind 116 = .ok (.iload 4, 2) := by decide +kernel
theorem dX4_landsByKind_118 : decode cX4_landsByKind 118 = .ok (.ifCond .ge 13, 3) := by decide +kernel
theorem dX4_landsByKind_121 : decode cX4_landsByKind 121 = .ok (.bipush 31, 2) := by decide +kernel
theorem dX4_landsByKind_123 : decode cX4_landsByKind 123 = .ok (.iload 6, 2) := by decide +kernel
theorem dX4_landsByKind_125 : decode cX4_landsByKind 125 = .ok (.iconst (-1), 1) := by decide +kernel
theorem dX4_landsByKind_126 : decode cX4_landsByKind 126 = .ok (.ixor, 1) := by decide +kernel
theorem dX4_landsByKind_127 : decode cX4_landsByKind 127 = .ok (.iand, 1) := by decide +kernel
theorem dX4_landsByKind_128 : decode cX4_landsByKind 128 = .ok (.goto 5, 3) := by decide +kernel
theorem dX4_landsByKind_131 : decode cX4_landsByKind 131 = .ok (.bipush 31, 2) := by decide +kernel
theorem dX4_landsByKind_133 : decode cX4_landsByKind 133 = .ok (.ireturn, 1) := by decide +kernel
theorem dX4_landsByKind_134 : decode cX4_landsByKind 134 = .ok (.iload 4, 2) := by decide +kernel
theorem dX4_landsByKind_136 : decode cX4_landsByKind 136 = .ok (.iconst 1, 1) := by decide +kernel
theorem dX4_landsByKind_137 : decode cX4_landsByKind 137 = .ok (.if_icmp .eq 9, 3) := by decide +kernel
theorem dX4_landsByKind_140 : decode cX4_landsByKind 140 = .ok (.iload 4, 2) := by decide +kernel
theorem dX4_landsByKind_142 : decode cX4_landsByKind 142 = .ok (.iconst 2, 1) := by decide +kernel
theorem dX4_landsByKind_143 : decode cX4_landsByKind 143 = .ok (.if_icmp .ne 8, 3) := by decide +kernel
theorem dX4_landsByKind_146 : decode cX4_landsByKind 146 = .ok (.iload 5, 2) := by decide +kernel
theorem dX4_landsByKind_148 : decode cX4_landsByKind 148 = .ok (.goto 5, 3) := by decide +kernel
theorem dX4_landsByKind_151 : decode cX4_landsByKind 151 = .ok (.bipush 31, 2) := by decide +kernel
theorem dX4_landsByKind_153 : decode cX4_landsByKind 153 = .ok (.ireturn, 1) := by decide +kernel
theorem dX4_landsByKind_154 : decode cX4_landsByKind 154 = .ok (.iload 4, 2) := by decide +kernel
theorem dX4_landsByKind_156 : decode cX4_landsByKind 156 = .ok (.ifCond .ne 13, 3) := by decide +kernel
theorem dX4_landsByKind_159 : decode cX4_landsByKind 159 = .ok (.bipush 31, 2) := by decide +kernel
theorem dX4_landsByKind_161 : decode cX4_landsByKind 161 = .ok (.iload 5, 2) := by decide +kernel
theorem dX4_landsByKind_163 : decode cX4_landsByKind 163 = .ok (.iconst (-1), 1) := by decide +kernel
theorem dX4_landsByKind_164 : decode cX4_landsByKind 164 = .ok (.ixor, 1) := by decide +kernel
theorem dX4_landsByKind_165 : decode cX4_landsByKind 165 = .ok (.iand, 1) := by decide +kernel
theorem dX4_landsByKind_166 : decode cX4_landsByKind 166 = .ok (.goto 5, 3) := by decide +kernel
theorem dX4_landsByKind_169 : decode cX4_landsByKind 169 = .ok (.bipush 31, 2) := by decide +kernel
theorem dX4_landsByKind_171 : decode cX4_landsByKind 171 = .ok (.ireturn, 1) := by decide +kernel
theorem dX4_landsByKind_172 : decode cX4_landsByKind 172 = .ok (.bipush 31, 2) := by decide +kernel
theorem dX4_landsByKind_174 : decode cX4_landsByKind 174 = .ok (.ireturn, 1) := by decide +kernel
theorem dX4_isUnder_0 : decode cX4_isUnder 0 = .ok (.iload_n 0, 1) := by decide +kernel
theorem dX4_isUnder_1 : decode cX4_isUnder 1 = .ok (.istore_n 2, 1) := by decide +kernel
theorem dX4_isUnder_2 : decode cX4_isUnder 2 = .ok (.iconst 0, 1) := by decide +kernel
theorem dX4_isUnder_3 : decode cX4_isUnder 3 = .ok (.istore_n 3, 1) := by decide +kernel
theorem dX4_isUnder_4 : decode cX4_isUnder 4 = .ok (.iload_n 3, 1) := by decide +kernel
theorem dX4_isUnder_5 : decode cX4_isUnder 5 = .ok (.bipush 6, 2) := by decide +kernel
theorem dX4_isUnder_7 : decode cX4_isUnder 7 = .ok (.if_icmp .ge 27, 3) := by decide +kernel
theorem dX4_isUnder_10 : decode cX4_isUnder 10 = .ok (.iload_n 2, 1) := by decide +kernel
theorem dX4_isUnder_11 : decode cX4_isUnder 11 = .ok (.iconst (-1), 1) := by decide +kernel
theorem dX4_isUnder_12 : decode cX4_isUnder 12 = .ok (.if_icmp .eq 22, 3) := by decide +kernel
theorem dX4_isUnder_15 : decode cX4_isUnder 15 = .ok (.iload_n 2, 1) := by decide +kernel
theorem dX4_isUnder_16 : decode cX4_isUnder 16 = .ok (.iload_n 1, 1) := by decide +kernel
theorem dX4_isUnder_17 : decode cX4_isUnder 17 = .ok (.if_icmp .ne 5, 3) := by decide +kernel
theorem dX4_isUnder_20 : decode cX4_isUnder 20 = .ok (.iconst 1, 1) := by decide +kernel
theorem dX4_isUnder_21 : decode cX4_isUnder 21 = .ok (.ireturn, 1) := by decide +kernel
theorem dX4_isUnder_22 : decode cX4_isUnder 22 = .ok (.getstatic 58, 3) := by decide +kernel
theorem dX4_isUnder_25 : decode cX4_isUnder 25 = .ok (.iload_n 2, 1) := by decide +kernel
theorem dX4_isUnder_26 : decode cX4_isUnder 26 = .ok (.iaload, 1) := by decide +kernel
theorem dX4_isUnder_27 : decode cX4_isUnder 27 = .ok (.istore_n 2, 1) := by decide +kernel
theorem dX4_isUnder_28 : decode cX4_isUnder 28 = .ok (.iinc 3 1, 3) := by decide +kernel
theorem dX4_isUnder_31 : decode cX4_isUnder 31 = .ok (.goto (-27), 3) := by decide +kernel
theorem dX4_isUnder_34 : decode cX4_isUnder 34 = .ok (.iconst 0, 1) := by decide +kernel
theorem dX4_isUnder_35 : decode cX4_isUnder 35 = .ok (.ireturn, 1) := by decide +kernel
theorem dX5_init_0 : decode cX5_init 0 = .ok (.aload_n 0, 1) := by decide +kernel
theorem dX5_init_1 : decode cX5_init 1 = .ok (.invokespecial 1, 3) := by decide +kernel
theorem dX5_init_4 : decode cX5_init 4 = .ok (.aload_n 0, 1) := by decide +kernel
theorem dX5_init_5 : decode cX5_init 5 = .ok (.sipush 160, 3) := by decide +kernel
theorem dX5_init_8 : decode cX5_init 8 = .ok (.newarray .byte, 2) := by decide +kernel
theorem dX5_init_10 : decode cX5_init 10 = .ok (.putfield 9, 3) := by decide +kernel
theorem dX5_init_13 : decode cX5_init 13 = .ok (.aload_n 0, 1) := by decide +kernel
theorem dX5_init_14 : decode cX5_init 14 = .ok (.sipush 160, 3) := by decide +kernel
theorem dX5_init_17 : decode cX5_init 17 = .ok (.newarray .int, 2) := by decide +kernel
theorem dX5_init_19 : decode cX5_init 19 = .ok (.putfield 13, 3) := by decide +kernel
theorem dX5_init_22 : decode cX5_init 22 = .ok (.return_, 1) := by decide +kernel
theorem dX5_take_0 : decode cX5_take 0 = .ok (.iconst 0, 1) := by decide +kernel
theorem dX5_take_1 : decode cX5_take 1 = .ok (.istore 4, 2) := by decide +kernel
theorem dX5_take_3 : decode cX5_take 3 = .ok (.iload 4, 2) := by decide +kernel
theorem dX5_take_5 : decode cX5_take 5 = .ok (.iload_n 1, 1) := by decide +kernel
theorem dX5_take_6 : decode cX5_take 6 = .ok (.if_icmp .ge 30, 3) := by decide +kernel
theorem dX5_take_9 : decode cX5_take 9 = .ok (.aload_n 0, 1) := by decide +kernel
theorem dX5_take_10 : decode cX5_take 10 = .ok (.getfield 9, 3) := by decide +kernel
theorem dX5_take_13 : decode cX5_take 13 = .ok (.aload_n 0, 1) := by decide +kernel
theorem dX5_take_14 : decode cX5_take 14 = .ok (.getfield 17, 3) := by decide +kernel
theorem dX5_take_17 : decode cX5_take 17 = .ok (.iload 4, 2) := by decide +kernel
theorem dX5_take_19 : decode cX5_take 19 = .ok (.iadd, 1) := by decide +kernel
theorem dX5_take_20 : decode cX5_take 20 = .ok (.lload_n 2, 1) := by decide +kernel
theorem dX5_take_21 : decode cX5_take 21 = .ok (.bipush 8, 2) := by decide +kernel
theorem dX5_take_23 : decode cX5_take 23 = .ok (.iload 4, 2) := by decide +kernel
theorem dX5_take_25 : decode cX5_take 25 = .ok (.imul, 1) := by decide +kernel
theorem dX5_take_26 : decode cX5_take 26 = .ok (.lshr, 1) := by decide +kernel
theorem dX5_take_27 : decode cX5_take 27 = .ok (.l2i, 1) := by decide +kernel
theorem dX5_take_28 : decode cX5_take 28 = .ok (.i2b, 1) := by decide +kernel
theorem dX5_take_29 : decode cX5_take 29 = .ok (.bastore, 1) := by decide +kernel
theorem dX5_take_30 : decode cX5_take 30 = .ok (.iinc 4 1, 3) := by decide +kernel
theorem dX5_take_33 : decode cX5_take 33 = .ok (.goto (-30), 3) := by decide +kernel
theorem dX5_take_36 : decode cX5_take 36 = .ok (.aload_n 0, 1) := by decide +kernel
theorem dX5_take_37 : decode cX5_take 37 = .ok (.dup, 1) := by decide +kernel
theorem dX5_take_38 : decode cX5_take 38 = .ok (.getfield 17, 3) := by decide +kernel
theorem dX5_take_41 : decode cX5_take 41 = .ok (.iload_n 1, 1) := by decide +kernel
theorem dX5_take_42 : decode cX5_take 42 = .ok (.iadd, 1) := by decide +kernel
theorem dX5_take_43 : decode cX5_take 43 = .ok (.putfield 17, 3) := by decide +kernel
theorem dX5_take_46 : decode cX5_take 46 = .ok (.aload_n 0, 1) := by decide +kernel
theorem dX5_take_47 : decode cX5_take 47 = .ok (.getfield 17, 3) := by decide +kernel
theorem dX5_take_50 : decode cX5_take 50 = .ok (.ireturn, 1) := by decide +kernel
theorem dX5_codeRead_0 : decode cX5_codeRead 0 = .ok (.aload_n 0, 1) := by decide +kernel
theorem dX5_codeRead_1 : decode cX5_codeRead 1 = .ok (.getfield 13, 3) := by decide +kernel
theorem dX5_codeRead_4 : decode cX5_codeRead 4 = .ok (.aload_n 0, 1) := by decide +kernel
theorem dX5_codeRead_5 : decode cX5_codeRead 5 = .ok (.getfield 21, 3) := by decide +kernel
theorem dX5_codeRead_8 : decode cX5_codeRead 8 = .ok (.invokestatic 24, 3) := by decide +kernel
theorem dX5_codeRead_11 : decode cX5_codeRead 11 = .ok (.areturn, 1) := by decide +kernel
theorem dX5_readText_0 : decode cX5_readText 0 = .ok (.aload_n 0, 1) := by decide +kernel
theorem dX5_readText_1 : decode cX5_readText 1 = .ok (.iconst 0, 1) := by decide +kernel
theorem dX5_readText_2 : decode cX5_readText 2 = .ok (.putfield 21, 3) := by decide +kernel
theorem dX5_readText_5 : decode cX5_readText 5 = .ok (.aload_n 0, 1) := by decide +kernel
theorem dX5_readText_6 : decode cX5_readText 6 = .ok (.iconst 0, 1) := by decide +kernel
theorem dX5_readText_7 : decode cX5_readText 7 = .ok (.putfield 30, 3) := by decide +kernel
theorem dX5_readText_10 : decode cX5_readText 10 = .ok (.aload_n 0, 1) := by decide +kernel
theorem dX5_readText_11 : decode cX5_readText 11 = .ok (.iconst 0, 1) := by decide +kernel
theorem dX5_readText_12 : decode cX5_readText 12 = .ok (.putfield 33, 3) := by decide +kernel
theorem dX5_readText_15 : decode cX5_readText 15 = .ok (.aload_n 0, 1) := by decide +kernel
theorem dX5_readText_16 : decode cX5_readText 16 = .ok (.invokevirtual 36, 3) := by decide +kernel
theorem dX5_readText_19 : decode cX5_readText 19 = .ok (.aload_n 0, 1) := by decide +kernel
theorem dX5_readText_20 : decode cX5_readText 20 = .ok (.iconst 3, 1) := by decide +kernel
theorem dX5_readText_21 : decode cX5_readText 21 = .ok (.invokevirtual 39, 3) := by decide +kernel
theorem dX5_readText_24 : decode cX5_readText 24 = .ok (.ifCond .ne 8, 3) := by decide +kernel
theorem dX5_readText_27 : decode cX5_readText 27 = .ok (.aload_n 0, 1) := by decide +kernel
theorem dX5_readText_28 : decode cX5_readText 28 = .ok (.getfield 43, 3) := by decide +kernel
theorem dX5_readText_31 : decode cX5_readText 31 = .ok (.ireturn, 1) := by decide +kernel
theorem dX5_readText_32 : decode cX5_readText 32 = .ok (.aload_n 0, 1) := by decide +kernel
theorem dX5_readText_33 : decode cX5_readText 33 = .ok (.aload_n 0, 1) := by decide +kernel
theorem dX5_readText_34 : decode cX5_readText 34 = .ok (.getfield 21, 3) := by decide +kernel
theorem dX5_readText_37 : decode cX5_readText 37 = .ok (.putfield 30, 3) := by decide +kernel
theorem dX5_readText_40 : decode cX5_readText 40 = .ok (.aload_n 0, 1) := by decide +kernel
theorem dX5_readText_41 : decode cX5_readText 41 = .ok (.iconst 4, 1) := by decide +kernel
theorem dX5_readText_42 : decode cX5_readText 42 = .ok (.invokevirtual 39, 3) := by decide +kernel
theorem dX5_readText_45 : decode cX5_readText 45 = .ok (.ifCond .eq 10, 3) := by decide +kernel
theorem dX5_readText_48 : decode cX5_readText 48 = .ok (.aload_n 0, 1) := by decide +kernel
theorem dX5_readText_49 : decode cX5_readText 49 = .ok (.getfield 46, 3) := by decide +kernel
theorem dX5_readText_52 : decode cX5_readText 52 = .ok (.ifCond .eq 8, 3) := by decide +kernel
theorem dX5_readText_55 : decode cX5_readText 55 = .ok (.aload_n 0, 1) := by decide +kernel
theorem dX5_readText_56 : decode cX5_readText 56 = .ok (.getfield 43, 3) := by decide +kernel
theorem dX5_readText_59 : decode cX5_readText 59 = .ok (.ireturn, 1) := by decide +kernel
theorem dX5_readText_60 : decode cX5_readText 60 = .ok (.iconst (-1), 1) := by decide +kernel
theorem dX5_readText_61 : decode cX5_readText 61 = .ok (.ireturn, 1) := by decide +kernel
theorem dX5_readPart_0 : decode cX5_readPart 0 = .ok (.aload_n 0, 1) := by decide +kernel
theorem dX5_readPart_1 : decode cX5_readPart 1 = .ok (.iload_n 1, 1) := by decide +kernel
theorem dX5_readPart_2 : decode cX5_readPart 2 = .ok (.invokevirtual 49, 3) := by decide +kernel
theorem dX5_readPart_5 : decode cX5_readPart 5 = .ok (.ifCond .eq 24, 3) := by decide +kernel
theorem dX5_readPart_8 : decode cX5_readPart 8 = .ok (.aload_n 0, 1) := by decide +kernel
theorem dX5_readPart_9 : decode cX5_readPart 9 = .ok (.iconst 0, 1) := by decide +kernel
theorem dX5_readPart_10 : decode cX5_readPart 10 = .ok (.invokevirtual 52, 3) := by decide +kernel
theorem dX5_readPart_13 : decode cX5_readPart 13 = .ok (.ifCond .eq 16, 3) := by decide +kernel
theorem dX5_readPart_16 : decode cX5_readPart 16 = .ok (.aload_n 0, 1) := by decide +kernel
theorem dX5_readPart_17 : decode cX5_readPart 17 = .ok (.bipush 59, 2) := by decide +kernel
theorem dX5_readPart_19 : decode cX5_readPart 19 = .ok (.invokevirtual 49, 3) := by decide +kernel
theorem dX5_readPart_22 : decode cX5_readPart 22 = .ok (.ifCond .eq 7, 3) := by decide +kernel
theorem dX5_readPart_25 : decode cX5_readPart 25 = .ok (.iconst 1, 1) := by decide +kernel
theorem dX5_readPart_26 : decode cX5_readPart 26 = .ok (.goto 4, 3) := by decide +kernel
theorem dX5_readPart_29 : decode cX5_readPart 29 = .ok (.iconst 0, 1) := by decide +kernel
theorem dX5_readPart_30 : decode cX5_readPart 30 = .ok (.ireturn, 1) := by decide +kernel
theorem dX5_readOr_0 : decode cX5_readOr 0 = .ok (.aload_n 0, 1) := by decide +kernel
theorem dX5_readOr_1 : decode cX5_readOr 1 = .ok (.iload_n 1, 1) := by decide +kernel
theorem dX5_readOr_2 : decode cX5_readOr 2 = .ok (.invokevirtual 55, 3) := by decide +kernel
theorem dX5_readOr_5 : decode cX5_readOr 5 = .ok (.ifCond .ne 5, 3) := by decide +kernel
theorem dX5_readOr_8 : decode cX5_readOr 8 = .ok (.iconst 0, 1) := by decide +kernel
theorem dX5_readOr_9 : decode cX5_readOr 9 = .ok (.ireturn, 1) := by decide +kernel
theorem dX5_readOr_10 : decode cX5_readOr 10 = .ok (.iconst 0, 1) := by decide +kernel
theorem dX5_readOr_11 : decode cX5_readOr 11 = .ok (.istore_n 2, 1) := by decide +kernel
theorem dX5_readOr_12 : decode cX5_readOr 12 = .ok (.iload_n 2, 1) := by decide +kernel
theorem dX5_readOr_13 : decode cX5_readOr 13 = .ok (.sipush 160, 3) := by decide +kernel
theorem dX5_readOr_16 : decode cX5_readOr 16 = .ok (.if_icmp .ge 39, 3) := by decide +kernel
theorem dX5_readOr_19 : decode cX5_readOr 19 = .ok (.aload_n 0, 1) := by decide +kernel
theorem dX5_readOr_20 : decode cX5_readOr 20 = .ok (.getfield 46, 3) := by decide +kernel
theorem dX5_readOr_23 : decode cX5_readOr 23 = .ok (.bipush (-9), 2) := by decide +kernel
theorem dX5_readOr_25 : decode cX5_readOr 25 = .ok (.if_icmp .ne 30, 3) := by decide +kernel
theorem dX5_readOr_28 : decode cX5_readOr 28 = .ok (.aload_n 0, 1) := by decide +kernel
theorem dX5_readOr_29 : decode cX5_readOr 29 = .ok (.invokevirtual 36, 3) := by decide +kernel
theorem dX5_readOr_32 : decode cX5_readOr 32 = .ok (.aload_n 0, 1) := by decide +kernel
theorem dX5_readOr_33 : decode cX5_readOr 33 = .ok (.iload_n 1, 1) := by decide +kernel
theorem dX5_readOr_34 : decode cX5_readOr 34 = .ok (.invokevirtual 55, 3) := by decide +kernel
theorem dX5_readOr_37 : decode cX5_readOr 37 = .ok (.ifCond .ne 5, 3) := by decide +kernel
theorem dX5_readOr_40 : decode cX5_readOr 40 = .ok (.iconst 0, 1) := by decide +kernel
theorem dX5_readOr_41 : decode cX5_readOr 41 = .ok (.ireturn, 1) := by decide +kernel
theorem dX5_readOr_42 : decode cX5_readOr 42 = .ok (.aload_n 0, 1) := by decide +kernel
theorem dX5_readOr_43 : decode cX5_readOr 43 = .ok (.bipush (-9), 2) := by decide +kernel
theorem dX5_readOr_45 : decode cX5_readOr 45 = .ok (.invokevirtual 58, 3) := by decide +kernel
theorem dX5_readOr_48 : decode cX5_readOr 48 = .ok (.pop, 1) := by decide +kernel
theorem dX5_readOr_49 : decode cX5_readOr 49 = .ok (.iinc 2 1, 3) := by decide +kernel
theorem dX5_readOr_52 : decode cX5_readOr 52 = .ok (.goto (-40), 3) := by decide +kernel
theorem dX5_readOr_55 : decode cX5_readOr 55 = .ok (.iconst 1, 1) := by decide +kernel
theorem dX5_readOr_56 : decode cX5_readOr 56 = .ok (.ireturn, 1) := by decide +kernel
theorem dX5_readAnd_0 : decode cX5_readAnd 0 = .ok (.aload_n 0, 1) := by decide +kernel
theorem dX5_readAnd_1 : decode cX5_readAnd 1 = .ok (.iload_n 1, 1) := by decide +kernel
theorem dX5_readAnd_2 : decode cX5_readAnd 2 = .ok (.invokevirtual 61, 3) := by decide +kernel
theorem dX5_readAnd_5 : decode cX5_readAnd 5 = .ok (.ifCond .ne 5, 3) := by decide +kernel
theorem dX5_readAnd_8 : decode cX5_readAnd 8 = .ok (.iconst 0, 1) := by decide +kernel
theorem dX5_readAnd_9 : decode cX5_readAnd 9 = .ok (.ireturn, 1) := by decide +kernel
theorem dX5_readAnd_10 : decode cX5_readAnd 10 = .ok (.iconst 0, 1) := by decide +kernel
theorem dX5_readAnd_11 : decode cX5_readAnd 11 = .ok (.istore_n 2, 1) := by decide +kernel
theorem dX5_readAnd_12 : decode cX5_readAnd 12 = .ok (.iload_n 2, 1) := by decide +kernel
theorem dX5_readAnd_13 : decode cX5_readAnd 13 = .ok (.sipush 160, 3) := by decide +kernel
theorem dX5_readAnd_16 : decode cX5_readAnd 16 = .ok (.if_icmp .ge 39, 3) := by decide +kernel
theorem dX5_readAnd_19 : decode cX5_readAnd 19 = .ok (.aload_n 0, 1) := by decide +kernel
theorem dX5_readAnd_20 : decode cX5_readAnd 20 = .ok (.getfield 46, 3) := by decide +kernel
theorem dX5_readAnd_23 : decode cX5_readAnd 23 = .ok (.bipush (-10), 2) := by decide +kernel
theorem dX5_readAnd_25 : decode cX5_readAnd 25 = .ok (.if_icmp .ne 30, 3) := by decide +kernel
theorem dX5_readAnd_28 : decode cX5_readAnd 28 = .ok (.aload_n 0, 1) := by decide +kernel
theorem dX5_readAnd_29 : decode cX5_readAnd 29 = .ok (.invokevirtual 36, 3) := by decide +kernel
theorem dX5_readAnd_32 : decode cX5_readAnd 32 = .ok (.aload_n 0, 1) := by decide +kernel
theorem dX5_readAnd_33 : decode cX5_readAnd 33 = .ok (.iload_n 1, 1) := by decide +kernel
theorem dX5_readAnd_34 : decode cX5_readAnd 34 = .ok (.invokevirtual 61, 3) := by decide +kernel
theorem dX5_readAnd_37 : decode cX5_readAnd 37 = .ok (.ifCond .ne 5, 3) := by decide +kernel
theorem dX5_readAnd_40 : decode cX5_readAnd 40 = .ok (.iconst 0, 1) := by decide +kernel
theorem dX5_readAnd_41 : decode cX5_readAnd 41 = .ok (.ireturn, 1) := by decide +kernel
theorem dX5_readAnd_42 : decode cX5_readAnd 42 = .ok (.aload_n 0, 1) := by decide +kernel
theorem dX5_readAnd_43 : decode cX5_readAnd 43 = .ok (.bipush (-10), 2) := by decide +kernel
theorem dX5_readAnd_45 : decode cX5_readAnd 45 = .ok (.invokevirtual 58, 3) := by decide +kernel
theorem dX5_readAnd_48 : decode cX5_readAnd 48 = .ok (.pop, 1) := by decide +kernel
theorem dX5_readAnd_49 : decode cX5_readAnd 49 = .ok (.iinc 2 1, 3) := by decide +kernel
theorem dX5_readAnd_52 : decode cX5_readAnd 52 = .ok (.goto (-40), 3) := by decide +kernel
theorem dX5_readAnd_55 : decode cX5_readAnd 55 = .ok (.iconst 1, 1) := by decide +kernel
theorem dX5_readAnd_56 : decode cX5_readAnd 56 = .ok (.ireturn, 1) := by decide +kernel
theorem dX5_readNot_0 : decode cX5_readNot 0 = .ok (.aload_n 0, 1) := by decide +kernel
theorem dX5_readNot_1 : decode cX5_readNot 1 = .ok (.getfield 46, 3) := by decide +kernel
theorem dX5_readNot_4 : decode cX5_readNot 4 = .ok (.bipush (-8), 2) := by decide +kernel
theorem dX5_readNot_6 : decode cX5_readNot 6 = .ok (.if_icmp .ne 39, 3) := by decide +kernel
theorem dX5_readNot_9 : decode cX5_readNot 9 = .ok (.iload_n 1, 1) := by decide +kernel
theorem dX5_readNot_10 : decode cX5_readNot 10 = .ok (.iconst 5, 1) := by decide +kernel
theorem dX5_readNot_11 : decode cX5_readNot 11 = .ok (.if_icmp .lt 5, 3) := by decide +kernel
theorem dX5_readNot_14 : decode cX5_readNot 14 = .ok (.iconst 0, 1) := by decide +kernel
theorem dX5_readNot_15 : decode cX5_readNot 15 = .ok (.ireturn, 1) := by decide +kernel
theorem dX5_readNot_16 : decode cX5_readNot 16 = .ok (.aload_n 0, 1) := by decide +kernel
theorem dX5_readNot_17 : decode cX5_readNot 17 = .ok (.invokevirtual 36, 3) := by decide +kernel
theorem dX5_readNot_20 : decode cX5_readNot 20 = .ok (.aload_n 0, 1) := by decide +kernel
theorem dX5_readNot_21 : decode cX5_readNot 21 = .ok (.iload_n 1, 1) := by decide +kernel
theorem dX5_readNot_22 : decode cX5_readNot 22 = .ok (.iconst 1, 1) := by decide +kernel
theorem dX5_readNot_23 : decode cX5_readNot 23 = .ok (.iadd, 1) := by decide +kernel
theorem dX5_readNot_24 : decode cX5_readNot 24 = .ok (.invokevirtual 61, 3) := by decide +kernel
theorem dX5_readNot_27 : decode cX5_readNot 27 = .ok (.ifCond .eq 16, 3) := by decide +kernel
theorem dX5_readNot_30 : decode cX5_readNot 30 = .ok (.aload_n 0, 1) := by decide +kernel
theorem dX5_readNot_31 : decode cX5_readNot 31 = .ok (.bipush (-8), 2) := by decide +kernel
theorem dX5_readNot_33 : decode cX5_readNot 33 = .ok (.invokevirtual 58, 3) := by decide +kernel
theorem dX5_readNot_36 : decode cX5_readNot 36 = .ok (.ifCond .eq 7, 3) := by decide +kernel
theorem dX5_readNot_39 : decode cX5_readNot 39 = .ok (.iconst 1, 1) := by decide +kernel
theorem dX5_readNot_40 : decode cX5_readNot 40 = .ok (.goto 4, 3) := by decide +kernel
theorem dX5_readNot_43 : decode cX5_readNot 43 = .ok (.iconst 0, 1) := by decide +kernel
theorem dX5_readNot_44 : decode cX5_readNot 44 = .ok (.ireturn, 1) := by decide +kernel
theorem dX5_readNot_45 : decode cX5_readNot 45 = .ok (.aload_n 0, 1) := by decide +kernel
theorem dX5_readNot_46 : decode cX5_readNot 46 = .ok (.iload_n 1, 1) := by decide +kernel
theorem dX5_readNot_47 : decode cX5_readNot 47 = .ok (.invokevirtual 64, 3) := by decide +kernel
theorem dX5_readNot_50 : decode cX5_readNot 50 = .ok (.ifCond .ne 5, 3) := by decide +kernel
theorem dX5_readNot_53 : decode cX5_readNot 53 = .ok (.iconst 0, 1) := by decide +kernel
theorem dX5_readNot_54 : decode cX5_readNot 54 = .ok (.ireturn, 1) := by decide +kernel
theorem dX5_readNot_55 : decode cX5_readNot 55 = .ok (.aload_n 0, 1) := by decide +kernel
theorem dX5_readNot_56 : decode cX5_readNot 56 = .ok (.getfield 46, 3) := by decide +kernel
theorem dX5_readNot_59 : decode cX5_readNot 59 = .ok (.bipush 60, 2) := by decide +kernel
theorem dX5_readNot_61 : decode cX5_readNot 61 = .ok (.if_icmp .eq 14, 3) := by decide +kernel
theorem dX5_readNot_64 : decode cX5_readNot 64 = .ok (.aload_n 0, 1) := by decide +kernel
theorem dX5_readNot_65 : decode cX5_readNot 65 = .ok (.getfield 46, 3) := by decide +kernel
theorem dX5_readNot_68 : decode cX5_readNot 68 = .ok (.bipush 61, 2) := by decide +kernel
theorem dX5_readNot_70 : decode cX5_readNot 70 = .ok (.if_icmp .eq 5, 3) := by decide +kernel
theorem dX5_readNot_73 : decode cX5_readNot 73 = .ok (.iconst 1, 1) := by decide +kernel
theorem dX5_readNot_74 : decode cX5_readNot 74 = .ok (.ireturn, 1) := by decide +kernel
theorem dX5_readNot_75 : decode cX5_readNot 75 = .ok (.aload_n 0, 1) := by decide +kernel
theorem dX5_readNot_76 : decode cX5_readNot 76 = .ok (.getfield 46, 3) := by decide +kernel
theorem dX5_readNot_79 : decode cX5_readNot 79 = .ok (.bipush 60, 2) := by decide +kernel
theorem dX5_readNot_81 : decode cX5_readNot 81 = .ok (.if_icmp .ne 8, 3) := by decide +kernel
theorem dX5_readNot_84 : decode cX5_readNot 84 = .ok (.bipush (-11), 2) := by decide +kernel
theorem dX5_readNot_86 : decode cX5_readNot 86 = .ok (.goto 5, 3) := by decide +kernel
theorem dX5_readNot_89 : decode cX5_readNot 89 = .ok (.bipush (-12), 2) := by decide +kernel
theorem dX5_readNot_91 : decode cX5_readNot 91 = .ok (.istore_n 2, 1) := by decide +kernel
theorem dX5_readNot_92 : decode cX5_readNot 92 = .ok (.aload_n 0, 1) := by decide +kernel
theorem dX5_readNot_93 : decode cX5_readNot 93 = .ok (.invokevirtual 36, 3) := by decide +kernel
theorem dX5_readNot_96 : decode cX5_readNot 96 = .ok (.aload_n 0, 1) := by decide +kernel
theorem dX5_readNot_97 : decode cX5_readNot 97 = .ok (.iload_n 1, 1) := by decide +kernel
theorem dX5_readNot_98 : decode cX5_readNot 98 = .ok (.invokevirtual 64, 3) := by decide +kernel
theorem dX5_readNot_101 : decode cX5_readNot 101 = .ok (.ifCond .eq 15, 3) := by decide +kernel
theorem dX5_readNot_104 : decode cX5_readNot 104 = .ok (.aload_n 0, 1) := by decide +kernel
theorem dX5_readNot_105 : decode cX5_readNot 105 = .ok (.iload_n 2, 1) := by decide +kernel
theorem dX5_readNot_106 : decode cX5_readNot 106 = .ok (.invokevirtual 58, 3) := by decide +kernel
theorem dX5_readNot_109 : decode cX5_readNot 109 = .ok (.ifCond .eq 7, 3) := by decide +kernel
theorem dX5_readNot_112 : decode cX5_readNot 112 = .ok (.iconst 1, 1) := by decide +kernel
theorem dX5_readNot_113 : decode cX5_readNot 113 = .ok (.goto 4, 3) := by decide +kernel
theorem dX5_readNot_116 : decode cX5_readNot 116 = .ok (.iconst 0, 1) := by decide +kernel
theorem dX5_readNot_117 : decode cX5_readNot 117 = .ok (.ireturn, 1) := by decide +kernel
theorem dX5_readSum_0 : decode cX5_readSum 0 = .ok (.aload_n 0, 1) := by decide +kernel
theorem dX5_readSum_1 : decode cX5_readSum 1 = .ok (.iload_n 1, 1) := by decide +kernel
theorem dX5_readSum_2 : decode cX5_readSum 2 = .ok (.invokevirtual 67, 3) := by decide +kernel
theorem dX5_readSum_5 : decode cX5_readSum 5 = .ok (.ifCond .ne 5, 3) := by decide +kernel
theorem dX5_readSum_8 : decode cX5_readSum 8 = .ok (.iconst 0, 1) := by decide +kernel
theorem dX5_readSum_9 : decode cX5_readSum 9 = .ok (.ireturn, 1) := by decide +kernel
theorem dX5_readSum_10 : decode cX5_readSum 10 = .ok (.iconst 0, 1) := by decide +kernel
theorem dX5_readSum_11 : decode cX5_readSum 11 = .ok (.istore_n 2, 1) := by decide +kernel
theorem dX5_readSum_12 : decode cX5_readSum 12 = .ok (.iload_n 2, 1) := by decide +kernel
theorem dX5_readSum_13 : decode cX5_readSum 13 = .ok (.sipush 160, 3) := by decide +kernel
theorem dX5_readSum_16 : decode cX5_readSum 16 = .ok (.if_icmp .ge 64, 3) := by decide +kernel
theorem dX5_readSum_19 : decode cX5_readSum 19 = .ok (.aload_n 0, 1) := by decide +kernel
theorem dX5_readSum_20 : decode cX5_readSum 20 = .ok (.getfield 46, 3) := by decide +kernel
theorem dX5_readSum_23 : decode cX5_readSum 23 = .ok (.bipush 43, 2) := by decide +kernel
theorem dX5_readSum_25 : decode cX5_readSum 25 = .ok (.if_icmp .eq 12, 3) := by decide +kernel
theorem dX5_readSum_28 : decode cX5_readSum 28 = .ok (.aload_n 0, 1) := by decide +kernel
theorem dX5_readSum_29 : decode cX5_readSum 29 = .ok (.getfield 46, 3) := by decide +kernel
theorem dX5_readSum_32 : decode cX5_readSum 32 = .ok (.bipush 45, 2) := by decide +kernel
theorem dX5_readSum_34 : decode cX5_readSum 34 = .ok (.if_icmp .ne 46, 3) := by decide +kernel
theorem dX5_readSum_37 : decode cX5_readSum 37 = .ok (.aload_n 0, 1) := by decide +kernel
theorem dX5_readSum_38 : decode cX5_readSum 38 = .ok (.getfield 46, 3) := by decide +kernel
theorem dX5_readSum_41 : decode cX5_readSum 41 = .ok (.bipush 43, 2) := by decide +kernel
theorem dX5_readSum_43 : decode cX5_readSum 43 = .ok (.if_icmp .ne 8, 3) := by decide +kernel
theorem dX5_readSum_46 : decode cX5_readSum 46 = .ok (.bipush (-13), 2) := by decide +kernel
theorem dX5_readSum_48 : decode cX5_readSum 48 = .ok (.goto 5, 3) := by decide +kernel
theorem dX5_readSum_51 : decode cX5_readSum 51 = .ok (.bipush (-14), 2) := by decide +kernel
theorem dX5_readSum_53 : decode cX5_readSum 53 = .ok (.istore_n 3, 1) := by decide +kernel
theorem dX5_readSum_54 : decode cX5_readSum 54 = .ok (.aload_n 0, 1) := by decide +kernel
theorem dX5_readSum_55 : decode cX5_readSum 55 = .ok (.invokevirtual 36, 3) := by decide +kernel
theorem dX5_readSum_58 : decode cX5_readSum 58 = .ok (.aload_n 0, 1) := by decide +kernel
theorem dX5_readSum_59 : decode cX5_readSum 59 = .ok (.iload_n 1, 1) := by decide +kernel
theorem dX5_readSum_60 : decode cX5_readSum 60 = .ok (.invokevirtual 67, 3) := by decide +kernel
theorem dX5_readSum_63 : decode cX5_readSum 63 = .ok (.ifCond .ne 5, 3) := by decide +kernel
theorem dX5_readSum_66 : decode cX5_readSum 66 = .ok (.iconst 0, 1) := by decide +kernel
theorem dX5_readSum_67 : decode cX5_readSum 67 = .ok (.ireturn, 1) := by decide +kernel
theorem dX5_readSum_68 : decode cX5_readSum 68 = .ok (.aload_n 0, 1) := by decide +kernel
theorem dX5_readSum_69 : decode cX5_readSum 69 = .ok (.iload_n 3, 1) := by decide +kernel
theorem dX5_readSum_70 : decode cX5_readSum 70 = .ok (.invokevirtual 58, 3) := by decide +kernel
theorem dX5_readSum_73 : decode cX5_readSum 73 = .ok (.pop, 1) := by decide +kernel
theorem dX5_readSum_74 : decode cX5_readSum 74 = .ok (.iinc 2 1, 3) := by decide +kernel
theorem dX5_readSum_77 : decode cX5_readSum 77 = .ok (.goto (-65), 3) := by decide +kernel
theorem dX5_readSum_80 : decode cX5_readSum 80 = .ok (.iconst 1, 1) := by decide +kernel
theorem dX5_readSum_81 : decode cX5_readSum 81 = .ok (.ireturn, 1) := by decide +kernel
theorem dX5_readTerm_0 : decode cX5_readTerm 0 = .ok (.aload_n 0, 1) := by decide +kernel
theorem dX5_readTerm_1 : decode cX5_readTerm 1 = .ok (.iload_n 1, 1) := by decide +kernel
theorem dX5_readTerm_2 : decode cX5_readTerm 2 = .ok (.invokevirtual 70, 3) := by decide +kernel
theorem dX5_readTerm_5 : decode cX5_readTerm 5 = .ok (.ifCond .ne 5, 3) := by decide +kernel
theorem dX5_readTerm_8 : decode cX5_readTerm 8 = .ok (.iconst 0, 1) := by decide +kernel
theorem dX5_readTerm_9 : decode cX5_readTerm 9 = .ok (.ireturn, 1) := by decide +kernel
theorem dX5_readTerm_10 : decode cX5_readTerm 10 = .ok (.iconst 0, 1) := by decide +kernel
theorem dX5_readTerm_11 : decode cX5_readTerm 11 = .ok (.istore_n 2, 1) := by decide +kernel
theorem dX5_readTerm_12 : decode cX5_readTerm 12 = .ok (.iload_n 2, 1) := by decide +kernel
theorem dX5_readTerm_13 : decode cX5_readTerm 13 = .ok (.sipush 160, 3) := by decide +kernel
theorem dX5_readTerm_16 : decode cX5_readTerm 16 = .ok (.if_icmp .ge 39, 3) := by decide +kernel
theorem dX5_readTerm_19 : decode cX5_readTerm 19 = .ok (.aload_n 0, 1) := by decide +kernel
theorem dX5_readTerm_20 : decode cX5_readTerm 20 = .ok (.getfield 46, 3) := by decide +kernel
theorem dX5_readTerm_23 : decode cX5_readTerm 23 = .ok (.bipush 42, 2) := by decide +kernel
theorem dX5_readTerm_25 : decode cX5_readTerm 25 = .ok (.if_icmp .ne 30, 3) := by decide +kernel
theorem dX5_readTerm_28 : decode cX5_readTerm 28 = .ok (.aload_n 0, 1) := by decide +kernel
theorem dX5_readTerm_29 : decode cX5_readTerm 29 = .ok (.invokevirtual 36, 3) := by decide +kernel
theorem dX5_readTerm_32 : decode cX5_readTerm 32 = .ok (.aload_n 0, 1) := by decide +kernel
theorem dX5_readTerm_33 : decode cX5_readTerm 33 = .ok (.iload_n 1, 1) := by decide +kernel
theorem dX5_readTerm_34 : decode cX5_readTerm 34 = .ok (.invokevirtual 70, 3) := by decide +kernel
theorem dX5_readTerm_37 : decode cX5_readTerm 37 = .ok (.ifCond .ne 5, 3) := by decide +kernel
theorem dX5_readTerm_40 : decode cX5_readTerm 40 = .ok (.iconst 0, 1) := by decide +kernel
theorem dX5_readTerm_41 : decode cX5_readTerm 41 = .ok (.ireturn, 1) := by decide +kernel
theorem dX5_readTerm_42 : decode cX5_readTerm 42 = .ok (.aload_n 0, 1) := by decide +kernel
theorem dX5_readTerm_43 : decode cX5_readTerm 43 = .ok (.bipush (-15), 2) := by decide +kernel
theorem dX5_readTerm_45 : decode cX5_readTerm 45 = .ok (.invokevirtual 58, 3) := by decide +kernel
theorem dX5_readTerm_48 : decode cX5_readTerm 48 = .ok (.pop, 1) := by decide +kernel
theorem dX5_readTerm_49 : decode cX5_readTerm 49 = .ok (.iinc 2 1, 3) := by decide +kernel
theorem dX5_readTerm_52 : decode cX5_readTerm 52 = .ok (.goto (-40), 3) := by decide +kernel
theorem dX5_readTerm_55 : decode cX5_readTerm 55 = .ok (.iconst 1, 1) := by decide +kernel
theorem dX5_readTerm_56 : decode cX5_readTerm 56 = .ok (.ireturn, 1) := by decide +kernel
theorem dX5_readOne_0 : decode cX5_readOne 0 = .ok (.aload_n 0, 1) := by decide +kernel
theorem dX5_readOne_1 : decode cX5_readOne 1 = .ok (.getfield 46, 3) := by decide +kernel
theorem dX5_readOne_4 : decode cX5_readOne 4 = .ok (.iconst 2, 1) := by decide +kernel
theorem dX5_readOne_5 : decode cX5_readOne 5 = .ok (.if_icmp .eq 20, 3) := by decide +kernel
theorem dX5_readOne_8 : decode cX5_readOne 8 = .ok (.aload_n 0, 1) := by decide +kernel
theorem dX5_readOne_9 : decode cX5_readOne 9 = .ok (.getfield 46, 3) := by decide +kernel
theorem dX5_readOne_12 : decode cX5_readOne 12 = .ok (.iconst (-1), 1) := by decide +kernel
theorem dX5_readOne_13 : decode cX5_readOne 13 = .ok (.if_icmp .gt 42, 3) := by decide +kernel
theorem dX5_readOne_16 : decode cX5_readOne 16 = .ok (.aload_n 0, 1) := by decide +kernel
theorem dX5_readOne_17 : decode cX5_readOne 17 = .ok (.getfield 46, 3) := by decide +kernel
theorem dX5_readOne_20 : decode cX5_readOne 20 = .ok (.bipush (-6), 2) := by decide +kernel
theorem dX5_readOne_22 : decode cX5_readOne 22 = .ok (.if_icmp .lt 33, 3) := by decide +kernel
theorem dX5_readOne_25 : decode cX5_readOne 25 = .ok (.aload_n 0, 1) := by decide +kernel
theorem dX5_readOne_26 : decode cX5_readOne 26 = .ok (.aload_n 0, 1) := by decide +kernel
theorem dX5_readOne_27 : decode cX5_readOne 27 = .ok (.getfield 46, 3) := by decide +kernel
theorem dX5_readOne_30 : decode cX5_readOne 30 = .ok (.iconst 2, 1) := by decide +kernel
theorem dX5_readOne_31 : decode cX5_readOne 31 = .ok (.if_icmp .ne 10, 3) := by decide +kernel
theorem dX5_readOne_34 : decode cX5_readOne 34 = .ok (.aload_n 0, 1) := by decide +kernel
theorem dX5_readOne_35 : decode cX5_readOne 35 = .ok (.getfield 73, 3) := by decide +kernel
theorem dX5_readOne_38 : decode cX5_readOne 38 = .ok (.goto 7, 3) := by decide +kernel
theorem dX5_readOne_41 : decode cX5_readOne 41 = .ok (.aload_n 0, 1) := by decide +kernel
theorem dX5_readOne_42 : decode cX5_readOne 42 = .ok (.getfield 46, 3) := by decide +kernel
theorem dX5_readOne_45 : decode cX5_readOne 45 = .ok (.invokevirtual 58, 3) := by decide +kernel
theorem dX5_readOne_48 : decode cX5_readOne 48 = .ok (.pop, 1) := by decide +kernel
theorem dX5_readOne_49 : decode cX5_readOne 49 = .ok (.aload_n 0, 1) := by decide +kernel
theorem dX5_readOne_50 : decode cX5_readOne 50 = .ok (.invokevirtual 36, 3) := by decide +kernel
theorem dX5_readOne_53 : decode cX5_readOne 53 = .ok (.iconst 1, 1) := by decide +kernel
theorem dX5_readOne_54 : decode cX5_readOne 54 = .ok (.ireturn, 1) := by decide +kernel
theorem dX5_readOne_55 : decode cX5_readOne 55 = .ok (.aload_n 0, 1) := by decide +kernel
theorem dX5_readOne_56 : decode cX5_readOne 56 = .ok (.getfield 46, 3) := by decide +kernel
theorem dX5_readOne_59 : decode cX5_readOne 59 = .ok (.bipush 45, 2) := by decide +kernel
theorem dX5_readOne_61 : decode cX5_readOne 61 = .ok (.if_icmp .eq 12, 3) := by decide +kernel
theorem dX5_readOne_64 : decode cX5_readOne 64 = .ok (.aload_n 0, 1) := by decide +kernel
theorem dX5_readOne_65 : decode cX5_readOne 65 = .ok (.getfield 46, 3) := by decide +kernel
theorem dX5_readOne_68 : decode cX5_readOne 68 = .ok (.bipush 40, 2) := by decide +kernel
theorem dX5_readOne_70 : decode cX5_readOne 70 = .ok (.if_icmp .ne 8, 3) := by decide +kernel
theorem dX5_readOne_73 : decode cX5_readOne 73 = .ok (.iload_n 1, 1) := by decide +kernel
theorem dX5_readOne_74 : decode cX5_readOne 74 = .ok (.iconst 5, 1) := by decide +kernel
theorem dX5_readOne_75 : decode cX5_readOne 75 = .ok (.if_icmp .lt 5, 3) := by decide +kernel
theorem dX5_readOne_78 : decode cX5_readOne 78 = .ok (.iconst 0, 1) := by decide +kernel
theorem dX5_readOne_79 : decode cX5_readOne 79 = .ok (.ireturn, 1) := by decide +kernel
theorem dX5_readOne_80 : decode cX5_readOne 80 = .ok (.aload_n 0, 1) := by decide +kernel
theorem dX5_readOne_81 : decode cX5_readOne 81 = .ok (.getfield 46, 3) := by decide +kernel
theorem dX5_readOne_84 : decode cX5_readOne 84 = .ok (.bipush 45, 2) := by decide +kernel
theorem dX5_readOne_86 : decode cX5_readOne 86 = .ok (.if_icmp .ne 7, 3) := by decide +kernel
theorem dX5_readOne_89 : decode cX5_readOne 89 = .ok (.iconst 1, 1) := by decide +kernel
theorem dX5_readOne_90 : decode cX5_readOne 90 = .ok (.goto 4, 3) := by decide +kernel
theorem dX5_readOne_93 : decode cX5_readOne 93 = .ok (.iconst 0, 1) := by decide +kernel
theorem dX5_readOne_94 : decode cX5_readOne 94 = .ok (.istore_n 2, 1) := by decide +kernel
theorem dX5_readOne_95 : decode cX5_readOne 95 = .ok (.aload_n 0, 1) := by decide +kernel
theorem dX5_readOne_96 : decode cX5_readOne 96 = .ok (.invokevirtual 36, 3) := by decide +kernel
theorem dX5_readOne_99 : decode cX5_readOne 99 = .ok (.iload_n 2, 1) := by decide +kernel
theorem dX5_readOne_100 : decode cX5_readOne 100 = .ok (.ifCond .eq 28, 3) := by decide +kernel
theorem dX5_readOne_103 : decode cX5_readOne 103 = .ok (.aload_n 0, 1) := by decide +kernel
theorem dX5_readOne_104 : decode cX5_readOne 104 = .ok (.iload_n 1, 1) := by decide +kernel
theorem dX5_readOne_105 : decode cX5_readOne 105 = .ok (.iconst 1, 1) := by decide +kernel
theorem dX5_readOne_106 : decode cX5_readOne 106 = .ok (.iadd, 1) := by decide +kernel
theorem dX5_readOne_107 : decode cX5_readOne 107 = .ok (.invokevirtual 70, 3) := by decide +kernel
theorem dX5_readOne_110 : decode cX5_readOne 110 = .ok (.ifCond .eq 16, 3) := by decide +kernel
theorem dX5_readOne_113 : decode cX5_readOne 113 = .ok (.aload_n 0, 1) := by decide +kernel
theorem dX5_readOne_114 : decode cX5_readOne 114 = .ok (.bipush (-7), 2) := by decide +kernel
theorem dX5_readOne_116 : decode cX5_readOne 116 = .ok (.invokevirtual 58, 3) := by decide +kernel
theorem dX5_readOne_119 : decode cX5_readOne 119 = .ok (.ifCond .eq 7, 3) := by decide +kernel
theorem dX5_readOne_122 : decode cX5_readOne 122 = .ok (.iconst 1, 1) := by decide +kernel
theorem dX5_readOne_123 : decode cX5_readOne 123 = .ok (.goto 4, 3) := by decide +kernel
theorem dX5_readOne_126 : decode cX5_readOne 126 = .ok (.iconst 0, 1) := by decide +kernel
theorem dX5_readOne_127 : decode cX5_readOne 127 = .ok (.ireturn, 1) := by decide +kernel
theorem dX5_readOne_128 : decode cX5_readOne 128 = .ok (.aload_n 0, 1) := by decide +kernel
theorem dX5_readOne_129 : decode cX5_readOne 129 = .ok (.iload_n 1, 1) := by decide +kernel
theorem dX5_readOne_130 : decode cX5_readOne 130 = .ok (.iconst 1, 1) := by decide +kernel
theorem dX5_readOne_131 : decode cX5_readOne 131 = .ok (.iadd, 1) := by decide +kernel
theorem dX5_readOne_132 : decode cX5_readOne 132 = .ok (.invokevirtual 52, 3) := by decide +kernel
theorem dX5_readOne_135 : decode cX5_readOne 135 = .ok (.ifCond .eq 16, 3) := by decide +kernel
theorem dX5_readOne_138 : decode cX5_readOne 138 = .ok (.aload_n 0, 1) := by decide +kernel
theorem dX5_readOne_139 : decode cX5_readOne 139 = .ok (.bipush 41, 2) := by decide +kernel
theorem dX5_readOne_141 : decode cX5_readOne 141 = .ok (.invokevirtual 49, 3) := by decide +kernel
theorem dX5_readOne_144 : decode cX5_readOne 144 = .ok (.ifCond .eq 7, 3) := by decide +kernel
theorem dX5_readOne_147 : decode cX5_readOne 147 = .ok (.iconst 1, 1) := by decide +kernel
theorem dX5_readOne_148 : decode cX5_readOne 148 = .ok (.goto 4, 3) := by decide +kernel
theorem dX5_readOne_151 : decode cX5_readOne 151 = .ok (.iconst 0, 1) := by decide +kernel
theorem dX5_readOne_152 : decode cX5_readOne 152 = .ok (.ireturn, 1) := by decide +kernel
theorem dX5_pass_0 : decode cX5_pass 0 = .ok (.aload_n 0, 1) := by decide +kernel
theorem dX5_pass_1 : decode cX5_pass 1 = .ok (.getfield 46, 3) := by decide +kernel
theorem dX5_pass_4 : decode cX5_pass 4 = .ok (.iload_n 1, 1) := by decide +kernel
theorem dX5_pass_5 : decode cX5_pass 5 = .ok (.if_icmp .eq 5, 3) := by decide +kernel
theorem dX5_pass_8 : decode cX5_pass 8 = .ok (.iconst 0, 1) := by decide +kernel
theorem dX5_pass_9 : decode cX5_pass 9 = .ok (.ireturn, 1) := by decide +kernel
theorem dX5_pass_10 : decode cX5_pass 10 = .ok (.aload_n 0, 1) := by decide +kernel
theorem dX5_pass_11 : decode cX5_pass 11 = .ok (.invokevirtual 36, 3) := by decide +kernel
theorem dX5_pass_14 : decode cX5_pass 14 = .ok (.iconst 1, 1) := by decide +kernel
theorem dX5_pass_15 : decode cX5_pass 15 = .ok (.ireturn, 1) := by decide +kernel
theorem dX5_write_0 : decode cX5_write 0 = .ok (.aload_n 0, 1) := by decide +kernel
theorem dX5_write_1 : decode cX5_write 1 = .ok (.getfield 21, 3) := by decide +kernel
theorem dX5_write_4 : decode cX5_write 4 = .ok (.sipush 160, 3) := by decide +kernel
theorem dX5_write_7 : decode cX5_write 7 = .ok (.if_icmp .ne 5, 3) := by decide +kernel
theorem dX5_write_10 : decode cX5_write 10 = .ok (.iconst 0, 1) := by decide +kernel
theorem dX5_write_11 : decode cX5_write 11 = .ok (.ireturn, 1) := by decide +kernel
theorem dX5_write_12 : decode cX5_write 12 = .ok (.aload_n 0, 1) := by decide +kernel
theorem dX5_write_13 : decode cX5_write 13 = .ok (.getfield 13, 3) := by decide +kernel
theorem dX5_write_16 : decode cX5_write 16 = .ok (.aload_n 0, 1) := by decide +kernel
theorem dX5_write_17 : decode cX5_write 17 = .ok (.getfield 21, 3) := by decide +kernel
theorem dX5_write_20 : decode cX5_write 20 = .ok (.iload_n 1, 1) := by decide +kernel
theorem dX5_write_21 : decode cX5_write 21 = .ok (.iastore, 1) := by decide +kernel
theorem dX5_write_22 : decode cX5_write 22 = .ok (.aload_n 0, 1) := by decide +kernel
theorem dX5_write_23 : decode cX5_write 23 = .ok (.dup, 1) := by decide +kernel
theorem dX5_write_24 : decode cX5_write 24 = .ok (.getfield 21, 3) := by decide +kernel
theorem dX5_write_27 : decode cX5_write 27 = .ok (.iconst 1, 1) := by decide +kernel
theorem dX5_write_28 : decode cX5_write 28 = .ok (.iadd, 1) := by decide +kernel
theorem dX5_write_29 : decode cX5_write 29 = .ok (.putfield 21, 3) := by decide +kernel
theorem dX5_write_32 : decode cX5_write 32 = .ok (.iconst 1, 1) := by decide +kernel
theorem dX5_write_33 : decode cX5_write 33 = .ok (.ireturn, 1) := by decide +kernel
theorem dX5_advance_0 : decode cX5_advance 0 = .ok (.aload_n 0, 1) := by decide +kernel
theorem dX5_advance_1 : decode cX5_advance 1 = .ok (.aload_n 0, 1) := by decide +kernel
theorem dX5_advance_2 : decode cX5_advance 2 = .ok (.getfield 33, 3) := by decide +kernel
theorem dX5_advance_5 : decode cX5_advance 5 = .ok (.putfield 43, 3) := by decide +kernel
theorem dX5_advance_8 : decode cX5_advance 8 = .ok (.aload_n 0, 1) := by decide +kernel
theorem dX5_advance_9 : decode cX5_advance 9 = .ok (.getfield 43, 3) := by decide +kernel
theorem dX5_advance_12 : decode cX5_advance 12 = .ok (.aload_n 0, 1) := by decide +kernel
theorem dX5_advance_13 : decode cX5_advance 13 = .ok (.getfield 17, 3) := by decide +kernel
theorem dX5_advance_16 : decode cX5_advance 16 = .ok (.if_icmp .ge 44, 3) := by decide +kernel
theorem dX5_advance_19 : decode cX5_advance 19 = .ok (.aload_n 0, 1) := by decide +kernel
theorem dX5_advance_20 : decode cX5_advance 20 = .ok (.getfield 9, 3) := by decide +kernel
theorem dX5_advance_23 : decode cX5_advance 23 = .ok (.aload_n 0, 1) := by decide +kernel
theorem dX5_advance_24 : decode cX5_advance 24 = .ok (.getfield 43, 3) := by decide +kernel
theorem dX5_advance_27 : decode cX5_advance 27 = .ok (.baload, 1) := by decide +kernel
theorem dX5_advance_28 : decode cX5_advance 28 = .ok (.bipush 32, 2) := by decide +kernel
theorem dX5_advance_30 : decode cX5_advance 30 = .ok (.if_icmp .eq 17, 3) := by decide +kernel
theorem dX5_advance_33 : decode cX5_advance 33 = .ok (.aload_n 0, 1) := by decide +kernel
theorem dX5_advance_34 : decode cX5_advance 34 = .ok (.getfield 9, 3) := by decide +kernel
theorem dX5_advance_37 : decode cX5_advance 37 = .ok (.aload_n 0, 1) := by decide +kernel
theorem dX5_advance_38 : decode cX5_advance 38 = .ok (.getfield 43, 3) := by decide +kernel
theorem dX5_advance_41 : decode cX5_advance 41 = .ok (.baload, 1) := by decide +kernel
theorem dX5_advance_42 : decode cX5_advance 42 = .ok (.bipush 10, 2) := by decide +kernel
theorem dX5_advance_44 : decode cX5_advance 44 = .ok (.if_icmp .ne 16, 3) := by decide +kernel
theorem dX5_advance_47 : decode cX5_advance 47 = .ok (.aload_n 0, 1) := by decide +kernel
theorem dX5_advance_48 : decode cX5_advance 48 = .ok (.dup, 1) := by decide +kernel
theorem dX5_advance_49 : decode cX5_advance 49 = .ok (.getfield 43, 3) := by decide +kernel
theorem dX5_advance_52 : decode cX5_advance 52 = .ok (.iconst 1, 1) := by decide +kernel
theorem dX5_advance_53 : decode cX5_advance 53 = .ok (.iadd, 1) := by decide +kernel
theorem dX5_advance_54 : decode cX5_advance 54 = .ok (.putfield 43, 3) := by decide +kernel
theorem dX5_advance_57 : decode cX5_advance 57 = .ok (.goto (-49), 3) := by decide +kernel
theorem dX5_advance_60 : decode cX5_advance 60 = .ok (.aload_n 0, 1) := by decide +kernel
theorem dX5_advance_61 : decode cX5_advance 61 = .ok (.aload_n 0, 1) := by decide +kernel
theorem dX5_advance_62 : decode cX5_advance 62 = .ok (.getfield 43, 3) := by decide +kernel
theorem dX5_advance_65 : decode cX5_advance 65 = .ok (.putfield 33, 3) := by decide +kernel
theorem dX5_advance_68 : decode cX5_advance 68 = .ok (.aload_n 0, 1) := by decide +kernel
theorem dX5_advance_69 : decode cX5_advance 69 = .ok (.getfield 43, 3) := by decide +kernel
theorem dX5_advance_72 : decode cX5_advance 72 = .ok (.aload_n 0, 1) := by decide +kernel
theorem dX5_advance_73 : decode cX5_advance 73 = .ok (.getfield 17, 3) := by decide +kernel
theorem dX5_advance_76 : decode cX5_advance 76 = .ok (.if_icmp .ne 11, 3) := by decide +kernel
theorem dX5_advance_79 : decode cX5_advance 79 = .ok (.aload_n 0, 1) := by decide +kernel
theorem dX5_advance_80 : decode cX5_advance 80 = .ok (.iconst 0, 1) := by decide +kernel
theorem dX5_advance_81 : decode cX5_advance 81 = .ok (.putfield 46, 3) := by decide +kernel
theorem dX5_advance_84 : decode cX5_advance 84 = .ok (.goto 63, 3) := by decide +kernel
theorem dX5_advance_87 : decode cX5_advance 87 = .ok (.aload_n 0, 1) := by decide +kernel
theorem dX5_advance_88 : decode cX5_advance 88 = .ok (.getfield 9, 3) := by decide +kernel
theorem dX5_advance_91 : decode cX5_advance 91 = .ok (.aload_n 0, 1) := by decide +kernel
theorem dX5_advance_92 : decode cX5_advance 92 = .ok (.getfield 43, 3) := by decide +kernel
theorem dX5_advance_95 : decode cX5_advance 95 = .ok (.baload, 1) := by decide +kernel
theorem dX5_advance_96 : decode cX5_advance 96 = .ok (.invokestatic 76, 3) := by decide +kernel
theorem dX5_advance_99 : decode cX5_advance 99 = .ok (.ifCond .eq 14, 3) := by decide +kernel
theorem dX5_advance_102 : decode cX5_advance 102 = .ok (.aload_n 0, 1) := by decide +kernel
theorem dX5_advance_103 : decode cX5_advance 103 = .ok (.aload_n 0, 1) := by decide +kernel
theorem dX5_advance_104 : decode cX5_advance 104 = .ok (.invokevirtual 79, 3) := by decide +kernel
theorem dX5_advance_107 : decode cX5_advance 107 = .ok (.putfield 46, 3) := by decide +kernel
theorem dX5_advance_110 : decode cX5_advance 110 = .ok (.goto 37, 3) := by decide +kernel
theorem dX5_advance_113 : decode cX5_advance 113 = .ok (.aload_n 0, 1) := by decide +kernel
theorem dX5_advance_114 : decode cX5_advance 114 = .ok (.getfield 9, 3) := by decide +kernel
theorem dX5_advance_117 : decode cX5_advance 117 = .ok (.aload_n 0, 1) := by decide +kernel
theorem dX5_advance_118 : decode cX5_advance 118 = .ok (.getfield 43, 3) := by decide +kernel
theorem dX5_advance_121 : decode cX5_advance 121 = .ok (.baload, 1) := by decide +kernel
theorem dX5_advance_122 : decode cX5_advance 122 = .ok (.invokestatic 83, 3) := by decide +kernel
theorem dX5_advance_125 : decode cX5_advance 125 = .ok (.ifCond .eq 14, 3) := by decide +kernel
theorem dX5_advance_128 : decode cX5_advance 128 = .ok (.aload_n 0, 1) := by decide +kernel
theorem dX5_advance_129 : decode cX5_advance 129 = .ok (.aload_n 0, 1) := by decide +kernel
theorem dX5_advance_130 : decode cX5_advance 130 = .ok (.invokevirtual 86, 3) := by decide +kernel
theorem dX5_advance_133 : decode cX5_advance 133 = .ok (.putfield 46, 3) := by decide +kernel
theorem dX5_advance_136 : decode cX5_advance 136 = .ok (.goto 11, 3) := by decide +kernel
theorem dX5_advance_139 : decode cX5_advance 139 = .ok (.aload_n 0, 1) := by decide +kernel
theorem dX5_advance_140 : decode cX5_advance 140 = .ok (.aload_n 0, 1) := by decide +kernel
theorem dX5_advance_141 : decode cX5_advance 141 = .ok (.invokevirtual 89, 3) := by decide +kernel
theorem dX5_advance_144 : decode cX5_advance 144 = .ok (.putfield 46, 3) := by decide +kernel
theorem dX5_advance_147 : decode cX5_advance 147 = .ok (.return_, 1) := by decide +kernel
theorem dX5_readWord_0 : decode cX5_readWord 0 = .ok (.aload_n 0, 1) := by decide +kernel
theorem dX5_readWord_1 : decode cX5_readWord 1 = .ok (.getfield 33, 3) := by decide +kernel
theorem dX5_readWord_4 : decode cX5_readWord 4 = .ok (.aload_n 0, 1) := by decide +kernel
theorem dX5_readWord_5 : decode cX5_readWord 5 = .ok (.getfield 17, 3) := by decide +kernel
theorem dX5_readWord_8 : decode cX5_readWord 8 = .ok (.if_icmp .ge 31, 3) := by decide +kernel
theorem dX5_readWord_11 : decode cX5_readWord 11 = .ok (.aload_n 0, 1) := by decide +kernel
theorem dX5_readWord_12 : decode cX5_readWord 12 = .ok (.getfield 9, 3) := by decide +kernel
theorem dX5_readWord_15 : decode cX5_readWord 15 = .ok (.aload_n 0, 1) := by decide +kernel
theorem dX5_readWord_16 : decode cX5_readWord 16 = .ok (.getfield 33, 3) := by decide +kernel
theorem dX5_readWord_19 : decode cX5_readWord 19 = .ok (.baload, 1) := by decide +kernel
theorem dX5_readWord_20 : decode cX5_readWord 20 = .ok (.invokestatic 76, 3) := by decide +kernel
theorem dX5_readWord_23 : decode cX5_readWord 23 = .ok (.ifCond .eq 16, 3) := by decide +kernel
theorem dX5_readWord_26 : decode cX5_readWord 26 = .ok (.aload_n 0, 1) := by decide +kernel
theorem dX5_readWord_27 : decode cX5_readWord 27 = .ok (.dup, 1) := by decide +kernel
theorem dX5_readWord_28 : decode cX5_readWord 28 = .ok (.getfield 33, 3) := by decide +kernel
theorem dX5_readWord_31 : decode cX5_readWord 31 = .ok (.iconst 1, 1) := by decide +kernel
theorem dX5_readWord_32 : decode cX5_readWord 32 = .ok (.iadd, 1) := by decide +kernel
theorem dX5_readWord_33 : decode cX5_readWord 33 = .ok (.putfield 33, 3) := by decide +kernel
theorem dX5_readWord_36 : decode cX5_readWord 36 = .ok (.goto (-36), 3) := by decide +kernel
theorem dX5_readWord_39 : decode cX5_readWord 39 = .ok (.aload_n 0, 1) := by decide +kernel
theorem dX5_readWord_40 : decode cX5_readWord 40 = .ok (.ldc 92, 2) := by decide +kernel
theorem dX5_readWord_42 : decode cX5_readWord 42 = .ok (.invokevirtual 94, 3) := by decide +kernel
theorem dX5_readWord_45 : decode cX5_readWord 45 = .ok (.ifCond .eq 5, 3) := by decide +kernel
theorem dX5_readWord_48 : decode cX5_readWord 48 = .ok (.iconst 3, 1) := by decide +kernel
theorem dX5_readWord_49 : decode cX5_readWord 49 = .ok (.ireturn, 1) := by decide +kernel
theorem dX5_readWord_50 : decode cX5_readWord 50 = .ok (.aload_n 0, 1) := by decide +kernel
theorem dX5_readWord_51 : decode cX5_readWord 51 = .ok (.ldc 98, 2) := by decide +kernel
theorem dX5_readWord_53 : decode cX5_readWord 53 = .ok (.invokevirtual 94, 3) := by decide +kernel
theorem dX5_readWord_56 : decode cX5_readWord 56 = .ok (.ifCond .eq 5, 3) := by decide +kernel
theorem dX5_readWord_59 : decode cX5_readWord 59 = .ok (.iconst 4, 1) := by decide +kernel
theorem dX5_readWord_60 : decode cX5_readWord 60 = .ok (.ireturn, 1) := by decide +kernel
theorem dX5_readWord_61 : decode cX5_readWord 61 = .ok (.aload_n 0, 1) := by decide +kernel
theorem dX5_readWord_62 : decode cX5_readWord 62 = .ok (.ldc 100, 2) := by decide +kernel
theorem dX5_readWord_64 : decode cX5_readWord 64 = .ok (.invokevirtual 94, 3) := by decide +kernel
theorem dX5_readWord_67 : decode cX5_readWord 67 = .ok (.ifCond .eq 6, 3) := by decide +kernel
theorem dX5_readWord_70 : decode cX5_readWord 70 = .ok (.bipush (-9), 2) := by decide +kernel
theorem dX5_readWord_72 : decode cX5_readWord 72 = .ok (.ireturn, 1) := by decide +kernel
theorem dX5_readWord_73 : decode cX5_readWord 73 = .ok (.aload_n 0, 1) := by decide +kernel
theorem dX5_readWord_74 : decode cX5_readWord 74 = .ok (.ldc 102, 2) := by decide +kernel
theorem dX5_readWord_76 : decode cX5_readWord 76 = .ok (.invokevirtual 94, 3) := by decide +kernel
theorem dX5_readWord_79 : decode cX5_readWord 79 = .ok (.ifCond .eq 6, 3) := by decide +kernel
theorem dX5_readWord_82 : decode cX5_readWord 82 = .ok (.bipush (-10), 2) := by decide +kernel
theorem dX5_readWord_84 : decode cX5_readWord 84 = .ok (.ireturn, 1) := by decide +kernel
theorem dX5_readWord_85 : decode cX5_readWord 85 = .ok (.aload_n 0, 1) := by decide +kernel
theorem dX5_readWord_86 : decode cX5_readWord 86 = .ok (.ldc 104, 2) := by decide +kernel
theorem dX5_readWord_88 : decode cX5_readWord 88 = .ok (.invokevirtual 94, 3) := by decide +kernel
theorem dX5_readWord_91 : decode cX5_readWord 91 = .ok (.ifCond .eq 6, 3) := by decide +kernel
theorem dX5_readWord_94 : decode cX5_readWord 94 = .ok (.bipush (-8), 2) := by decide +kernel
theorem dX5_readWord_96 : decode cX5_readWord 96 = .ok (.ireturn, 1) := by decide +kernel
theorem dX5_readWord_97 : decode cX5_readWord 97 = .ok (.aload_n 0, 1) := by decide +kernel
theorem dX5_readWord_98 : decode cX5_readWord 98 = .ok (.ldc 106, 2) := by decide +kernel
theorem dX5_readWord_100 : decode cX5_readWord 100 = .ok (.invokevirtual 94, 3) := by decide +kernel
theorem dX5_readWord_103 : decode cX5_readWord 103 = .ok (.ifCond .eq 5, 3) := by decide +kernel
theorem dX5_readWord_106 : decode cX5_readWord 106 = .ok (.iconst (-1), 1) := by decide +kernel
theorem dX5_readWord_107 : decode cX5_readWord 107 = .ok (.ireturn, 1) := by decide +kernel
theorem dX5_readWord_108 : decode cX5_readWord 108 = .ok (.aload_n 0, 1) := by decide +kernel
theorem dX5_readWord_109 : decode cX5_readWord 109 = .ok (.ldc 108, 2) := by decide +kernel
theorem dX5_readWord_111 : decode cX5_readWord 111 = .ok (.invokevirtual 94, 3) := by decide +kernel
theorem dX5_readWord_114 : decode cX5_readWord 114 = .ok (.ifCond .eq 6, 3) := by decide +kernel
theorem dX5_readWord_117 : decode cX5_readWord 117 = .ok (.bipush (-2), 2) := by decide +kernel
theorem dX5_readWord_119 : decode cX5_readWord 119 = .ok (.ireturn, 1) := by decide +kernel
theorem dX5_readWord_120 : decode cX5_readWord 120 = .ok (.aload_n 0, 1) := by decide +kernel
theorem dX5_readWord_121 : decode cX5_readWord 121 = .ok (.ldc 110, 2) := by decide +kernel
theorem dX5_readWord_123 : decode cX5_readWord 123 = .ok (.invokevirtual 94, 3) := by decide +kernel
theorem dX5_readWord_126 : decode cX5_readWord 126 = .ok (.ifCond .eq 6, 3) := by decide +kernel
theorem dX5_readWord_129 : decode cX5_readWord 129 = .ok (.bipush (-3), 2) := by decide +kernel
theorem dX5_readWord_131 : decode cX5_readWord 131 = .ok (.ireturn, 1) := by decide +kernel
theorem dX5_readWord_132 : decode cX5_readWord 132 = .ok (.aload_n 0, 1) := by decide +kernel
theorem dX5_readWord_133 : decode cX5_readWord 133 = .ok (.ldc 112, 2) := by decide +kernel
theorem dX5_readWord_135 : decode cX5_readWord 135 = .ok (.invokevirtual 94, 3) := by decide +kernel
theorem dX5_readWord_138 : decode cX5_readWord 138 = .ok (.ifCond .eq 6, 3) := by decide +kernel
theorem dX5_readWord_141 : decode cX5_readWord 141 = .ok (.bipush (-4), 2) := by decide +kernel
theorem dX5_readWord_143 : decode cX5_readWord 143 = .ok (.ireturn, 1) := by decide +kernel
theorem dX5_readWord_144 : decode cX5_readWord 144 = .ok (.aload_n 0, 1) := by decide +kernel
theorem dX5_readWord_145 : decode cX5_readWord 145 = .ok (.ldc 114, 2) := by decide +kernel
theorem dX5_readWord_147 : decode cX5_readWord 147 = .ok (.invokevirtual 94, 3) := by decide +kernel
theorem dX5_readWord_150 : decode cX5_readWord 150 = .ok (.ifCond .eq 6, 3) := by decide +kernel
theorem dX5_readWord_153 : decode cX5_readWord 153 = .ok (.bipush (-5), 2) := by decide +kernel
theorem dX5_readWord_155 : decode cX5_readWord 155 = .ok (.ireturn, 1) := by decide +kernel
theorem dX5_readWord_156 : decode cX5_readWord 156 = .ok (.aload_n 0, 1) := by decide +kernel
theorem dX5_readWord_157 : decode cX5_readWord 157 = .ok (.ldc 116, 2) := by decide +kernel
theorem dX5_readWord_159 : decode cX5_readWord 159 = .ok (.invokevirtual 94, 3) := by decide +kernel
theorem dX5_readWord_162 : decode cX5_readWord 162 = .ok (.ifCond .eq 6, 3) := by decide +kernel
theorem dX5_readWord_165 : decode cX5_readWord 165 = .ok (.bipush (-6), 2) := by decide +kernel
theorem dX5_readWord_167 : decode cX5_readWord 167 = .ok (.ireturn, 1) := by decide +kernel
theorem dX5_readWord_168 : decode cX5_readWord 168 = .ok (.iconst 1, 1) := by decide +kernel
theorem dX5_readWord_169 : decode cX5_readWord 169 = .ok (.ireturn, 1) := by decide +kernel
theorem dX5_spells_0 : decode cX5_spells 0 = .ok (.aload_n 0, 1) := by decide +kernel
theorem dX5_spells_1 : decode cX5_spells 1 = .ok (.getfield 33, 3) := by decide +kernel
theorem dX5_spells_4 : decode cX5_spells 4 = .ok (.aload_n 0, 1) := by decide +kernel
theorem dX5_spells_5 : decode cX5_spells 5 = .ok (.getfield 43, 3) := by decide +kernel
theorem dX5_spells_8 : decode cX5_spells 8 = .ok (.isub, 1) := by decide +kernel
theorem dX5_spells_9 : decode cX5_spells 9 = .ok (.aload_n 1, 1) := by decide +kernel
theorem dX5_spells_10 : decode cX5_spells 10 = .ok (.invokevirtual 118, 3) := by decide +kernel
theorem dX5_spells_13 : decode cX5_spells 13 = .ok (.if_icmp .eq 5, 3) := by decide +kernel
theorem dX5_spells_16 : decode cX5_spells 16 = .ok (.iconst 0, 1) := by decide +kernel
theorem dX5_spells_17 : decode cX5_spells 17 = .ok (.ireturn, 1) := by decide +kernel
theorem dX5_spells_18 : decode cX5_spells 18 = .ok (.iconst 0, 1) := by decide +kernel
theorem dX5_spells_19 : decode cX5_spells 19 = .ok (.istore_n 2, 1) := by decide +kernel
theorem dX5_spells_20 : decode cX5_spells 20 = .ok (.iload_n 2, 1) := by decide +kernel
theorem dX5_spells_21 : decode cX5_spells 21 = .ok (.aload_n 1, 1) := by decide +kernel
theorem dX5_spells_22 : decode cX5_spells 22 = .ok (.invokevirtual 118, 3) := by decide +kernel
theorem dX5_spells_25 : decode cX5_spells 25 = .ok (.if_icmp .ge 30, 3) := by decide +kernel
theorem dX5_spells_28 : decode cX5_spells 28 = .ok (.aload_n 0, 1) := by decide +kernel
theorem dX5_spells_29 : decode cX5_spells 29 = .ok (.getfield 9, 3) := by decide +kernel
theorem dX5_spells_32 : decode cX5_spells 32 = .ok (.aload_n 0, 1) := by decide +kernel
theorem dX5_spells_33 : decode cX5_spells 33 = .ok (.getfield 43, 3) := by decide +kernel
theorem dX5_spells_36 : decode cX5_spells 36 = .ok (.iload_n 2, 1) := by decide +kernel
theorem dX5_spells_37 : decode cX5_spells 37 = .ok (.iadd, 1) := by decide +kernel
theorem dX5_spells_38 : decode cX5_spells 38 = .ok (.baload, 1) := by decide +kernel
theorem dX5_spells_39 : decode cX5_spells 39 = .ok (.aload_n 1, 1) := by decide +kernel
theorem dX5_spells_40 : decode cX5_spells 40 = .ok (.iload_n 2, 1) := by decide +kernel
theorem dX5_spells_41 : decode cX5_spells 41 = .ok (.invokevirtual 122, 3) := by decide +kernel
theorem dX5_spells_44 : decode cX5_spells 44 = .ok (.if_icmp .eq 5, 3) := by decide +kernel
theorem dX5_spells_47 : decode cX5_spells 47 = .ok (.iconst 0, 1) := by decide +kernel
theorem dX5_spells_48 : decode cX5_spells 48 = .ok (.ireturn, 1) := by decide +kernel
theorem dX5_spells_49 : decode cX5_spells 49 = .ok (.iinc 2 1, 3) := by decide +kernel
theorem dX5_spells_52 : decode cX5_spells 52 = .ok (.goto (-32), 3) := by decide +kernel
theorem dX5_spells_55 : decode cX5_spells 55 = .ok (.iconst 1, 1) := by decide +kernel
theorem dX5_spells_56 : decode cX5_spells 56 = .ok (.ireturn, 1) := by decide +kernel
theorem dX5_readNumber_0 : decode cX5_readNumber 0 = .ok (.aload_n 0, 1) := by decide +kernel
theorem dX5_readNumber_1 : decode cX5_readNumber 1 = .ok (.iconst 0, 1) := by decide +kernel
theorem dX5_readNumber_2 : decode cX5_readNumber 2 = .ok (.putfield 73, 3) := by decide +kernel
theorem dX5_readNumber_5 : decode cX5_readNumber 5 = .ok (.aload_n 0, 1) := by decide +kernel
theorem dX5_readNumber_6 : decode cX5_readNumber 6 = .ok (.getfield 33, 3) := by decide +kernel
theorem dX5_readNumber_9 : decode cX5_readNumber 9 = .ok (.aload_n 0, 1) := by decide +kernel
theorem dX5_readNumber_10 : decode cX5_readNumber 10 = .ok (.getfield 17, 3) := by decide +kernel
theorem dX5_readNumber_13 : decode cX5_readNumber 13 = .ok (.if_icmp .ge 55, 3) := by decide +kernel
theorem dX5_readNumber_16 : decode cX5_readNumber 16 = .ok (.aload_n 0, 1) := by decide +kernel
theorem dX5_readNumber_17 : decode cX5_readNumber 17 = .ok (.getfield 9, 3) := by decide +kernel
theorem dX5_readNumber_20 : decode cX5_readNumber 20 = .ok (.aload_n 0, 1) := by decide +kernel
theorem dX5_readNumber_21 : decode cX5_readNumber 21 = .ok (.getfield 33, 3) := by decide +kernel
theorem dX5_readNumber_24 : decode cX5_readNumber 24 = .ok (.baload, 1) := by decide +kernel
theorem dX5_readNumber_25 : decode cX5_readNumber 25 = .ok (.invokestatic 83, 3) := by decide +kernel
theorem dX5_readNumber_28 : decode cX5_readNumber 28 = .ok (.ifCond .eq 40, 3) := by decide +kernel
theorem dX5_readNumber_31 : decode cX5_readNumber 31 = .ok (.aload_n 0, 1) := by decide +kernel
theorem dX5_readNumber_32 : decode cX5_readNumber 32 = .ok (.aload_n 0, 1) := by decide +kernel
theorem dX5_readNumber_33 : decode cX5_readNumber 33 = .ok (.getfield 73, 3) := by decide +kernel
theorem dX5_readNumber_36 : decode cX5_readNumber 36 = .ok (.bipush 10, 2) := by decide +kernel
theorem dX5_readNumber_38 : decode cX5_readNumber 38 = .ok (.imul, 1) := by decide +kernel
theorem dX5_readNumber_39 : decode cX5_readNumber 39 = .ok (.aload_n 0, 1) := by decide +kernel
theorem dX5_readNumber_40 : decode cX5_readNumber 40 = .ok (.getfield 9, 3) := by decide +kernel
theorem dX5_readNumber_43 : decode cX5_readNumber 43 = .ok (.aload_n 0, 1) := by decide +kernel
theorem dX5_readNumber_44 : decode cX5_readNumber 44 = .ok (.getfield 33, 3) := by decide +kernel
theorem dX5_readNumber_47 : decode cX5_readNumber 47 = .ok (.baload, 1) := by decide +kernel
