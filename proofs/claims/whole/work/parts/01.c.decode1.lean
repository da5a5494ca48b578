theorem dX0_init_0 : decode cX0_init 0 = .ok (.aload_n 0, 1) := by decide +kernel
theorem dX0_init_1 : decode cX0_init 1 = .ok (.invokespecial 3, 3) := by decide +kernel
theorem dX0_init_4 : decode cX0_init 4 = .ok (.aload_n 0, 1) := by decide +kernel
theorem dX0_init_5 : decode cX0_init 5 = .ok (.bipush 24, 2) := by decide +kernel
theorem dX0_init_7 : decode cX0_init 7 = .ok (.anewarray 9, 3) := by decide +kernel
theorem dX0_init_10 : decode cX0_init 10 = .ok (.putfield 11, 3) := by decide +kernel
theorem dX0_init_13 : decode cX0_init 13 = .ok (.iconst 0, 1) := by decide +kernel
theorem dX0_init_14 : decode cX0_init 14 = .ok (.istore_n 1, 1) := by decide +kernel
theorem dX0_init_15 : decode cX0_init 15 = .ok (.iload_n 1, 1) := by decide +kernel
theorem dX0_init_16 : decode cX0_init 16 = .ok (.aload_n 0, 1) := by decide +kernel
theorem dX0_init_17 : decode cX0_init 17 = .ok (.getfield 11, 3) := by decide +kernel
theorem dX0_init_20 : decode cX0_init 20 = .ok (.arraylength, 1) := by decide +kernel
theorem dX0_init_21 : decode cX0_init 21 = .ok (.if_icmp .ge 22, 3) := by decide +kernel
theorem dX0_init_24 : decode cX0_init 24 = .ok (.aload_n 0, 1) := by decide +kernel
theorem dX0_init_25 : decode cX0_init 25 = .ok (.getfield 11, 3) := by decide +kernel
theorem dX0_init_28 : decode cX0_init 28 = .ok (.iload_n 1, 1) := by decide +kernel
theorem dX0_init_29 : decode cX0_init 29 = .ok (.new 9, 3) := by decide +kernel
theorem dX0_init_32 : decode cX0_init 32 = .ok (.dup, 1) := by decide +kernel
theorem dX0_init_33 : decode cX0_init 33 = .ok (.invokespecial 17, 3) := by decide +kernel
theorem dX0_init_36 : decode cX0_init 36 = .ok (.aastore, 1) := by decide +kernel
theorem dX0_init_37 : decode cX0_init 37 = .ok (.iinc 1 1, 3) := by decide +kernel
theorem dX0_init_40 : decode cX0_init 40 = .ok (.goto (-25), 3) := by decide +kernel
theorem dX0_init_43 : decode cX0_init 43 = .ok (.return_, 1) := by decide +kernel
theorem dX0_keep_0 : decode cX0_keep 0 = .ok (.aload_n 0, 1) := by decide +kernel
theorem dX0_keep_1 : decode cX0_keep 1 = .ok (.getfield 18, 3) := by decide +kernel
theorem dX0_keep_4 : decode cX0_keep 4 = .ok (.aload_n 0, 1) := by decide +kernel
theorem dX0_keep_5 : decode cX0_keep 5 = .ok (.getfield 11, 3) := by decide +kernel
theorem dX0_keep_8 : decode cX0_keep 8 = .ok (.arraylength, 1) := by decide +kernel
theorem dX0_keep_9 : decode cX0_keep 9 = .ok (.if_icmp .lt 7, 3) := by decide +kernel
theorem dX0_keep_12 : decode cX0_keep 12 = .ok (.aload_n 0, 1) := by decide +kernel
theorem dX0_keep_13 : decode cX0_keep 13 = .ok (.invokevirtual 22, 3) := by decide +kernel
theorem dX0_keep_16 : decode cX0_keep 16 = .ok (.aload_n 0, 1) := by decide +kernel
theorem dX0_keep_17 : decode cX0_keep 17 = .ok (.aload_n 0, 1) := by decide +kernel
theorem dX0_keep_18 : decode cX0_keep 18 = .ok (.getfield 18, 3) := by decide +kernel
theorem dX0_keep_21 : decode cX0_keep 21 = .ok (.invokevirtual 25, 3) := by decide +kernel
theorem dX0_keep_24 : decode cX0_keep 24 = .ok (.astore_n 2, 1) := by decide +kernel
theorem dX0_keep_25 : decode cX0_keep 25 = .ok (.aload_n 2, 1) := by decide +kernel
theorem dX0_keep_26 : decode cX0_keep 26 = .ok (.ifnull 18, 3) := by decide +kernel
theorem dX0_keep_29 : decode cX0_keep 29 = .ok (.aload_n 2, 1) := by decide +kernel
theorem dX0_keep_30 : decode cX0_keep 30 = .ok (.aload_n 1, 1) := by decide +kernel
theorem dX0_keep_31 : decode cX0_keep 31 = .ok (.invokevirtual 29, 3) := by decide +kernel
theorem dX0_keep_34 : decode cX0_keep 34 = .ok (.aload_n 0, 1) := by decide +kernel
theorem dX0_keep_35 : decode cX0_keep 35 = .ok (.dup, 1) := by decide +kernel
theorem dX0_keep_36 : decode cX0_keep 36 = .ok (.getfield 18, 3) := by decide +kernel
theorem dX0_keep_39 : decode cX0_keep 39 = .ok (.iconst 1, 1) := by decide +kernel
theorem dX0_keep_40 : decode cX0_keep 40 = .ok (.iadd, 1) := by decide +kernel
theorem dX0_keep_41 : decode cX0_keep 41 = .ok (.putfield 18, 3) := by decide +kernel
theorem dX0_keep_44 : decode cX0_keep 44 = .ok (.return_, 1) := by decide +kernel
theorem dX0_forgetOldest_0 : decode cX0_forgetOldest 0 = .ok (.iconst 1, 1) := by decide +kernel
theorem dX0_forgetOldest_1 : decode cX0_forgetOldest 1 = .ok (.istore_n 1, 1) := by decide +kernel
theorem dX0_forgetOldest_2 : decode cX0_forgetOldest 2 = .ok (.iload_n 1, 1) := by decide +kernel
theorem dX0_forgetOldest_3 : decode cX0_forgetOldest 3 = .ok (.aload_n 0, 1) := by decide +kernel
theorem dX0_forgetOldest_4 : decode cX0_forgetOldest 4 = .ok (.getfield 11, 3) := by decide +kernel
theorem dX0_forgetOldest_7 : decode cX0_forgetOldest 7 = .ok (.arraylength, 1) := by decide +kernel
theorem dX0_forgetOldest_8 : decode cX0_forgetOldest 8 = .ok (.if_icmp .ge 39, 3) := by decide +kernel
theorem dX0_forgetOldest_11 : decode cX0_forgetOldest 11 = .ok (.aload_n 0, 1) := by decide +kernel
theorem dX0_forgetOldest_12 : decode cX0_forgetOldest 12 = .ok (.getfield 11, 3) := by decide +kernel
theorem dX0_forgetOldest_15 : decode cX0_forgetOldest 15 = .ok (.iload_n 1, 1) := by decide +kernel
theorem dX0_forgetOldest_16 : decode cX0_forgetOldest 16 = .ok (.aaload, 1) := by decide +kernel
theorem dX0_forgetOldest_17 : decode cX0_forgetOldest 17 = .ok (.astore_n 2, 1) := by decide +kernel
theorem dX0_forgetOldest_18 : decode cX0_forgetOldest 18 = .ok (.aload_n 0, 1) := by decide +kernel
theorem dX0_forgetOldest_19 : decode cX0_forgetOldest 19 = .ok (.getfield 11, 3) := by decide +kernel
theorem dX0_forgetOldest_22 : decode cX0_forgetOldest 22 = .ok (.iload_n 1, 1) := by decide +kernel
theorem dX0_forgetOldest_23 : decode cX0_forgetOldest 23 = .ok (.aload_n 0, 1) := by decide +kernel
theorem dX0_forgetOldest_24 : decode cX0_forgetOldest 24 = .ok (.getfield 11, 3) := by decide +kernel
theorem dX0_forgetOldest_27 : decode cX0_forgetOldest 27 = .ok (.iload_n 1, 1) := by decide +kernel
theorem dX0_forgetOldest_28 : decode cX0_forgetOldest 28 = .ok (.iconst 1, 1) := by decide +kernel
theorem dX0_forgetOldest_29 : decode cX0_forgetOldest 29 = .ok (.isub, 1) := by decide +kernel
theorem dX0_forgetOldest_30 : decode cX0_forgetOldest 30 = .ok (.aaload, 1) := by decide +kernel
theorem dX0_forgetOldest_31 : decode cX0_forgetOldest 31 = .ok (.aastore, 1) := by decide +kernel
theorem dX0_forgetOldest_32 : decode cX0_forgetOldest 32 = .ok (.aload_n 0, 1) := by decide +kernel
theorem dX0_forgetOldest_33 : decode cX0_forgetOldest 33 = .ok (.getfield 11, 3) := by decide +kernel
theorem dX0_forgetOldest_36 : decode cX0_forgetOldest 36 = .ok (.iload_n 1, 1) := by decide +kernel
theorem dX0_forgetOldest_37 : decode cX0_forgetOldest 37 = .ok (.iconst 1, 1) := by decide +kernel
theorem dX0_forgetOldest_38 : decode cX0_forgetOldest 38 = .ok (.isub, 1) := by decide +kernel
theorem dX0_forgetOldest_39 : decode cX0_forgetOldest 39 = .ok (.aload_n 2, 1) := by decide +kernel
theorem dX0_forgetOldest_40 : decode cX0_forgetOldest 40 = .ok (.aastore, 1) := by decide +kernel
theorem dX0_forgetOldest_41 : decode cX0_forgetOldest 41 = .ok (.iinc 1 1, 3) := by decide +kernel
theorem dX0_forgetOldest_44 : decode cX0_forgetOldest 44 = .ok (.goto (-42), 3) := by decide +kernel
theorem dX0_forgetOldest_47 : decode cX0_forgetOldest 47 = .ok (.aload_n 0, 1) := by decide +kernel
theorem dX0_forgetOldest_48 : decode cX0_forgetOldest 48 = .ok (.dup, 1) := by decide +kernel
theorem dX0_forgetOldest_49 : decode cX0_forgetOldest 49 = .ok (.getfield 18, 3) := by decide +kernel
theorem dX0_forgetOldest_52 : decode cX0_forgetOldest 52 = .ok (.iconst 1, 1) := by decide +kernel
theorem dX0_forgetOldest_53 : decode cX0_forgetOldest 53 = .ok (.isub, 1) := by decide +kernel
theorem dX0_forgetOldest_54 : decode cX0_forgetOldest 54 = .ok (.putfield 18, 3) := by decide +kernel
theorem dX0_forgetOldest_57 : decode cX0_forgetOldest 57 = .ok (.return_, 1) := by decide +kernel
theorem dX0_takeBack_0 : decode cX0_takeBack 0 = .ok (.aload_n 0, 1) := by decide +kernel
theorem dX0_takeBack_1 : decode cX0_takeBack 1 = .ok (.aload_n 0, 1) := by decide +kernel
theorem dX0_takeBack_2 : decode cX0_takeBack 2 = .ok (.getfield 18, 3) := by decide +kernel
theorem dX0_takeBack_5 : decode cX0_takeBack 5 = .ok (.iconst 1, 1) := by decide +kernel
theorem dX0_takeBack_6 : decode cX0_takeBack 6 = .ok (.isub, 1) := by decide +kernel
theorem dX0_takeBack_7 : decode cX0_takeBack 7 = .ok (.invokevirtual 25, 3) := by decide +kernel
theorem dX0_takeBack_10 : decode cX0_takeBack 10 = .ok (.astore_n 2, 1) := by decide +kernel
theorem dX0_takeBack_11 : decode cX0_takeBack 11 = .ok (.aload_n 2, 1) := by decide +kernel
theorem dX0_takeBack_12 : decode cX0_takeBack 12 = .ok (.ifnonnull 5, 3) := by decide +kernel
theorem dX0_takeBack_15 : decode cX0_takeBack 15 = .ok (.iconst 0, 1) := by decide +kernel
theorem dX0_takeBack_16 : decode cX0_takeBack 16 = .ok (.ireturn, 1) := by decide +kernel
theorem dX0_takeBack_17 : decode cX0_takeBack 17 = .ok (.aload_n 1, 1) := by decide +kernel
theorem dX0_takeBack_18 : decode cX0_takeBack 18 = .ok (.aload_n 2, 1) := by decide +kernel
theorem dX0_takeBack_19 : decode cX0_takeBack 19 = .ok (.invokevirtual 29, 3) := by decide +kernel
theorem dX0_takeBack_22 : decode cX0_takeBack 22 = .ok (.aload_n 0, 1) := by decide +kernel
theorem dX0_takeBack_23 : decode cX0_takeBack 23 = .ok (.dup, 1) := by decide +kernel
theorem dX0_takeBack_24 : decode cX0_takeBack 24 = .ok (.getfield 18, 3) := by decide +kernel
theorem dX0_takeBack_27 : decode cX0_takeBack 27 = .ok (.iconst 1, 1) := by decide +kernel
theorem dX0_takeBack_28 : decode cX0_takeBack 28 = .ok (.isub, 1) := by decide +kernel
theorem dX0_takeBack_29 : decode cX0_takeBack 29 = .ok (.putfield 18, 3) := by decide +kernel
theorem dX0_takeBack_32 : decode cX0_takeBack 32 = .ok (.iconst 1, 1) := by decide +kernel
theorem dX0_takeBack_33 : decode cX0_takeBack 33 = .ok (.ireturn, 1) := by decide +kernel
theorem dX0_at_0 : decode cX0_at 0 = .ok (.iload_n 1, 1) := by decide +kernel
theorem dX0_at_1 : decode cX0_at 1 = .ok (.ifCond .lt 21, 3) := by decide +kernel
theorem dX0_at_4 : decode cX0_at 4 = .ok (.iload_n 1, 1) := by decide +kernel
theorem dX0_at_5 : decode cX0_at 5 = .ok (.aload_n 0, 1) := by decide +kernel
theorem dX0_at_6 : decode cX0_at 6 = .ok (.getfield 11, 3) := by decide +kernel
theorem dX0_at_9 : decode cX0_at 9 = .ok (.arraylength, 1) := by decide +kernel
theorem dX0_at_10 : decode cX0_at 10 = .ok (.if_icmp .ge 12, 3) := by decide +kernel
theorem dX0_at_13 : decode cX0_at 13 = .ok (.aload_n 0, 1) := by decide +kernel
theorem dX0_at_14 : decode cX0_at 14 = .ok (.getfield 11, 3) := by decide +kernel
theorem dX0_at_17 : decode cX0_at 17 = .ok (.iload_n 1, 1) := by decide +kernel
theorem dX0_at_18 : decode cX0_at 18 = .ok (.aaload, 1) := by decide +kernel
theorem dX0_at_19 : decode cX0_at 19 = .ok (.goto 4, 3) := by decide +kernel
theorem dX0_at_22 : decode cX0_at 22 = .ok (.aconst_null, 1) := by decide +kernel
theorem dX0_at_23 : decode cX0_at 23 = .ok (.areturn, 1) := by decide +kernel
theorem dX1_init_0 : decode cX1_init 0 = .ok (.aload_n 0, 1) := by decide +kernel
theorem dX1_init_1 : decode cX1_init 1 = .ok (.invokespecial 3, 3) := by decide +kernel
theorem dX1_init_4 : decode cX1_init 4 = .ok (.aload_n 0, 1) := by decide +kernel
theorem dX1_init_5 : decode cX1_init 5 = .ok (.bipush 16, 2) := by decide +kernel
theorem dX1_init_7 : decode cX1_init 7 = .ok (.newarray .int, 2) := by decide +kernel
theorem dX1_init_9 : decode cX1_init 9 = .ok (.putfield 9, 3) := by decide +kernel
theorem dX1_init_12 : decode cX1_init 12 = .ok (.return_, 1) := by decide +kernel
theorem dX1_begin_0 : decode cX1_begin 0 = .ok (.aload_n 0, 1) := by decide +kernel
theorem dX1_begin_1 : decode cX1_begin 1 = .ok (.getfield 15, 3) := by decide +kernel
theorem dX1_begin_4 : decode cX1_begin 4 = .ok (.ifCond .lt 35, 3) := by decide +kernel
theorem dX1_begin_7 : decode cX1_begin 7 = .ok (.aload_n 0, 1) := by decide +kernel
theorem dX1_begin_8 : decode cX1_begin 8 = .ok (.getfield 15, 3) := by decide +kernel
theorem dX1_begin_11 : decode cX1_begin 11 = .ok (.aload_n 0, 1) := by decide +kernel
theorem dX1_begin_12 : decode cX1_begin 12 = .ok (.getfield 9, 3) := by decide +kernel
theorem dX1_begin_15 : decode cX1_begin 15 = .ok (.arraylength, 1) := by decide +kernel
theorem dX1_begin_16 : decode cX1_begin 16 = .ok (.if_icmp .ge 23, 3) := by decide +kernel
theorem dX1_begin_19 : decode cX1_begin 19 = .ok (.aload_n 0, 1) := by decide +kernel
theorem dX1_begin_20 : decode cX1_begin 20 = .ok (.getfield 9, 3) := by decide +kernel
theorem dX1_begin_23 : decode cX1_begin 23 = .ok (.aload_n 0, 1) := by decide +kernel
theorem dX1_begin_24 : decode cX1_begin 24 = .ok (.getfield 15, 3) := by decide +kernel
theorem dX1_begin_27 : decode cX1_begin 27 = .ok (.iload_n 1, 1) := by decide +kernel
theorem dX1_begin_28 : decode cX1_begin 28 = .ok (.iastore, 1) := by decide +kernel
theorem dX1_begin_29 : decode cX1_begin 29 = .ok (.aload_n 0, 1) := by decide +kernel
theorem dX1_begin_30 : decode cX1_begin 30 = .ok (.dup, 1) := by decide +kernel
theorem dX1_begin_31 : decode cX1_begin 31 = .ok (.getfield 15, 3) := by decide +kernel
theorem dX1_begin_34 : decode cX1_begin 34 = .ok (.iconst 1, 1) := by decide +kernel
theorem dX1_begin_35 : decode cX1_begin 35 = .ok (.iadd, 1) := by decide +kernel
theorem dX1_begin_36 : decode cX1_begin 36 = .ok (.putfield 15, 3) := by decide +kernel
theorem dX1_begin_39 : decode cX1_begin 39 = .ok (.return_, 1) := by decide +kernel
theorem dX1_bodyAt_0 : decode cX1_bodyAt 0 = .ok (.iload_n 1, 1) := by decide +kernel
theorem dX1_bodyAt_1 : decode cX1_bodyAt 1 = .ok (.ifCond .lt 29, 3) := by decide +kernel
theorem dX1_bodyAt_4 : decode cX1_bodyAt 4 = .ok (.iload_n 1, 1) := by decide +kernel
theorem dX1_bodyAt_5 : decode cX1_bodyAt 5 = .ok (.aload_n 0, 1) := by decide +kernel
theorem dX1_bodyAt_6 : decode cX1_bodyAt 6 = .ok (.getfield 15, 3) := by decide +kernel
theorem dX1_bodyAt_9 : decode cX1_bodyAt 9 = .ok (.if_icmp .ge 21, 3) := by decide +kernel
theorem dX1_bodyAt_12 : decode cX1_bodyAt 12 = .ok (.iload_n 1, 1) := by decide +kernel
theorem dX1_bodyAt_13 : decode cX1_bodyAt 13 = .ok (.aload_n 0, 1) := by decide +kernel
theorem dX1_bodyAt_14 : decode cX1_bodyAt 14 = .ok (.getfield 9, 3) := by decide +kernel
theorem dX1_bodyAt_17 : decode cX1_bodyAt 17 = .ok (.arraylength, 1) := by decide +kernel
theorem dX1_bodyAt_18 : decode cX1_bodyAt 18 = .ok (.if_icmp .ge 12, 3) := by decide +kernel
theorem dX1_bodyAt_21 : decode cX1_bodyAt 21 = .ok (.aload_n 0, 1) := by decide +kernel
theorem dX1_bodyAt_22 : decode cX1_bodyAt 22 = .ok (.getfield 9, 3) := by decide +kernel
theorem dX1_bodyAt_25 : decode cX1_bodyAt 25 = .ok (.iload_n 1, 1) := by decide +kernel
theorem dX1_bodyAt_26 : decode cX1_bodyAt 26 = .ok (.iaload, 1) := by decide +kernel
theorem dX1_bodyAt_27 : decode cX1_bodyAt 27 = .ok (.goto 5, 3) := by decide +kernel
theorem dX1_bodyAt_30 : decode cX1_bodyAt 30 = .ok (.ldc 19, 2) := by decide +kernel
theorem dX1_bodyAt_32 : decode cX1_bodyAt 32 = .ok (.ireturn, 1) := by decide +kernel
theorem dX1_askSize_0 : decode cX1_askSize 0 = .ok (.aload_n 1, 1) := by decide +kernel
theorem dX1_askSize_1 : decode cX1_askSize 1 = .ok (.getfield 20, 3) := by decide +kernel
theorem dX1_askSize_4 : decode cX1_askSize 4 = .ok (.tableswitch 61 1 5 #[36, 42, 36, 55, 55], 36) := by decide +kernel
theorem dX1_askSize_40 : decode cX1_askSize 40 = .ok (.aload_n 0, 1) := by decide +kernel
theorem dX1_askSize_41 : decode cX1_askSize 41 = .ok (.aload_n 1, 1) := by decide +kernel
theorem dX1_askSize_42 : decode cX1_askSize 42 = .ok (.invokevirtual 25, 3) := by decide +kernel
theorem dX1_askSize_45 : decode cX1_askSize 45 = .ok (.ireturn, 1) := by decide +kernel
theorem dX1_askSize_46 : decode cX1_askSize 46 = .ok (.aload_n 0, 1) := by decide +kernel
theorem dX1_askSize_47 : decode cX1_askSize 47 = .ok (.bipush 12, 2) := by decide +kernel
theorem dX1_askSize_49 : decode cX1_askSize 49 = .ok (.invokevirtual 29, 3) := by decide +kernel
theorem dX1_askSize_52 : decode cX1_askSize 52 = .ok (.aload_n 0, 1) := by decide +kernel
theorem dX1_askSize_53 : decode cX1_askSize 53 = .ok (.aload_n 1, 1) := by decide +kernel
theorem dX1_askSize_54 : decode cX1_askSize 54 = .ok (.invokevirtual 25, 3) := by decide +kernel
theorem dX1_askSize_57 : decode cX1_askSize 57 = .ok (.ineg, 1) := by decide +kernel
theorem dX1_askSize_58 : decode cX1_askSize 58 = .ok (.ireturn, 1) := by decide +kernel
theorem dX1_askSize_59 : decode cX1_askSize 59 = .ok (.aload_n 0, 1) := by decide +kernel
theorem dX1_askSize_60 : decode cX1_askSize 60 = .ok (.aload_n 1, 1) := by decide +kernel
theorem dX1_askSize_61 : decode cX1_askSize 61 = .ok (.invokevirtual 33, 3) := by decide +kernel
theorem dX1_askSize_64 : decode cX1_askSize 64 = .ok (.ireturn, 1) := by decide +kernel
theorem dX1_askSize_65 : decode cX1_askSize 65 = .ok (.aload_n 0, 1) := by decide +kernel
theorem dX1_askSize_66 : decode cX1_askSize 66 = .ok (.aload_n 1, 1) := by decide +kernel
theorem dX1_askSize_67 : decode cX1_askSize 67 = .ok (.invokevirtual 36, 3) := by decide +kernel
theorem dX1_askSize_70 : decode cX1_askSize 70 = .ok (.ireturn, 1) := by decide +kernel
theorem dX1_askGloveSize_0 : decode cX1_askGloveSize 0 = .ok (.aload_n 1, 1) := by decide +kernel
theorem dX1_askGloveSize_1 : decode cX1_askGloveSize 1 = .ok (.getfield 20, 3) := by decide +kernel
theorem dX1_askGloveSize_4 : decode cX1_askGloveSize 4 = .ok (.iconst 5, 1) := by decide +kernel
theorem dX1_askGloveSize_5 : decode cX1_askGloveSize 5 = .ok (.if_icmp .ne 17, 3) := by decide +kernel
theorem dX1_askGloveSize_8 : decode cX1_askGloveSize 8 = .ok (.aload_n 0, 1) := by decide +kernel
theorem dX1_askGloveSize_9 : decode cX1_askGloveSize 9 = .ok (.bipush 14, 2) := by decide +kernel
theorem dX1_askGloveSize_11 : decode cX1_askGloveSize 11 = .ok (.invokevirtual 29, 3) := by decide +kernel
theorem dX1_askGloveSize_14 : decode cX1_askGloveSize 14 = .ok (.iconst 2, 1) := by decide +kernel
theorem dX1_askGloveSize_15 : decode cX1_askGloveSize 15 = .ok (.aload_n 0, 1) := by decide +kernel
theorem dX1_askGloveSize_16 : decode cX1_askGloveSize 16 = .ok (.aload_n 1, 1) := by decide +kernel
theorem dX1_askGloveSize_17 : decode cX1_askGloveSize 17 = .ok (.invokevirtual 39, 3) := by decide +kernel
theorem dX1_askGloveSize_20 : decode cX1_askGloveSize 20 = .ok (.imul, 1) := by decide +kernel
theorem dX1_askGloveSize_21 : decode cX1_askGloveSize 21 = .ok (.ireturn, 1) := by decide +kernel
theorem dX1_askGloveSize_22 : decode cX1_askGloveSize 22 = .ok (.aload_n 0, 1) := by decide +kernel
theorem dX1_askGloveSize_23 : decode cX1_askGloveSize 23 = .ok (.aload_n 1, 1) := by decide +kernel
theorem dX1_askGloveSize_24 : decode cX1_askGloveSize 24 = .ok (.invokevirtual 39, 3) := by decide +kernel
theorem dX1_askGloveSize_27 : decode cX1_askGloveSize 27 = .ok (.ireturn, 1) := by decide +kernel
theorem dX1_askMark_0 : decode cX1_askMark 0 = .ok (.aload_n 1, 1) := by decide +kernel
theorem dX1_askMark_1 : decode cX1_askMark 1 = .ok (.getfield 20, 3) := by decide +kernel
theorem dX1_askMark_4 : decode cX1_askMark 4 = .ok (.tableswitch 60 1 5 #[36, 36, 36, 42, 42], 36) := by decide +kernel
theorem dX1_askMark_40 : decode cX1_askMark 40 = .ok (.aload_n 0, 1) := by decide +kernel
theorem dX1_askMark_41 : decode cX1_askMark 41 = .ok (.aload_n 1, 1) := by decide +kernel
theorem dX1_askMark_42 : decode cX1_askMark 42 = .ok (.invokevirtual 42, 3) := by decide +kernel
theorem dX1_askMark_45 : decode cX1_askMark 45 = .ok (.ireturn, 1) := by decide +kernel
theorem dX1_askMark_46 : decode cX1_askMark 46 = .ok (.aload_n 0, 1) := by decide +kernel
theorem dX1_askMark_47 : decode cX1_askMark 47 = .ok (.bipush 23, 2) := by decide +kernel
theorem dX1_askMark_49 : decode cX1_askMark 49 = .ok (.invokevirtual 29, 3) := by decide +kernel
theorem dX1_askMark_52 : decode cX1_askMark 52 = .ok (.aload_n 0, 1) := by decide +kernel
theorem dX1_askMark_53 : decode cX1_askMark 53 = .ok (.aload_n 1, 1) := by decide +kernel
theorem dX1_askMark_54 : decode cX1_askMark 54 = .ok (.invokevirtual 45, 3) := by decide +kernel
theorem dX1_askMark_57 : decode cX1_askMark 57 = .ok (.aload_n 0, 1) := by decide +kernel
theorem dX1_askMark_58 : decode cX1_askMark 58 = .ok (.aload_n 1, 1) := by decide +kernel
theorem dX1_askMark_59 : decode cX1_askMark 59 = .ok (.invokevirtual 33, 3) := by decide +kernel
theorem dX1_askMark_62 : decode cX1_askMark 62 = .ok (.isub, 1) := by decide +kernel
theorem dX1_askMark_63 : decode cX1_askMark 63 = .ok (.ireturn, 1) := by decide +kernel
theorem dX1_askMark_64 : decode cX1_askMark 64 = .ok (.aload_n 0, 1) := by decide +kernel
theorem dX1_askMark_65 : decode cX1_askMark 65 = .ok (.aload_n 1, 1) := by decide +kernel
theorem dX1_askMark_66 : decode cX1_askMark 66 = .ok (.invokevirtual 45, 3) := by decide +kernel
theorem dX1_askMark_69 : decode cX1_askMark 69 = .ok (.ireturn, 1) := by decide +kernel
theorem dX1_askSmallMark_0 : decode cX1_askSmallMark 0 = .ok (.aload_n 1, 1) := by decide +kernel
theorem dX1_askSmallMark_1 : decode cX1_askSmallMark 1 = .ok (.getfield 20, 3) := by decide +kernel
theorem dX1_askSmallMark_4 : decode cX1_askSmallMark 4 = .ok (.lookupswitch 58 #[(2, 28), (3, 42)], 28) := by decide +kernel
theorem dX1_askSmallMark_32 : decode cX1_askSmallMark 32 = .ok (.aload_n 0, 1) := by decide +kernel
theorem dX1_askSmallMark_33 : decode cX1_askSmallMark 33 = .ok (.bipush 24, 2) := by decide +kernel
theorem dX1_askSmallMark_35 : decode cX1_askSmallMark 35 = .ok (.invokevirtual 29, 3) := by decide +kernel
theorem dX1_askSmallMark_38 : decode cX1_askSmallMark 38 = .ok (.iconst 2, 1) := by decide +kernel
theorem dX1_askSmallMark_39 : decode cX1_askSmallMark 39 = .ok (.aload_n 0, 1) := by decide +kernel
theorem dX1_askSmallMark_40 : decode cX1_askSmallMark 40 = .ok (.aload_n 1, 1) := by decide +kernel
theorem dX1_askSmallMark_41 : decode cX1_askSmallMark 41 = .ok (.invokevirtual 48, 3) := by decide +kernel
theorem dX1_askSmallMark_44 : decode cX1_askSmallMark 44 = .ok (.imul, 1) := by decide +kernel
theorem dX1_askSmallMark_45 : decode cX1_askSmallMark 45 = .ok (.ireturn, 1) := by decide +kernel
theorem dX1_askSmallMark_46 : decode cX1_askSmallMark 46 = .ok (.aload_n 0, 1) := by decide +kernel
theorem dX1_askSmallMark_47 : decode cX1_askSmallMark 47 = .ok (.bipush 22, 2) := by decide +kernel
theorem dX1_askSmallMark_49 : decode cX1_askSmallMark 49 = .ok (.invokevirtual 29, 3) := by decide +kernel
theorem dX1_askSmallMark_52 : decode cX1_askSmallMark 52 = .ok (.aload_n 0, 1) := by decide +kernel
theorem dX1_askSmallMark_53 : decode cX1_askSmallMark 53 = .ok (.aload_n 1, 1) := by decide +kernel
theorem dX1_askSmallMark_54 : decode cX1_askSmallMark 54 = .ok (.invokevirtual 48, 3) := by decide +kernel
theorem dX1_askSmallMark_57 : decode cX1_askSmallMark 57 = .ok (.sipush 1000, 3) := by decide +kernel
theorem dX1_askSmallMark_60 : decode cX1_askSmallMark 60 = .ok (.isub, 1) := by decide +kernel
theorem dX1_askSmallMark_61 : decode cX1_askSmallMark 61 = .ok (.ireturn, 1) := by decide +kernel
theorem dX1_askSmallMark_62 : decode cX1_askSmallMark 62 = .ok (.aload_n 0, 1) := by decide +kernel
theorem dX1_askSmallMark_63 : decode cX1_askSmallMark 63 = .ok (.aload_n 1, 1) := by decide +kernel
theorem dX1_askSmallMark_64 : decode cX1_askSmallMark 64 = .ok (.invokevirtual 48, 3) := by decide +kernel
theorem dX1_askSmallMark_67 : decode cX1_askSmallMark 67 = .ok (.ireturn, 1) := by decide +kernel
theorem dX1_body10_0 : decode cX1_body10 0 = .ok (.aload_n 0, 1) := by decide +kernel
theorem dX1_body10_1 : decode cX1_body10 1 = .ok (.bipush 10, 2) := by decide +kernel
theorem dX1_body10_3 : decode cX1_body10 3 = .ok (.invokevirtual 29, 3) := by decide +kernel
theorem dX1_body10_6 : decode cX1_body10 6 = .ok (.aload_n 1, 1) := by decide +kernel
theorem dX1_body10_7 : decode cX1_body10 7 = .ok (.getfield 51, 3) := by decide +kernel
theorem dX1_body10_10 : decode cX1_body10 10 = .ok (.ireturn, 1) := by decide +kernel
theorem dX1_body11_0 : decode cX1_body11 0 = .ok (.aload_n 0, 1) := by decide +kernel
theorem dX1_body11_1 : decode cX1_body11 1 = .ok (.bipush 11, 2) := by decide +kernel
theorem dX1_body11_3 : decode cX1_body11 3 = .ok (.invokevirtual 29, 3) := by decide +kernel
theorem dX1_body11_6 : decode cX1_body11 6 = .ok (.aload_n 0, 1) := by decide +kernel
theorem dX1_body11_7 : decode cX1_body11 7 = .ok (.aload_n 1, 1) := by decide +kernel
theorem dX1_body11_8 : decode cX1_body11 8 = .ok (.invokevirtual 36, 3) := by decide +kernel
theorem dX1_body11_11 : decode cX1_body11 11 = .ok (.aload_n 0, 1) := by decide +kernel
theorem dX1_body11_12 : decode cX1_body11 12 = .ok (.aload_n 1, 1) := by decide +kernel
theorem dX1_body11_13 : decode cX1_body11 13 = .ok (.invokevirtual 42, 3) := by decide +kernel
theorem dX1_body11_16 : decode cX1_body11 16 = .ok (.iadd, 1) := by decide +kernel
theorem dX1_body11_17 : decode cX1_body11 17 = .ok (.ireturn, 1) := by decide +kernel
theorem dX1_body13_0 : decode cX1_body13 0 = .ok (.aload_n 0, 1) := by decide +kernel
theorem dX1_body13_1 : decode cX1_body13 1 = .ok (.bipush 13, 2) := by decide +kernel
theorem dX1_body13_3 : decode cX1_body13 3 = .ok (.invokevirtual 29, 3) := by decide +kernel
theorem dX1_body13_6 : decode cX1_body13 6 = .ok (.aload_n 0, 1) := by decide +kernel
theorem dX1_body13_7 : decode cX1_body13 7 = .ok (.aload_n 1, 1) := by decide +kernel
theorem dX1_body13_8 : decode cX1_body13 8 = .ok (.invokevirtual 36, 3) := by decide +kernel
theorem dX1_body13_11 : decode cX1_body13 11 = .ok (.bipush 100, 2) := by decide +kernel
theorem dX1_body13_13 : decode cX1_body13 13 = .ok (.isub, 1) := by decide +kernel
theorem dX1_body13_14 : decode cX1_body13 14 = .ok (.ireturn, 1) := by decide +kernel
theorem dX1_body20_0 : decode cX1_body20 0 = .ok (.aload_n 0, 1) := by decide +kernel
theorem dX1_body20_1 : decode cX1_body20 1 = .ok (.bipush 20, 2) := by decide +kernel
theorem dX1_body20_3 : decode cX1_body20 3 = .ok (.invokevirtual 29, 3) := by decide +kernel
theorem dX1_body20_6 : decode cX1_body20 6 = .ok (.aload_n 1, 1) := by decide +kernel
theorem dX1_body20_7 : decode cX1_body20 7 = .ok (.getfield 54, 3) := by decide +kernel
theorem dX1_body20_10 : decode cX1_body20 10 = .ok (.ireturn, 1) := by decide +kernel
theorem dX1_body21_0 : decode cX1_body21 0 = .ok (.aload_n 0, 1) := by decide +kernel
theorem dX1_body21_1 : decode cX1_body21 1 = .ok (.bipush 21, 2) := by decide +kernel
theorem dX1_body21_3 : decode cX1_body21 3 = .ok (.invokevirtual 29, 3) := by decide +kernel
theorem dX1_body21_6 : decode cX1_body21 6 = .ok (.aload_n 0, 1) := by decide +kernel
theorem dX1_body21_7 : decode cX1_body21 7 = .ok (.aload_n 1, 1) := by decide +kernel
theorem dX1_body21_8 : decode cX1_body21 8 = .ok (.invokevirtual 45, 3) := by decide +kernel
theorem dX1_body21_11 : decode cX1_body21 11 = .ok (.aload_n 1, 1) := by decide +kernel
theorem dX1_body21_12 : decode cX1_body21 12 = .ok (.getfield 57, 3) := by decide +kernel
theorem dX1_body21_15 : decode cX1_body21 15 = .ok (.iadd, 1) := by decide +kernel
theorem dX1_body21_16 : decode cX1_body21 16 = .ok (.ireturn, 1) := by decide +kernel
theorem dX2_init_0 : decode cX2_init 0 = .ok (.aload_n 0, 1) := by decide +kernel
theorem dX2_init_1 : decode cX2_init 1 = .ok (.invokespecial 3, 3) := by decide +kernel
theorem dX2_init_4 : decode cX2_init 4 = .ok (.aload_n 0, 1) := by decide +kernel
theorem dX2_init_5 : decode cX2_init 5 = .ok (.iload_n 1, 1) := by decide +kernel
theorem dX2_init_6 : decode cX2_init 6 = .ok (.putfield 9, 3) := by decide +kernel
theorem dX2_init_9 : decode cX2_init 9 = .ok (.return_, 1) := by decide +kernel
theorem dX2_takeFrom_0 : decode cX2_takeFrom 0 = .ok (.aload_n 0, 1) := by decide +kernel
theorem dX2_takeFrom_1 : decode cX2_takeFrom 1 = .ok (.aload_n 1, 1) := by decide +kernel
theorem dX2_takeFrom_2 : decode cX2_takeFrom 2 = .ok (.getfield 15, 3) := by decide +kernel
theorem dX2_takeFrom_5 : decode cX2_takeFrom 5 = .ok (.putfield 15, 3) := by decide +kernel
theorem dX2_takeFrom_8 : decode cX2_takeFrom 8 = .ok (.aload_n 0, 1) := by decide +kernel
theorem dX2_takeFrom_9 : decode cX2_takeFrom 9 = .ok (.aload_n 1, 1) := by decide +kernel
theorem dX2_takeFrom_10 : decode cX2_takeFrom 10 = .ok (.getfield 18, 3) := by decide +kernel
theorem dX2_takeFrom_13 : decode cX2_takeFrom 13 = .ok (.putfield 18, 3) := by decide +kernel
theorem dX2_takeFrom_16 : decode cX2_takeFrom 16 = .ok (.aload_n 0, 1) := by decide +kernel
theorem dX2_takeFrom_17 : decode cX2_takeFrom 17 = .ok (.aload_n 1, 1) := by decide +kernel
theorem dX2_takeFrom_18 : decode cX2_takeFrom 18 = .ok (.getfield 21, 3) := by decide +kernel
theorem dX2_takeFrom_21 : decode cX2_takeFrom 21 = .ok (.putfield 21, 3) := by decide +kernel
theorem dX2_takeFrom_24 : decode cX2_takeFrom 24 = .ok (.aload_n 0, 1) := by decide +kernel
theorem dX2_takeFrom_25 : decode cX2_takeFrom 25 = .ok (.aload_n 1, 1) := by decide +kernel
theorem dX2_takeFrom_26 : decode cX2_takeFrom 26 = .ok (.getfield 24, 3) := by decide +kernel
theorem dX2_takeFrom_29 : decode cX2_takeFrom 29 = .ok (.putfield 24, 3) := by decide +kernel
theorem dX2_takeFrom_32 : decode cX2_takeFrom 32 = .ok (.return_, 1) := by decide +kernel
theorem dX2_might_0 : decode cX2_might 0 = .ok (.aload_n 0, 1) := by decide +kernel
theorem dX2_might_1 : decode cX2_might 1 = .ok (.getfield 15, 3) := by decide +kernel
theorem dX2_might_4 : decode cX2_might 4 = .ok (.iconst 2, 1) := by decide +kernel
theorem dX2_might_5 : decode cX2_might 5 = .ok (.if_icmp .ne 12, 3) := by decide +kernel
theorem dX2_might_8 : decode cX2_might 8 = .ok (.iconst 2, 1) := by decide +kernel
theorem dX2_might_9 : decode cX2_might 9 = .ok (.aload_n 0, 1) := by decide +kernel
theorem dX2_might_10 : decode cX2_might 10 = .ok (.getfield 18, 3) := by decide +kernel
theorem dX2_might_13 : decode cX2_might 13 = .ok (.imul, 1) := by decide +kernel
theorem dX2_might_14 : decode cX2_might 14 = .ok (.goto 7, 3) := by decide +kernel
theorem dX2_might_17 : decode cX2_might 17 = .ok (.aload_n 0, 1) := by decide +kernel
theorem dX2_might_18 : decode cX2_might 18 = .ok (.getfield 18, 3) := by decide +kernel
theorem dX2_might_21 : decode cX2_might 21 = .ok (.ireturn, 1) := by decide +kernel
theorem dX2_isOne_0 : decode cX2_isOne 0 = .ok (.iload_n 1, 1) := by decide +kernel
theorem dX2_isOne_1 : decode cX2_isOne 1 = .ok (.tableswitch 89 0 4 #[35, 37, 89, 89, 67], 35) := by decide +kernel
theorem dX2_isOne_36 : decode cX2_isOne 36 = .ok (.iconst 1, 1) := by decide +kernel
theorem dX2_isOne_37 : decode cX2_isOne 37 = .ok (.ireturn, 1) := by decide +kernel
theorem dX2_isOne_38 : decode cX2_isOne 38 = .ok (.aload_n 0, 1) := by decide +kernel
theorem dX2_isOne_39 : decode cX2_isOne 39 = .ok (.getfield 15, 3) := by decide +kernel
theorem dX2_isOne_42 : decode cX2_isOne 42 = .ok (.iconst 1, 1) := by decide +kernel
theorem dX2_isOne_43 : decode cX2_isOne 43 = .ok (.if_icmp .eq 19, 3) := by decide +kernel
theorem dX2_isOne_46 : decode cX2_isOne 46 = .ok (.aload_n 0, 1) := by decide +kernel
theorem dX2_isOne_47 : decode cX2_isOne 47 = .ok (.getfield 15, 3) := by decide +kernel
theorem dX2_isOne_50 : decode cX2_isOne 50 = .ok (.iconst 2, 1) := by decide +kernel
theorem dX2_isOne_51 : decode cX2_isOne 51 = .ok (.if_icmp .eq 11, 3) := by decide +kernel
theorem dX2_isOne_54 : decode cX2_isOne 54 = .ok (.aload_n 0, 1) := by decide +kernel
theorem dX2_isOne_55 : decode cX2_isOne 55 = .ok (.getfield 15, 3) := by decide +kernel
theorem dX2_isOne_58 : decode cX2_isOne 58 = .ok (.iconst 3, 1) := by decide +kernel
theorem dX2_isOne_59 : decode cX2_isOne 59 = .ok (.if_icmp .ne 7, 3) := by decide +kernel
theorem dX2_isOne_62 : decode cX2_isOne 62 = .ok (.iconst 1, 1) := by decide +kernel
theorem dX2_isOne_63 : decode cX2_isOne 63 = .ok (.goto 4, 3) := by decide +kernel
theorem dX2_isOne_66 : decode cX2_isOne 66 = .ok (.iconst 0, 1) := by decide +kernel
theorem dX2_isOne_67 : decode cX2_isOne 67 = .ok (.ireturn, 1) := by decide +kernel
theorem dX2_isOne_68 : decode cX2_isOne 68 = .ok (.aload_n 0, 1) := by decide +kernel
theorem dX2_isOne_69 : decode cX2_isOne 69 = .ok (.getfield 15, 3) := by decide +kernel
theorem dX2_isOne_72 : decode cX2_isOne 72 = .ok (.iconst 4, 1) := by decide +kernel
theorem dX2_isOne_73 : decode cX2_isOne 73 = .ok (.if_icmp .eq 11, 3) := by decide +kernel
theorem dX2_isOne_76 : decode cX2_isOne 76 = .ok (.aload_n 0, 1) := by decide +kernel
theorem dX2_isOne_77 : decode cX2_isOne 77 = .ok (.getfield 15, 3) := by decide +kernel
theorem dX2_isOne_80 : decode cX2_isOne 80 = .ok (.iconst 5, 1) := by decide +kernel
theorem dX2_isOne_81 : decode cX2_isOne 81 = .ok (.if_icmp .ne 7, 3) := by decide +kernel
theorem dX2_isOne_84 : decode cX2_isOne 84 = .ok (.iconst 1, 1) := by decide +kernel
theorem dX2_isOne_85 : decode cX2_isOne 85 = .ok (.goto 4, 3) := by decide +kernel
theorem dX2_isOne_88 : decode cX2_isOne 88 = .ok (.iconst 0, 1) := by decide +kernel
theorem dX2_isOne_89 : decode cX2_isOne 89 = .ok (.ireturn, 1) := by decide +kernel
theorem dX2_isOne_90 : decode cX2_isOne 90 = .ok (.aload_n 0, 1) := by decide +kernel
theorem dX2_isOne_91 : decode cX2_isOne 91 = .ok (.getfield 15, 3) := by decide +kernel
theorem dX2_isOne_94 : decode cX2_isOne 94 = .ok (.iload_n 1, 1) := by decide +kernel
theorem dX2_isOne_95 : decode cX2_isOne 95 = .ok (.if_icmp .ne 7, 3) := by decide +kernel
theorem dX2_isOne_98 : decode cX2_isOne 98 = .ok (.iconst 1, 1) := by decide +kernel
theorem dX2_isOne_99 : decode cX2_isOne 99 = .ok (.goto 4, 3) := by decide +kernel
theorem dX2_isOne_102 : decode cX2_isOne 102 = .ok (.iconst 0, 1) := by decide +kernel
theorem dX2_isOne_103 : decode cX2_isOne 103 = .ok (.ireturn, 1) := by decide +kernel
theorem dX2_powerBy_0 : decode cX2_powerBy 0 = .ok (.aload_n 0, 1) := by decide +kernel
theorem dX2_powerBy_1 : decode cX2_powerBy 1 = .ok (.getfield 15, 3) := by decide +kernel
theorem dX2_powerBy_4 : decode cX2_powerBy 4 = .ok (.tableswitch 75 3 5 #[54, 41, 28], 28) := by decide +kernel
theorem dX2_powerBy_32 : decode cX2_powerBy 32 = .ok (.aload_n 0, 1) := by decide +kernel
theorem dX2_powerBy_33 : decode cX2_powerBy 33 = .ok (.getfield 18, 3) := by decide +kernel
theorem dX2_powerBy_36 : decode cX2_powerBy 36 = .ok (.iconst 3, 1) := by decide +kernel
theorem dX2_powerBy_37 : decode cX2_powerBy 37 = .ok (.iload_n 1, 1) := by decide +kernel
theorem dX2_powerBy_38 : decode cX2_powerBy 38 = .ok (.isub, 1) := by decide +kernel
theorem dX2_powerBy_39 : decode cX2_powerBy 39 = .ok (.imul, 1) := by decide +kernel
theorem dX2_powerBy_40 : decode cX2_powerBy 40 = .ok (.iconst 0, 1) := by decide +kernel
theorem dX2_powerBy_41 : decode cX2_powerBy 41 = .ok (.invokestatic 27, 3) := by decide +kernel
theorem dX2_powerBy_44 : decode cX2_powerBy 44 = .ok (.ireturn, 1) := by decide +kernel
theorem dX2_powerBy_45 : decode cX2_powerBy 45 = .ok (.aload_n 0, 1) := by decide +kernel
theorem dX2_powerBy_46 : decode cX2_powerBy 46 = .ok (.getfield 18, 3) := by decide +kernel
theorem dX2_powerBy_49 : decode cX2_powerBy 49 = .ok (.iconst 2, 1) := by decide +kernel
theorem dX2_powerBy_50 : decode cX2_powerBy 50 = .ok (.iload_n 1, 1) := by decide +kernel
theorem dX2_powerBy_51 : decode cX2_powerBy 51 = .ok (.isub, 1) := by decide +kernel
theorem dX2_powerBy_52 : decode cX2_powerBy 52 = .ok (.imul, 1) := by decide +kernel
theorem dX2_powerBy_53 : decode cX2_powerBy 53 = .ok (.iconst 0, 1) := by decide +kernel
theorem dX2_powerBy_54 : decode cX2_powerBy 54 = .ok (.invokestatic 27, 3) := by decide +kernel
theorem dX2_powerBy_57 : decode cX2_powerBy 57 = .ok (.ireturn, 1) := by decide +kernel
theorem dX2_powerBy_58 : decode cX2_powerBy 58 = .ok (.iload_n 1, 1) := by decide +kernel
theorem dX2_powerBy_59 : decode cX2_powerBy 59 = .ok (.ifCond .ne 18, 3) := by decide +kernel
theorem dX2_powerBy_62 : decode cX2_powerBy 62 = .ok (.aload_n 0, 1) := by decide +kernel
theorem dX2_powerBy_63 : decode cX2_powerBy 63 = .ok (.getfield 18, 3) := by decide +kernel
theorem dX2_powerBy_66 : decode cX2_powerBy 66 = .ok (.iconst 2, 1) := by decide +kernel
theorem dX2_powerBy_67 : decode cX2_powerBy 67 = .ok (.imul, 1) := by decide +kernel
theorem dX2_powerBy_68 : decode cX2_powerBy 68 = .ok (.iload_n 2, 1) := by decide +kernel
theorem dX2_powerBy_69 : decode cX2_powerBy 69 = .ok (.isub, 1) := by decide +kernel
theorem dX2_powerBy_70 : decode cX2_powerBy 70 = .ok (.iconst 0, 1) := by decide +kernel
theorem dX2_powerBy_71 : decode cX2_powerBy 71 = .ok (.invokestatic 27, 3) := by decide +kernel
theorem dX2_powerBy_74 : decode cX2_powerBy 74 = .ok (.goto 4, 3) := by decide +kernel
theorem dX2_powerBy_77 : decode cX2_powerBy 77 = .ok (.iconst 0, 1) := by decide +kernel
theorem dX2_powerBy_78 : decode cX2_powerBy 78 = .ok (.ireturn, 1) := by decide +kernel
theorem dX2_powerBy_79 : decode cX2_powerBy 79 = .ok (.aload_n 0, 1) := by decide +kernel
theorem dX2_powerBy_80 : decode cX2_powerBy 80 = .ok (.invokevirtual 33, 3) := by decide +kernel
theorem dX2_powerBy_83 : decode cX2_powerBy 83 = .ok (.iconst 2, 1) := by decide +kernel
theorem dX2_powerBy_84 : decode cX2_powerBy 84 = .ok (.iload_n 1, 1) := by decide +kernel
theorem dX2_powerBy_85 : decode cX2_powerBy 85 = .ok (.isub, 1) := by decide +kernel
theorem dX2_powerBy_86 : decode cX2_powerBy 86 = .ok (.imul, 1) := by decide +kernel
theorem dX2_powerBy_87 : decode cX2_powerBy 87 = .ok (.iload_n 2, 1) := by decide +kernel
theorem dX2_powerBy_88 : decode cX2_powerBy 88 = .ok (.isub, 1) := by decide +kernel
theorem dX2_powerBy_89 : decode cX2_powerBy 89 = .ok (.iconst 0, 1) := by decide +kernel
theorem dX2_powerBy_90 : decode cX2_powerBy 90 = .ok (.invokestatic 27, 3) := by decide +kernel
theorem dX2_powerBy_93 : decode cX2_powerBy 93 = .ok (.ireturn, 1) := by decide +kernel
theorem dX3_init_0 : decode cX3_init 0 = .ok (.aload_n 0, 1) := by decide +kernel
theorem dX3_init_1 : decode cX3_init 1 = .ok (.invokespecial 3, 3) := by decide +kernel
theorem dX3_init_4 : decode cX3_init 4 = .ok (.aload_n 0, 1) := by decide +kernel
theorem dX3_init_5 : decode cX3_init 5 = .ok (.bipush 20, 2) := by decide +kernel
theorem dX3_init_7 : decode cX3_init 7 = .ok (.newarray .int, 2) := by decide +kernel
theorem dX3_init_9 : decode cX3_init 9 = .ok (.putfield 9, 3) := by decide +kernel
theorem dX3_init_12 : decode cX3_init 12 = .ok (.return_, 1) := by decide +kernel
theorem dX3_add_0 : decode cX3_add 0 = .ok (.aload_n 0, 1) := by decide +kernel
theorem dX3_add_1 : decode cX3_add 1 = .ok (.getfield 15, 3) := by decide +kernel
theorem dX3_add_4 : decode cX3_add 4 = .ok (.ifCond .lt 35, 3) := by decide +kernel
theorem dX3_add_7 : decode cX3_add 7 = .ok (.aload_n 0, 1) := by decide +kernel
theorem dX3_add_8 : decode cX3_add 8 = .ok (.getfield 15, 3) := by decide +kernel
theorem dX3_add_11 : decode cX3_add 11 = .ok (.aload_n 0, 1) := by decide +kernel
theorem dX3_add_12 : decode cX3_add 12 = .ok (.getfield 9, 3) := by decide +kernel
theorem dX3_add_15 : decode cX3_add 15 = .ok (.arraylength, 1) := by decide +kernel
theorem dX3_add_16 : decode cX3_add 16 = .ok (.if_icmp .ge 23, 3) := by decide +kernel
theorem dX3_add_19 : decode cX3_add 19 = .ok (.aload_n 0, 1) := by decide +kernel
theorem dX3_add_20 : decode cX3_add 20 = .ok (.getfield 9, 3) := by decide +kernel
theorem dX3_add_23 : decode cX3_add 23 = .ok (.aload_n 0, 1) := by decide +kernel
theorem dX3_add_24 : decode cX3_add 24 = .ok (.getfield 15, 3) := by decide +kernel
theorem dX3_add_27 : decode cX3_add 27 = .ok (.iload_n 1, 1) := by decide +kernel
theorem dX3_add_28 : decode cX3_add 28 = .ok (.iastore, 1) := by decide +kernel
theorem dX3_add_29 : decode cX3_add 29 = .ok (.aload_n 0, 1) := by decide +kernel
theorem dX3_add_30 : decode cX3_add 30 = .ok (.dup, 1) := by decide +kernel
theorem dX3_add_31 : decode cX3_add 31 = .ok (.getfield 15, 3) := by decide +kernel
theorem dX3_add_34 : decode cX3_add 34 = .ok (.iconst 1, 1) := by decide +kernel
theorem dX3_add_35 : decode cX3_add 35 = .ok (.iadd, 1) := by decide +kernel
theorem dX3_add_36 : decode cX3_add 36 = .ok (.putfield 15, 3) := by decide +kernel
theorem dX3_add_39 : decode cX3_add 39 = .ok (.return_, 1) := by decide +kernel
theorem dX3_landAt_0 : decode cX3_landAt 0 = .ok (.iload_n 1, 1) := by decide +kernel
theorem dX3_landAt_1 : decode cX3_landAt 1 = .ok (.ifCond .lt 29, 3) := by decide +kernel
theorem dX3_landAt_4 : decode cX3_landAt 4 = .ok (.iload_n 1, 1) := by decide +kernel
theorem dX3_landAt_5 : decode cX3_landAt 5 = .ok (.aload_n 0, 1) := by decide +kernel
theorem dX3_landAt_6 : decode cX3_landAt 6 = .ok (.getfield 15, 3) := by decide +kernel
theorem dX3_landAt_9 : decode cX3_landAt 9 = .ok (.if_icmp .ge 21, 3) := by decide +kernel
theorem dX3_landAt_12 : decode cX3_landAt 12 = .ok (.iload_n 1, 1) := by decide +kernel
theorem dX3_landAt_13 : decode cX3_landAt 13 = .ok (.aload_n 0, 1) := by decide +kernel
theorem dX3_landAt_14 : decode cX3_landAt 14 = .ok (.getfield 9, 3) := by decide +kernel
theorem dX3_landAt_17 : decode cX3_landAt 17 = .ok (.arraylength, 1) := by decide +kernel
theorem dX3_landAt_18 : decode cX3_landAt 18 = .ok (.if_icmp .ge 12, 3) := by decide +kernel
theorem dX3_landAt_21 : decode cX3_landAt 21 = .ok (.aload_n 0, 1) := by decide +kernel
theorem dX3_landAt_22 : decode cX3_landAt 22 = .ok (.getfield 9, 3) := by decide +kernel
theorem dX3_landAt_25 : decode cX3_landAt 25 = .ok (.iload_n 1, 1) := by decide +kernel
theorem dX3_landAt_26 : decode cX3_landAt 26 = .ok (.iaload, 1) := by decide +kernel
theorem dX3_landAt_27 : decode cX3_landAt 27 = .ok (.goto 4, 3) := by decide +kernel
theorem dX3_landAt_30 : decode cX3_landAt 30 = .ok (.iconst (-1), 1) := by decide +kernel
theorem dX3_landAt_31 : decode cX3_landAt 31 = .ok (.ireturn, 1) := by decide +kernel
theorem dX3_landBy_0 : decode cX3_landBy 0 = .ok (.aload_n 0, 1) := by decide +kernel
theorem dX3_landBy_1 : decode cX3_landBy 1 = .ok (.getfield 15, 3) := by decide +kernel
theorem dX3_landBy_4 : decode cX3_landBy 4 = .ok (.ifCond .le 18, 3) := by decide +kernel
theorem dX3_landBy_7 : decode cX3_landBy 7 = .ok (.aload_n 0, 1) := by decide +kernel
theorem dX3_landBy_8 : decode cX3_landBy 8 = .ok (.lload_n 1, 1) := by decide +kernel
theorem dX3_landBy_9 : decode cX3_landBy 9 = .ok (.aload_n 0, 1) := by decide +kernel
theorem dX3_landBy_10 : decode cX3_landBy 10 = .ok (.getfield 15, 3) := by decide +kernel
theorem dX3_landBy_13 : decode cX3_landBy 13 = .ok (.i2l, 1) := by decide +kernel
theorem dX3_landBy_14 : decode cX3_landBy 14 = .ok (.lrem, 1) := by decide +kernel
theorem dX3_landBy_15 : decode cX3_landBy 15 = .ok (.l2i, 1) := by decide +kernel
theorem dX3_landBy_16 : decode cX3_landBy 16 = .ok (.invokevirtual 19, 3) := by decide +kernel
theorem dX3_landBy_19 : decode cX3_landBy 19 = .ok (.goto 4, 3) := by decide +kernel
theorem dX3_landBy_22 : decode cX3_landBy 22 = .ok (.iconst (-1), 1) := by decide +kernel
theorem dX3_landBy_23 : decode cX3_landBy 23 = .ok (.ireturn, 1) := by decide +kernel
theorem dX3_throwAt_0 : decode cX3_throwAt 0 = .ok (.aload_n 0, 1) := by decide +kernel
theorem dX3_throwAt_1 : decode cX3_throwAt 1 = .ok (.iconst 0, 1) := by decide +kernel
theorem dX3_throwAt_2 : decode cX3_throwAt 2 = .ok (.putfield 15, 3) := by decide +kernel
theorem dX3_throwAt_5 : decode cX3_throwAt 5 = .ok (.bipush (-2), 2) := by decide +kernel
theorem dX3_throwAt_7 : decode cX3_throwAt 7 = .ok (.istore_n 3, 1) := by decide +kernel
theorem dX3_throwAt_8 : decode cX3_throwAt 8 = .ok (.iload_n 3, 1) := by decide +kernel
theorem dX3_throwAt_9 : decode cX3_throwAt 9 = .ok (.iconst 2, 1) := by decide +kernel
theorem dX3_throwAt_10 : decode cX3_throwAt 10 = .ok (.if_icmp .gt 81, 3) := by decide +kernel
theorem dX3_throwAt_13 : decode cX3_throwAt 13 = .ok (.bipush (-2), 2) := by decide +kernel
theorem dX3_throwAt_15 : decode cX3_throwAt 15 = .ok (.istore 4, 2) := by decide +kernel
theorem dX3_throwAt_17 : decode cX3_throwAt 17 = .ok (.iload 4, 2) := by decide +kernel
theorem dX3_throwAt_19 : decode cX3_throwAt 19 = .ok (.iconst 2, 1) := by decide +kernel
theorem dX3_throwAt_20 : decode cX3_throwAt 20 = .ok (.if_icmp .gt 65, 3) := by decide +kernel
theorem dX3_throwAt_23 : decode cX3_throwAt 23 = .ok (.iload_n 2, 1) := by decide +kernel
theorem dX3_throwAt_24 : decode cX3_throwAt 24 = .ok (.iconst 2, 1) := by decide +kernel
theorem dX3_throwAt_25 : decode cX3_throwAt 25 = .ok (.invokestatic 23, 3) := by decide +kernel
theorem dX3_throwAt_28 : decode cX3_throwAt 28 = .ok (.iconst 1, 1) := by decide +kernel
theorem dX3_throwAt_29 : decode cX3_throwAt 29 = .ok (.iadd, 1) := by decide +kernel
theorem dX3_throwAt_30 : decode cX3_throwAt 30 = .ok (.iload 4, 2) := by decide +kernel
theorem dX3_throwAt_32 : decode cX3_throwAt 32 = .ok (.invokestatic 29, 3) := by decide +kernel
theorem dX3_throwAt_35 : decode cX3_throwAt 35 = .ok (.isub, 1) := by decide +kernel
theorem dX3_throwAt_36 : decode cX3_throwAt 36 = .ok (.iload_n 3, 1) := by decide +kernel
theorem dX3_throwAt_37 : decode cX3_throwAt 37 = .ok (.invokestatic 29, 3) := by decide +kernel
theorem dX3_throwAt_40 : decode cX3_throwAt 40 = .ok (.isub, 1) := by decide +kernel
theorem dX3_throwAt_41 : decode cX3_throwAt 41 = .ok (.istore 5, 2) := by decide +kernel
theorem dX3_throwAt_43 : decode cX3_throwAt 43 = .ok (.iconst 0, 1) := by decide +kernel
theorem dX3_throwAt_44 : decode cX3_throwAt 44 = .ok (.istore 6, 2) := by decide +kernel
theorem dX3_throwAt_46 : decode cX3_throwAt 46 = .ok (.iload 6, 2) := by decide +kernel
theorem dX3_throwAt_48 : decode cX3_throwAt 48 = .ok (.iload 5, 2) := by decide +kernel
theorem dX3_throwAt_50 : decode cX3_throwAt 50 = .ok (.if_icmp .ge 29, 3) := by decide +kernel
theorem dX3_throwAt_53 : decode cX3_throwAt 53 = .ok (.aload_n 0, 1) := by decide +kernel
theorem dX3_throwAt_54 : decode cX3_throwAt 54 = .ok (.iload_n 1, 1) := by decide +kernel
theorem dX3_throwAt_55 : decode cX3_throwAt 55 = .ok (.bipush 6, 2) := by decide +kernel
theorem dX3_throwAt_57 : decode cX3_throwAt 57 = .ok (.irem, 1) := by decide +kernel
theorem dX3_throwAt_58 : decode cX3_throwAt 58 = .ok (.iload 4, 2) := by decide +kernel
theorem dX3_throwAt_60 : decode cX3_throwAt 60 = .ok (.iadd, 1) := by decide +kernel
theorem dX3_throwAt_61 : decode cX3_throwAt 61 = .ok (.iload_n 1, 1) := by decide +kernel
theorem dX3_throwAt_62 : decode cX3_throwAt 62 = .ok (.bipush 6, 2) := by decide +kernel
theorem dX3_throwAt_64 : decode cX3_throwAt 64 = .ok (.idiv, 1) := by decide +kernel
theorem dX3_throwAt_65 : decode cX3_throwAt 65 = .ok (.iload_n 3, 1) := by decide +kernel
theorem dX3_throwAt_66 : decode cX3_throwAt 66 = .ok (.iadd, 1) := by decide +kernel
theorem dX3_throwAt_67 : decode cX3_throwAt 67 = .ok (.invokestatic 32, 3) := by decide +kernel
theorem dX3_throwAt_70 : decode cX3_throwAt 70 = .ok (.invokevirtual 35, 3) := by decide +kernel
theorem dX3_throwAt_73 : decode cX3_throwAt 73 = .ok (.iinc 6 1, 3) := by decide +kernel
theorem dX3_throwAt_76 : decode cX3_throwAt 76 = .ok (.goto (-30), 3) := by decide +kernel
theorem dX3_throwAt_79 : decode cX3_throwAt 79 = .ok (.iinc 4 1, 3) := by decide +kernel
theorem dX3_throwAt_82 : decode cX3_throwAt 82 = .ok (.goto (-65), 3) := by decide +kernel
theorem dX3_throwAt_85 : decode cX3_throwAt 85 = .ok (.iinc 3 1, 3) := by decide +kernel
theorem dX3_throwAt_88 : decode cX3_throwAt 88 = .ok (.goto (-80), 3) := by decide +kernel
theorem dX3_throwAt_91 : decode cX3_throwAt 91 = .ok (.return_, 1) := by decide +kernel
theorem dX3_cellAt_0 : decode cX3_cellAt 0 = .ok (.iload_n 0, 1) := by decide +kernel
theorem dX3_cellAt_1 : decode cX3_cellAt 1 = .ok (.ifCond .lt 27, 3) := by decide +kernel
theorem dX3_cellAt_4 : decode cX3_cellAt 4 = .ok (.iload_n 0, 1) := by decide +kernel
theorem dX3_cellAt_5 : decode cX3_cellAt 5 = .ok (.bipush 6, 2) := by decide +kernel
theorem dX3_cellAt_7 : decode cX3_cellAt 7 = .ok (.if_icmp .ge 21, 3) := by decide +kernel
theorem dX3_cellAt_10 : decode cX3_cellAt 10 = .ok (.iload_n 1, 1) := by decide +kernel
theorem dX3_cellAt_11 : decode cX3_cellAt 11 = .ok (.ifCond .lt 17, 3) := by decide +kernel
theorem dX3_cellAt_14 : decode cX3_cellAt 14 = .ok (.iload_n 1, 1) := by decide +kernel
theorem dX3_cellAt_15 : decode cX3_cellAt 15 = .ok (.iconst 5, 1) := by decide +kernel
theorem dX3_cellAt_16 : decode cX3_cellAt 16 = .ok (.if_icmp .ge 12, 3) := by decide +kernel
theorem dX3_cellAt_19 : decode cX3_cellAt 19 = .ok (.bipush 6, 2) := by decide +kernel
theorem dX3_cellAt_21 : decode cX3_cellAt 21 = .ok (.iload_n 1, 1) := by decide +kernel
theorem dX3_cellAt_22 : decode cX3_cellAt 22 = .ok (.imul, 1) := by decide +kernel
theorem dX3_cellAt_23 : decode cX3_cellAt 23 = .ok (.iload_n 0, 1) := by decide +kernel
theorem dX3_cellAt_24 : decode cX3_cellAt 24 = .ok (.iadd, 1) := by decide +kernel
theorem dX3_cellAt_25 : decode cX3_cellAt 25 = .ok (.goto 4, 3) := by decide +kernel
theorem dX3_cellAt_28 : decode cX3_cellAt 28 = .ok (.iconst (-1), 1) := by decide +kernel
theorem dX3_cellAt_29 : decode cX3_cellAt 29 = .ok (.ireturn, 1) := by decide +kernel
theorem dX3_takeItems_0 : decode cX3_takeItems 0 = .ok (.aload_n 0, 1) := by decide +kernel
theorem dX3_takeItems_1 : decode cX3_takeItems 1 = .ok (.iconst 0, 1) := by decide +kernel
theorem dX3_takeItems_2 : decode cX3_takeItems 2 = .ok (.putfield 15, 3) := by decide +kernel
theorem dX3_takeItems_5 : decode cX3_takeItems 5 = .ok (.iconst 0, 1) := by decide +kernel
theorem dX3_takeItems_6 : decode cX3_takeItems 6 = .ok (.istore 4, 2) := by decide +kernel
theorem dX3_takeItems_8 : decode cX3_takeItems 8 = .ok (.iload 4, 2) := by decide +kernel
theorem dX3_takeItems_10 : decode cX3_takeItems 10 = .ok (.iload_n 3, 1) := by decide +kernel
theorem dX3_takeItems_11 : decode cX3_takeItems 11 = .ok (.if_icmp .ge 45, 3) := by decide +kernel
theorem dX3_takeItems_14 : decode cX3_takeItems 14 = .ok (.iload 4, 2) := by decide +kernel
theorem dX3_takeItems_16 : decode cX3_takeItems 16 = .ok (.aload_n 0, 1) := by decide +kernel
theorem dX3_takeItems_17 : decode cX3_takeItems 17 = .ok (.getfield 9, 3) := by decide +kernel
theorem dX3_takeItems_20 : decode cX3_takeItems 20 = .ok (.arraylength, 1) := by decide +kernel
theorem dX3_takeItems_21 : decode cX3_takeItems 21 = .ok (.if_icmp .ge 35, 3) := by decide +kernel
theorem dX3_takeItems_24 : decode cX3_takeItems 24 = .ok (.aload_n 1, 1) := by decide +kernel
theorem dX3_takeItems_25 : decode cX3_takeItems 25 = .ok (.iload_n 2, 1) := by decide +kernel
theorem dX3_takeItems_26 : decode cX3_takeItems 26 = .ok (.iload 4, 2) := by decide +kernel
theorem dX3_takeItems_28 : decode cX3_takeItems 28 = .ok (.iadd, 1) := by decide +kernel
theorem dX3_takeItems_29 : decode cX3_takeItems 29 = .ok (.invokevirtual 39, 3) := by decide +kernel
theorem dX3_takeItems_32 : decode cX3_takeItems 32 = .ok (.istore 5, 2) := by decide +kernel
theorem dX3_takeItems_34 : decode cX3_takeItems 34 = .ok (.iload 5, 2) := by decide +kernel
theorem dX3_takeItems_36 : decode cX3_takeItems 36 = .ok (.invokestatic 44, 3) := by decide +kernel
theorem dX3_takeItems_39 : decode cX3_takeItems 39 = .ok (.ifCond .ne 5, 3) := by decide +kernel
theorem dX3_takeItems_42 : decode cX3_takeItems 42 = .ok (.iconst 0, 1) := by decide +kernel
theorem dX3_takeItems_43 : decode cX3_takeItems 43 = .ok (.ireturn, 1) := by decide +kernel
theorem dX3_takeItems_44 : decode cX3_takeItems 44 = .ok (.aload_n 0, 1) := by decide +kernel
theorem dX3_takeItems_45 : decode cX3_takeItems 45 = .ok (.iload 5, 2) := by decide +kernel
theorem dX3_takeItems_47 : decode cX3_takeItems 47 = .ok (.invokevirtual 35, 3) := by decide +kernel
theorem dX3_takeItems_50 : decode cX3_takeItems 50 = .ok (.iinc 4 1, 3) := by decide +kernel
theorem dX3_takeItems_53 : decode cX3_takeItems 53 = .ok (.goto (-45), 3) := by decide +kernel
theorem dX3_takeItems_56 : decode cX3_takeItems 56 = .ok (.iconst 1, 1) := by decide +kernel
theorem dX3_takeItems_57 : decode cX3_takeItems 57 = .ok (.ireturn, 1) := by decide +kernel
theorem dX3_countPickedBy_0 : decode cX3_countPickedBy 0 = .ok (.iconst 0, 1) := by decide +kernel
theorem dX3_countPickedBy_1 : decode cX3_countPickedBy 1 = .ok (.istore_n 3, 1) := by decide +kernel
theorem dX3_countPickedBy_2 : decode cX3_countPickedBy 2 = .ok (.iconst 0, 1) := by decide +kernel
theorem dX3_countPickedBy_3 : decode cX3_countPickedBy 3 = .ok (.istore 4, 2) := by decide +kernel
theorem dX3_countPickedBy_5 : decode cX3_countPickedBy 5 = .ok (.iload 4, 2) := by decide +kernel
theorem dX3_countPickedBy_7 : decode cX3_countPickedBy 7 = .ok (.aload_n 0, 1) := by decide +kernel
theorem dX3_countPickedBy_8 : decode cX3_countPickedBy 8 = .ok (.getfield 15, 3) := by decide +kernel
theorem dX3_countPickedBy_11 : decode cX3_countPickedBy 11 = .ok (.if_icmp .ge 26, 3) := by decide +kernel
theorem dX3_countPickedBy_14 : decode cX3_countPickedBy 14 = .ok (.aload_n 1, 1) := by decide +kernel
theorem dX3_countPickedBy_15 : decode cX3_countPickedBy 15 = .ok (.aload_n 0, 1) := by decide +kernel
theorem dX3_countPickedBy_16 : decode cX3_countPickedBy 16 = .ok (.iload 4, 2) := by decide +kernel
theorem dX3_countPickedBy_18 : decode cX3_countPickedBy 18 = .ok (.invokevirtual 19, 3) := by decide +kernel
theorem dX3_countPickedBy_21 : decode cX3_countPickedBy 21 = .ok (.invokevirtual 48, 3) := by decide +kernel
theorem dX3_countPickedBy_24 : decode cX3_countPickedBy 24 = .ok (.iload_n 2, 1) := by decide +kernel
theorem dX3_countPickedBy_25 : decode cX3_countPickedBy 25 = .ok (.if_icmp .ne 6, 3) := by decide +kernel
theorem dX3_countPickedBy_28 : decode cX3_countPickedBy 28 = .ok (.iinc 3 1, 3) := by decide +kernel
theorem dX3_countPickedBy_31 : decode cX3_countPickedBy 31 = .ok (.iinc 4 1, 3) := by decide +kernel
theorem dX3_countPickedBy_34 : decode cX3_countPickedBy 34 = .ok (.goto (-29), 3) := by decide +kernel
theorem dX3_countPickedBy_37 : decode cX3_countPickedBy 37 = .ok (.iload_n 3, 1) := by decide +kernel
theorem dX3_countPickedBy_38 : decode cX3_countPickedBy 38 = .ok (.ireturn, 1) := by decide +kernel
theorem dX3_pickers_0 : decode cX3_pickers 0 = .ok (.iconst 0, 1) := by decide +kernel
theorem dX3_pickers_1 : decode cX3_pickers 1 = .ok (.istore_n 2, 1) := by decide +kernel
theorem dX3_pickers_2 : decode cX3_pickers 2 = .ok (.iconst 0, 1) := by decide +kernel
theorem dX3_pickers_3 : decode cX3_pickers 3 = .ok (.istore_n 3, 1) := by decide +kernel
theorem dX3_pickers_4 : decode cX3_pickers 4 = .ok (.iload_n 3, 1) := by decide +kernel
theorem dX3_pickers_5 : decode cX3_pickers 5 = .ok (.aload_n 0, 1) := by decide +kernel
theorem dX3_pickers_6 : decode cX3_pickers 6 = .ok (.getfield 15, 3) := by decide +kernel
theorem dX3_pickers_9 : decode cX3_pickers 9 = .ok (.if_icmp .ge 33, 3) := by decide +kernel
theorem dX3_pickers_12 : decode cX3_pickers 12 = .ok (.aload_n 1, 1) := by decide +kernel
theorem dX3_pickers_13 : decode cX3_pickers 13 = .ok (.aload_n 0, 1) := by decide +kernel
theorem dX3_pickers_14 : decode cX3_pickers 14 = .ok (.iload_n 3, 1) := by decide +kernel
theorem dX3_pickers_15 : decode cX3_pickers 15 = .ok (.invokevirtual 19, 3) := by decide +kernel
theorem dX3_pickers_18 : decode cX3_pickers 18 = .ok (.invokevirtual 48, 3) := by decide +kernel
theorem dX3_pickers_21 : decode cX3_pickers 21 = .ok (.istore 4, 2) := by decide +kernel
theorem dX3_pickers_23 : decode cX3_pickers 23 = .ok (.iload 4, 2) := by decide +kernel
theorem dX3_pickers_25 : decode cX3_pickers 25 = .ok (.iconst (-1), 1) := by decide +kernel
theorem dX3_pickers_26 : decode cX3_pickers 26 = .ok (.if_icmp .eq 10, 3) := by decide +kernel
theorem dX3_pickers_29 : decode cX3_pickers 29 = .ok (.iload_n 2, 1) := by decide +kernel
theorem dX3_pickers_30 : decode cX3_pickers 30 = .ok (.iconst 1, 1) := by decide +kernel
theorem dX3_pickers_31 : decode cX3_pickers 31 = .ok (.iload 4, 2) := by decide +kernel
theorem dX3_pickers_33 : decode cX3_pickers 33 = .ok (.ishl, 1) := by decide +kernel
theorem dX3_pickers_34 : decode cX3_pickers 34 = .ok (.ior, 1) := by decide +kernel
theorem dX3_pickers_35 : decode cX3_pickers 35 = .ok (.istore_n 2, 1) := by decide +kernel
theorem dX3_pickers_36 : decode cX3_pickers 36 = .ok (.iinc 3 1, 3) := by decide +kernel
theorem dX3_pickers_39 : decode cX3_pickers 39 = .ok (.goto (-35), 3) := by decide +kernel
theorem dX3_pickers_42 : decode cX3_pickers 42 = .ok (.iload_n 2, 1) := by decide +kernel
theorem dX3_pickers_43 : decode cX3_pickers 43 = .ok (.ireturn, 1) := by decide +kernel
theorem dX3_weigh_0 : decode cX3_weigh 0 = .ok (.aload 4, 2) := by decide +kernel
theorem dX3_weigh_2 : decode cX3_weigh 2 = .ok (.iconst 0, 1) := by decide +kernel
theorem dX3_weigh_3 : decode cX3_weigh 3 = .ok (.invokestatic 53, 3) := by decide +kernel
theorem dX3_weigh_6 : decode cX3_weigh 6 = .ok (.aload_n 1, 1) := by decide +kernel
theorem dX3_weigh_7 : decode cX3_weigh 7 = .ok (.iload_n 2, 1) := by decide +kernel
theorem dX3_weigh_8 : decode cX3_weigh 8 = .ok (.invokevirtual 59, 3) := by decide +kernel
theorem dX3_weigh_11 : decode cX3_weigh 11 = .ok (.astore 5, 2) := by decide +kernel
theorem dX3_weigh_13 : decode cX3_weigh 13 = .ok (.iconst 0, 1) := by decide +kernel
theorem dX3_weigh_14 : decode cX3_weigh 14 = .ok (.istore 6, 2) := by decide +kernel
theorem dX3_weigh_16 : decode cX3_weigh 16 = .ok (.iload 6, 2) := by decide +kernel
theorem dX3_weigh_18 : decode cX3_weigh 18 = .ok (.aload_n 0, 1) := by decide +kernel
theorem dX3_weigh_19 : decode cX3_weigh 19 = .ok (.getfield 15, 3) := by decide +kernel
theorem dX3_weigh_22 : decode cX3_weigh 22 = .ok (.if_icmp .ge 90, 3) := by decide +kernel
theorem dX3_weigh_25 : decode cX3_weigh 25 = .ok (.aload 5, 2) := by decide +kernel
theorem dX3_weigh_27 : decode cX3_weigh 27 = .ok (.ifnull 85, 3) := by decide +kernel
theorem dX3_weigh_30 : decode cX3_weigh 30 = .ok (.aload_n 0, 1) := by decide +kernel
theorem dX3_weigh_31 : decode cX3_weigh 31 = .ok (.iload 6, 2) := by decide +kernel
theorem dX3_weigh_33 : decode cX3_weigh 33 = .ok (.invokevirtual 19, 3) := by decide +kernel
theorem dX3_weigh_36 : decode cX3_weigh 36 = .ok (.istore 7, 2) := by decide +kernel
theorem dX3_weigh_38 : decode cX3_weigh 38 = .ok (.aload_n 1, 1) := by decide +kernel
theorem dX3_weigh_39 : decode cX3_weigh 39 = .ok (.iload_n 2, 1) := by decide +kernel
theorem dX3_weigh_40 : decode cX3_weigh 40 = .ok (.iload_n 3, 1) := by decide +kernel
theorem dX3_weigh_41 : decode cX3_weigh 41 = .ok (.iload 7, 2) := by decide +kernel
theorem dX3_weigh_43 : decode cX3_weigh 43 = .ok (.invokevirtual 63, 3) := by decide +kernel
theorem dX3_weigh_46 : decode cX3_weigh 46 = .ok (.istore 8, 2) := by decide +kernel
theorem dX3_weigh_48 : decode cX3_weigh 48 = .ok (.iconst 0, 1) := by decide +kernel
theorem dX3_weigh_49 : decode cX3_weigh 49 = .ok (.istore 9, 2) := by decide +kernel
theorem dX3_weigh_51 : decode cX3_weigh 51 = .ok (.iload 9, 2) := by decide +kernel
theorem dX3_weigh_53 : decode cX3_weigh 53 = .ok (.aload 4, 2) := by decide +kernel
theorem dX3_weigh_55 : decode cX3_weigh 55 = .ok (.arraylength, 1) := by decide +kernel
theorem dX3_weigh_56 : decode cX3_weigh 56 = .ok (.if_icmp .ge 50, 3) := by decide +kernel
theorem dX3_weigh_59 : decode cX3_weigh 59 = .ok (.iload 8, 2) := by decide +kernel
theorem dX3_weigh_61 : decode cX3_weigh 61 = .ok (.sipush 1000, 3) := by decide +kernel
theorem dX3_weigh_64 : decode cX3_weigh 64 = .ok (.if_icmp .ge 42, 3) := by decide +kernel
theorem dX3_weigh_67 : decode cX3_weigh 67 = .ok (.aload 5, 2) := by decide +kernel
theorem dX3_weigh_69 : decode cX3_weigh 69 = .ok (.iload 9, 2) := by decide +kernel
theorem dX3_weigh_71 : decode cX3_weigh 71 = .ok (.iload 7, 2) := by decide +kernel
theorem dX3_weigh_73 : decode cX3_weigh 73 = .ok (.invokestatic 67, 3) := by decide +kernel
theorem dX3_weigh_76 : decode cX3_weigh 76 = .ok (.aload_n 1, 1) := by decide +kernel
theorem dX3_weigh_77 : decode cX3_weigh 77 = .ok (.getfield 70, 3) := by decide +kernel
theorem dX3_weigh_80 : decode cX3_weigh 80 = .ok (.invokevirtual 73, 3) := by decide +kernel
theorem dX3_weigh_83 : decode cX3_weigh 83 = .ok (.iload 8, 2) := by decide +kernel
theorem dX3_weigh_85 : decode cX3_weigh 85 = .ok (.if_icmp .lt 15, 3) := by decide +kernel
theorem dX3_weigh_88 : decode cX3_weigh 88 = .ok (.aload 4, 2) := by decide +kernel
theorem dX3_weigh_90 : decode cX3_weigh 90 = .ok (.iload 9, 2) := by decide +kernel
theorem dX3_weigh_92 : decode cX3_weigh 92 = .ok (.dup2, 1) := by decide +kernel
theorem dX3_weigh_93 : decode cX3_weigh 93 = .ok (.iaload, 1) := by decide +kernel
theorem dX3_weigh_94 : decode cX3_weigh 94 = .ok (.iconst 1, 1) := by decide +kernel
theorem dX3_weigh_95 : decode cX3_weigh 95 = .ok (.iload 6, 2) := by decide +kernel
theorem dX3_weigh_97 : decode cX3_weigh 97 = .ok (.ishl, 1) := by decide +kernel
theorem dX3_weigh_98 : decode cX3_weigh 98 = .ok (.ior, 1) := by decide +kernel
theorem dX3_weigh_99 : decode cX3_weigh 99 = .ok (.iastore, 1) := by decide +kernel
theorem dX3_weigh_100 : decode cX3_weigh 100 = .ok (.iinc 9 1, 3) := by decide +kernel
theorem dX3_weigh_103 : decode cX3_weigh 103 = .ok (.goto (-52), 3) := by decide +kernel
theorem dX3_weigh_106 : decode cX3_weigh 106 = .ok (.iinc 6 1, 3) := by decide +kernel
theorem dX3_weigh_109 : decode cX3_weigh 109 = .ok (.goto (-93), 3) := by decide +kernel
theorem dX3_weigh_112 : decode cX3_weigh 112 = .ok (.return_, 1) := by decide +kernel
theorem dX4_init_0 : decode cX4_init 0 = .ok (.aload_n 0, 1) := by decide +kernel
theorem dX4_init_1 : decode cX4_init 1 = .ok (.invokespecial 3, 3) := by decide +kernel
theorem dX4_init_4 : decode cX4_init 4 = .ok (.aload_n 0, 1) := by decide +kernel
theorem dX4_init_5 : decode cX4_init 5 = .ok (.bipush 40, 2) := by decide +kernel
theorem dX4_init_7 : decode cX4_init 7 = .ok (.newarray .int, 2) := by decide +kernel
theorem dX4_init_9 : decode cX4_init 9 = .ok (.putfield 9, 3) := by decide +kernel
theorem dX4_init_12 : decode cX4_init 12 = .ok (.aload_n 0, 1) := by decide +kernel
theorem dX4_init_13 : decode cX4_init 13 = .ok (.iconst (-1), 1) := by decide +kernel
theorem dX4_init_14 : decode cX4_init 14 = .ok (.putfield 15, 3) := by decide +kernel
theorem dX4_init_17 : decode cX4_init 17 = .ok (.return_, 1) := by decide +kernel
theorem dX4_isMissing_0 : decode cX4_isMissing 0 = .ok (.aload_n 0, 1) := by decide +kernel
theorem dX4_isMissing_1 : decode cX4_isMissing 1 = .ok (.getfield 15, 3) := by decide +kernel
theorem dX4_isMissing_4 : decode cX4_isMissing 4 = .ok (.iconst (-1), 1) := by decide +kernel
theorem dX4_isMissing_5 : decode cX4_isMissing 5 = .ok (.if_icmp .ne 7, 3) := by decide +kernel
theorem dX4_isMissing_8 : decode cX4_isMissing 8 = .ok (.iconst 1, 1) := by decide +kernel
theorem dX4_isMissing_9 : decode cX4_isMissing 9 = .ok (.goto 4, 3) := by decide +kernel
theorem dX4_isMissing_12 : decode cX4_isMissing 12 = .ok (.iconst 0, 1) := by decide +kernel
theorem dX4_isMissing_13 : decode cX4_isMissing 13 = .ok (.ireturn, 1) := by decide +kernel
theorem dX4_begin_0 : decode cX4_begin 0 = .ok (.aload_n 0, 1) := by decide +kernel
theorem dX4_begin_1 : decode cX4_begin 1 = .ok (.iload_n 1, 1) := by decide +kernel
theorem dX4_begin_2 : decode cX4_begin 2 = .ok (.putfield 19, 3) := by decide +kernel
theorem dX4_begin_5 : decode cX4_begin 5 = .ok (.aload_n 0, 1) := by decide +kernel
theorem dX4_begin_6 : decode cX4_begin 6 = .ok (.iload_n 2, 1) := by decide +kernel
theorem dX4_begin_7 : decode cX4_begin 7 = .ok (.putfield 15, 3) := by decide +kernel
theorem dX4_begin_10 : decode cX4_begin 10 = .ok (.aload_n 0, 1) := by decide +kernel
theorem dX4_begin_11 : decode cX4_begin 11 = .ok (.getfield 9, 3) := by decide +kernel
theorem dX4_begin_14 : decode cX4_begin 14 = .ok (.iconst 0, 1) := by decide +kernel
theorem dX4_begin_15 : decode cX4_begin 15 = .ok (.invokestatic 22, 3) := by decide +kernel
theorem dX4_begin_18 : decode cX4_begin 18 = .ok (.return_, 1) := by decide +kernel
theorem dX4_holds_0 : decode cX4_holds 0 = .ok (.iload_n 1, 1) := by decide +kernel
theorem dX4_holds_1 : decode cX4_holds 1 = .ok (.ifCond .lt 21, 3) := by decide +kernel
theorem dX4_holds_4 : decode cX4_holds 4 = .ok (.iload_n 2, 1) := by decide +kernel
theorem dX4_holds_5 : decode cX4_holds 5 = .ok (.ifCond .lt 17, 3) := by decide +kernel
theorem dX4_holds_8 : decode cX4_holds 8 = .ok (.iload_n 1, 1) := by decide +kernel
theorem dX4_holds_9 : decode cX4_holds 9 = .ok (.aload_n 0, 1) := by decide +kernel
theorem dX4_holds_10 : decode cX4_holds 10 = .ok (.getfield 15, 3) := by decide +kernel
theorem dX4_holds_13 : decode cX4_holds 13 = .ok (.iload_n 2, 1) := by decide +kernel
theorem dX4_holds_14 : decode cX4_holds 14 = .ok (.isub, 1) := by decide +kernel
theorem dX4_holds_15 : decode cX4_holds 15 = .ok (.if_icmp .gt 7, 3) := by decide +kernel
theorem dX4_holds_18 : decode cX4_holds 18 = .ok (.iconst 1, 1) := by decide +kernel
theorem dX4_holds_19 : decode cX4_holds 19 = .ok (.goto 4, 3) := by decide +kernel
theorem dX4_holds_22 : decode cX4_holds 22 = .ok (.iconst 0, 1) := by decide +kernel
theorem dX4_holds_23 : decode cX4_holds 23 = .ok (.ireturn, 1) := by decide +kernel
theorem dX4_put_0 : decode cX4_put 0 = .ok (.aload_n 0, 1) := by decide +kernel
theorem dX4_put_1 : decode cX4_put 1 = .ok (.getfield 19, 3) := by decide +kernel
theorem dX4_put_4 : decode cX4_put 4 = .ok (.ifCond .ne 8, 3) := by decide +kernel
theorem dX4_put_7 : decode cX4_put 7 = .ok (.iload_n 2, 1) := by decide +kernel
theorem dX4_put_8 : decode cX4_put 8 = .ok (.i2b, 1) := by decide +kernel
theorem dX4_put_9 : decode cX4_put 9 = .ok (.goto 17, 3) := by decide +kernel
theorem dX4_put_12 : decode cX4_put 12 = .ok (.aload_n 0, 1) := by decide +kernel
theorem dX4_put_13 : decode cX4_put 13 = .ok (.getfield 19, 3) := by decide +kernel
theorem dX4_put_16 : decode cX4_put 16 = .ok (.iconst 1, 1) := by decide +kernel
theorem dX4_put_17 : decode cX4_put 17 = .ok (.if_icmp .ne 8, 3) := by decide +kernel
theorem dX4_put_20 : decode cX4_put 20 = .ok (.iload_n 2, 1) := by decide +kernel
theorem dX4_put_21 : decode cX4_put 21 = .ok (.i2s, 1) := by decide +kernel
theorem dX4_put_22 : decode cX4_put 22 = .ok (.goto 4, 3) := by decide +kernel
theorem dX4_put_25 : decode cX4_put 25 = .ok (.iload_n 2, 1) := by decide +kernel
theorem dX4_put_26 : decode cX4_put 26 = .ok (.istore_n 3, 1) := by decide +kernel
theorem dX4_put_27 : decode cX4_put 27 = .ok (.iload_n 1, 1) := by decide +kernel
theorem dX4_put_28 : decode cX4_put 28 = .ok (.ifCond .lt 19, 3) := by decide +kernel
theorem dX4_put_31 : decode cX4_put 31 = .ok (.iload_n 1, 1) := by decide +kernel
theorem dX4_put_32 : decode cX4_put 32 = .ok (.aload_n 0, 1) := by decide +kernel
theorem dX4_put_33 : decode cX4_put 33 = .ok (.getfield 9, 3) := by decide +kernel
theorem dX4_put_36 : decode cX4_put 36 = .ok (.arraylength, 1) := by decide +kernel
theorem dX4_put_37 : decode cX4_put 37 = .ok (.if_icmp .ge 10, 3) := by decide +kernel
theorem dX4_put_40 : decode cX4_put 40 = .ok (.aload_n 0, 1) := by decide +kernel
theorem dX4_put_41 : decode cX4_put 41 = .ok (.getfield 9, 3) := by decide +kernel
theorem dX4_put_44 : decode cX4_put 44 = .ok (.iload_n 1, 1) := by decide +kernel
theorem dX4_put_45 : decode cX4_put 45 = .ok (.iload_n 3, 1) := by decide +kernel
theorem dX4_put_46 : decode cX4_put 46 = .ok (.iastore, 1) := by decide +kernel
theorem dX4_put_47 : decode cX4_put 47 = .ok (.iload_n 3, 1) := by decide +kernel
theorem dX4_put_48 : decode cX4_put 48 = .ok (.ireturn, 1) := by decide +kernel
theorem dX4_item_0 : decode cX4_item 0 = .ok (.iload_n 1, 1) := by decide +kernel
theorem dX4_item_1 : decode cX4_item 1 = .ok (.ifCond .lt 21, 3) := by decide +kernel
theorem dX4_item_4 : decode cX4_item 4 = .ok (.iload_n 1, 1) := by decide +kernel
theorem dX4_item_5 : decode cX4_item 5 = .ok (.aload_n 0, 1) := by decide +kernel
theorem dX4_item_6 : decode cX4_item 6 = .ok (.getfield 9, 3) := by decide +kernel
theorem dX4_item_9 : decode cX4_item 9 = .ok (.arraylength, 1) := by decide +kernel
theorem dX4_item_10 : decode cX4_item 10 = .ok (.if_icmp .ge 12, 3) := by decide +kernel
theorem dX4_item_13 : decode cX4_item 13 = .ok (.aload_n 0, 1) := by decide +kernel
theorem dX4_item_14 : decode cX4_item 14 = .ok (.getfield 9, 3) := by decide +kernel
theorem dX4_item_17 : decode cX4_item 17 = .ok (.iload_n 1, 1) := by decide +kernel
theorem dX4_item_18 : decode cX4_item 18 = .ok (.iaload, 1) := by decide +kernel
theorem dX4_item_19 : decode cX4_item 19 = .ok (.goto 4, 3) := by decide +kernel
theorem dX4_item_22 : decode cX4_item 22 = .ok (.iconst 0, 1) := by decide +kernel
theorem dX4_item_23 : decode cX4_item 23 = .ok (.ireturn, 1) := by decide +kernel
theorem dX5_init_0 : decode cX5_init 0 = .ok (.aload_n 0, 1) := by decide +kernel
theorem dX5_init_1 : decode cX5_init 1 = .ok (.invokespecial 3, 3) := by decide +kernel
theorem dX5_init_4 : decode cX5_init 4 = .ok (.aload_n 0, 1) := by decide +kernel
theorem dX5_init_5 : decode cX5_init 5 = .ok (.iconst 5, 1) := by decide +kernel
theorem dX5_init_6 : decode cX5_init 6 = .ok (.anewarray 9, 3) := by decide +kernel
theorem dX5_init_9 : decode cX5_init 9 = .ok (.putfield 11, 3) := by decide +kernel
theorem dX5_init_12 : decode cX5_init 12 = .ok (.iconst 0, 1) := by decide +kernel
theorem dX5_init_13 : decode cX5_init 13 = .ok (.istore_n 1, 1) := by decide +kernel
theorem dX5_init_14 : decode cX5_init 14 = .ok (.iload_n 1, 1) := by decide +kernel
theorem dX5_init_15 : decode cX5_init 15 = .ok (.aload_n 0, 1) := by decide +kernel
theorem dX5_init_16 : decode cX5_init 16 = .ok (.getfield 11, 3) := by decide +kernel
theorem dX5_init_19 : decode cX5_init 19 = .ok (.arraylength, 1) := by decide +kernel
theorem dX5_init_20 : decode cX5_init 20 = .ok (.if_icmp .ge 23, 3) := by decide +kernel
theorem dX5_init_23 : decode cX5_init 23 = .ok (.aload_n 0, 1) := by decide +kernel
theorem dX5_init_24 : decode cX5_init 24 = .ok (.getfield 11, 3) := by decide +kernel
theorem dX5_init_27 : decode cX5_init 27 = .ok (.iload_n 1, 1) := by decide +kernel
theorem dX5_init_28 : decode cX5_init 28 = .ok (.new 9, 3) := by decide +kernel
theorem dX5_init_31 : decode cX5_init 31 = .ok (.dup, 1) := by decide +kernel
theorem dX5_init_32 : decode cX5_init 32 = .ok (.iload_n 1, 1) := by decide +kernel
theorem dX5_init_33 : decode cX5_init 33 = .ok (.invokespecial 17, 3) := by decide +kernel
theorem dX5_init_36 : decode cX5_init 36 = .ok (.aastore, 1) := by decide +kernel
theorem dX5_init_37 : decode cX5_init 37 = .ok (.iinc 1 1, 3) := by decide +kernel
theorem dX5_init_40 : decode cX5_init 40 = .ok (.goto (-26), 3) := by decide +kernel
theorem dX5_init_43 : decode cX5_init 43 = .ok (.return_, 1) := by decide +kernel
theorem dX5_clear_0 : decode cX5_clear 0 = .ok (.aload_n 0, 1) := by decide +kernel
theorem dX5_clear_1 : decode cX5_clear 1 = .ok (.iconst 0, 1) := by decide +kernel
theorem dX5_clear_2 : decode cX5_clear 2 = .ok (.putfield 20, 3) := by decide +kernel
theorem dX5_clear_5 : decode cX5_clear 5 = .ok (.aload_n 0, 1) := by decide +kernel
theorem dX5_clear_6 : decode cX5_clear 6 = .ok (.iconst 0, 1) := by decide +kernel
theorem dX5_clear_7 : decode cX5_clear 7 = .ok (.putfield 24, 3) := by decide +kernel
theorem dX5_clear_10 : decode cX5_clear 10 = .ok (.aload_n 0, 1) := by decide +kernel
theorem dX5_clear_11 : decode cX5_clear 11 = .ok (.iconst 0, 1) := by decide +kernel
theorem dX5_clear_12 : decode cX5_clear 12 = .ok (.putfield 28, 3) := by decide +kernel
theorem dX5_clear_15 : decode cX5_clear 15 = .ok (.aload_n 0, 1) := by decide +kernel
theorem dX5_clear_16 : decode cX5_clear 16 = .ok (.iconst 0, 1) := by decide +kernel
theorem dX5_clear_17 : decode cX5_clear 17 = .ok (.putfield 31, 3) := by decide +kernel
theorem dX5_clear_20 : decode cX5_clear 20 = .ok (.return_, 1) := by decide +kernel
theorem dX5_takeFrom_0 : decode cX5_takeFrom 0 = .ok (.aload_n 0, 1) := by decide +kernel
theorem dX5_takeFrom_1 : decode cX5_takeFrom 1 = .ok (.aload_n 1, 1) := by decide +kernel
theorem dX5_takeFrom_2 : decode cX5_takeFrom 2 = .ok (.getfield 20, 3) := by decide +kernel
theorem dX5_takeFrom_5 : decode cX5_takeFrom 5 = .ok (.putfield 20, 3) := by decide +kernel
theorem dX5_takeFrom_8 : decode cX5_takeFrom 8 = .ok (.aload_n 0, 1) := by decide +kernel
theorem dX5_takeFrom_9 : decode cX5_takeFrom 9 = .ok (.aload_n 1, 1) := by decide +kernel
theorem dX5_takeFrom_10 : decode cX5_takeFrom 10 = .ok (.getfield 24, 3) := by decide +kernel
theorem dX5_takeFrom_13 : decode cX5_takeFrom 13 = .ok (.putfield 24, 3) := by decide +kernel
theorem dX5_takeFrom_16 : decode cX5_takeFrom 16 = .ok (.aload_n 0, 1) := by decide +kernel
theorem dX5_takeFrom_17 : decode cX5_takeFrom 17 = .ok (.aload_n 1, 1) := by decide +kernel
theorem dX5_takeFrom_18 : decode cX5_takeFrom 18 = .ok (.getfield 28, 3) := by decide +kernel
theorem dX5_takeFrom_21 : decode cX5_takeFrom 21 = .ok (.putfield 28, 3) := by decide +kernel
theorem dX5_takeFrom_24 : decode cX5_takeFrom 24 = .ok (.aload_n 0, 1) := by decide +kernel
theorem dX5_takeFrom_25 : decode cX5_takeFrom 25 = .ok (.aload_n 1, 1) := by decide +kernel
theorem dX5_takeFrom_26 : decode cX5_takeFrom 26 = .ok (.getfield 31, 3) := by decide +kernel
theorem dX5_takeFrom_29 : decode cX5_takeFrom 29 = .ok (.putfield 31, 3) := by decide +kernel
theorem dX5_takeFrom_32 : decode cX5_takeFrom 32 = .ok (.iconst 0, 1) := by decide +kernel
theorem dX5_takeFrom_33 : decode cX5_takeFrom 33 = .ok (.istore_n 2, 1) := by decide +kernel
theorem dX5_takeFrom_34 : decode cX5_takeFrom 34 = .ok (.iload_n 2, 1) := by decide +kernel
theorem dX5_takeFrom_35 : decode cX5_takeFrom 35 = .ok (.iconst 5, 1) := by decide +kernel
theorem dX5_takeFrom_36 : decode cX5_takeFrom 36 = .ok (.if_icmp .ge 37, 3) := by decide +kernel
theorem dX5_takeFrom_39 : decode cX5_takeFrom 39 = .ok (.aload_n 0, 1) := by decide +kernel
theorem dX5_takeFrom_40 : decode cX5_takeFrom 40 = .ok (.iload_n 2, 1) := by decide +kernel
theorem dX5_takeFrom_41 : decode cX5_takeFrom 41 = .ok (.invokevirtual 34, 3) := by decide +kernel
theorem dX5_takeFrom_44 : decode cX5_takeFrom 44 = .ok (.astore_n 3, 1) := by decide +kernel
theorem dX5_takeFrom_45 : decode cX5_takeFrom 45 = .ok (.aload_n 1, 1) := by decide +kernel
theorem dX5_takeFrom_46 : decode cX5_takeFrom 46 = .ok (.iload_n 2, 1) := by decide +kernel
theorem dX5_takeFrom_47 : decode cX5_takeFrom 47 = .ok (.invokevirtual 34, 3) := by decide +kernel
theorem dX5_takeFrom_50 : decode cX5_takeFrom 50 = .ok (.astore 4, 2) := by decide +kernel
theorem dX5_takeFrom_52 : decode cX5_takeFrom 52 = .ok (.aload_n 3, 1) := by decide +kernel
theorem dX5_takeFrom_53 : decode cX5_takeFrom 53 = .ok (.ifnull 14, 3) := by decide +kernel
theorem dX5_takeFrom_56 : decode cX5_takeFrom 56 = .ok (.aload 4, 2) := by decide +kernel
theorem dX5_takeFrom_58 : decode cX5_takeFrom 58 = .ok (.ifnull 9, 3) := by decide +kernel
theorem dX5_takeFrom_61 : decode cX5_takeFrom 61 = .ok (.aload_n 3, 1) := by decide +kernel
theorem dX5_takeFrom_62 : decode cX5_takeFrom 62 = .ok (.aload 4, 2) := by decide +kernel
theorem dX5_takeFrom_64 : decode cX5_takeFrom 64 = .ok (.invokevirtual 38, 3) := by decide +kernel
theorem dX5_takeFrom_67 : decode cX5_takeFrom 67 = .ok (.iinc 2 1, 3) := by decide +kernel
theorem dX5_takeFrom_70 : decode cX5_takeFrom 70 = .ok (.goto (-36), 3) := by decide +kernel
theorem dX5_takeFrom_73 : decode cX5_takeFrom 73 = .ok (.return_, 1) := by decide +kernel
theorem dX5_at_0 : decode cX5_at 0 = .ok (.iload_n 1, 1) := by decide +kernel
theorem dX5_at_1 : decode cX5_at 1 = .ok (.ifCond .lt 29, 3) := by decide +kernel
theorem dX5_at_4 : decode cX5_at 4 = .ok (.iload_n 1, 1) := by decide +kernel
theorem dX5_at_5 : decode cX5_at 5 = .ok (.aload_n 0, 1) := by decide +kernel
theorem dX5_at_6 : decode cX5_at 6 = .ok (.getfield 31, 3) := by decide +kernel
theorem dX5_at_9 : decode cX5_at 9 = .ok (.if_icmp .ge 21, 3) := by decide +kernel
theorem dX5_at_12 : decode cX5_at 12 = .ok (.iload_n 1, 1) := by decide +kernel
theorem dX5_at_13 : decode cX5_at 13 = .ok (.aload_n 0, 1) := by decide +kernel
theorem dX5_at_14 : decode cX5_at 14 = .ok (.getfield 11, 3) := by decide +kernel
theorem dX5_at_17 : decode cX5_at 17 = .ok (.arraylength, 1) := by decide +kernel
theorem dX5_at_18 : decode cX5_at 18 = .ok (.if_icmp .ge 12, 3) := by decide +kernel
theorem dX5_at_21 : decode cX5_at 21 = .ok (.aload_n 0, 1) := by decide +kernel
theorem dX5_at_22 : decode cX5_at 22 = .ok (.getfield 11, 3) := by decide +kernel
theorem dX5_at_25 : decode cX5_at 25 = .ok (.iload_n 1, 1) := by decide +kernel
theorem dX5_at_26 : decode cX5_at 26 = .ok (.aaload, 1) := by decide +kernel
theorem dX5_at_27 : decode cX5_at 27 = .ok (.goto 4, 3) := by decide +kernel
theorem dX5_at_30 : decode cX5_at 30 = .ok (.aconst_null, 1) := by decide +kernel
theorem dX5_at_31 : decode cX5_at 31 = .ok (.areturn, 1) := by decide +kernel
theorem dX5_addChild_0 : decode cX5_addChild 0 = .ok (.aload_n 0, 1) := by decide +kernel
theorem dX5_addChild_1 : decode cX5_addChild 1 = .ok (.dup, 1) := by decide +kernel
theorem dX5_addChild_2 : decode cX5_addChild 2 = .ok (.getfield 31, 3) := by decide +kernel
theorem dX5_addChild_5 : decode cX5_addChild 5 = .ok (.iconst 1, 1) := by decide +kernel
theorem dX5_addChild_6 : decode cX5_addChild 6 = .ok (.iadd, 1) := by decide +kernel
theorem dX5_addChild_7 : decode cX5_addChild 7 = .ok (.putfield 31, 3) := by decide +kernel
theorem dX5_addChild_10 : decode cX5_addChild 10 = .ok (.aload_n 0, 1) := by decide +kernel
theorem dX5_addChild_11 : decode cX5_addChild 11 = .ok (.aload_n 0, 1) := by decide +kernel
theorem dX5_addChild_12 : decode cX5_addChild 12 = .ok (.getfield 31, 3) := by decide +kernel
theorem dX5_addChild_15 : decode cX5_addChild 15 = .ok (.iconst 1, 1) := by decide +kernel
theorem dX5_addChild_16 : decode cX5_addChild 16 = .ok (.isub, 1) := by decide +kernel
theorem dX5_addChild_17 : decode cX5_addChild 17 = .ok (.invokevirtual 34, 3) := by decide +kernel
theorem dX5_addChild_20 : decode cX5_addChild 20 = .ok (.astore 4, 2) := by decide +kernel
theorem dX5_addChild_22 : decode cX5_addChild 22 = .ok (.aload 4, 2) := by decide +kernel
theorem dX5_addChild_24 : decode cX5_addChild 24 = .ok (.ifnull 27, 3) := by decide +kernel
theorem dX5_addChild_27 : decode cX5_addChild 27 = .ok (.aload 4, 2) := by decide +kernel
theorem dX5_addChild_29 : decode cX5_addChild 29 = .ok (.iload_n 1, 1) := by decide +kernel
theorem dX5_addChild_30 : decode cX5_addChild 30 = .ok (.putfield 42, 3) := by decide +kernel
theorem dX5_addChild_33 : decode cX5_addChild 33 = .ok (.aload 4, 2) := by decide +kernel
theorem dX5_addChild_35 : decode cX5_addChild 35 = .ok (.iload_n 2, 1) := by decide +kernel
theorem dX5_addChild_36 : decode cX5_addChild 36 = .ok (.putfield 45, 3) := by decide +kernel
theorem dX5_addChild_39 : decode cX5_addChild 39 = .ok (.aload 4, 2) := by decide +kernel
theorem dX5_addChild_41 : decode cX5_addChild 41 = .ok (.iload_n 3, 1) := by decide +kernel
theorem dX5_addChild_42 : decode cX5_addChild 42 = .ok (.putfield 48, 3) := by decide +kernel
theorem dX5_addChild_45 : decode cX5_addChild 45 = .ok (.aload 4, 2) := by decide +kernel
theorem dX5_addChild_47 : decode cX5_addChild 47 = .ok (.iconst 0, 1) := by decide +kernel
theorem dX5_addChild_48 : decode cX5_addChild 48 = .ok (.putfield 51, 3) := by decide +kernel
theorem dX5_addChild_51 : decode cX5_addChild 51 = .ok (.return_, 1) := by decide +kernel
theorem dX5_isDry_0 : decode cX5_isDry 0 = .ok (.iload_n 1, 1) := by decide +kernel
theorem dX5_isDry_1 : decode cX5_isDry 1 = .ok (.invokestatic 54, 3) := by decide +kernel
theorem dX5_isDry_4 : decode cX5_isDry 4 = .ok (.ifCond .eq 18, 3) := by decide +kernel
theorem dX5_isDry_7 : decode cX5_isDry 7 = .ok (.aload_n 0, 1) := by decide +kernel
theorem dX5_isDry_8 : decode cX5_isDry 8 = .ok (.getfield 28, 3) := by decide +kernel
theorem dX5_isDry_11 : decode cX5_isDry 11 = .ok (.iload_n 1, 1) := by decide +kernel
theorem dX5_isDry_12 : decode cX5_isDry 12 = .ok (.ishr, 1) := by decide +kernel
theorem dX5_isDry_13 : decode cX5_isDry 13 = .ok (.iconst 1, 1) := by decide +kernel
theorem dX5_isDry_14 : decode cX5_isDry 14 = .ok (.iand, 1) := by decide +kernel
theorem dX5_isDry_15 : decode cX5_isDry 15 = .ok (.ifCond .ne 7, 3) := by decide +kernel
theorem dX5_isDry_18 : decode cX5_isDry 18 = .ok (.iconst 1, 1) := by decide +kernel
theorem dX5_isDry_19 : decode cX5_isDry 19 = .ok (.goto 4, 3) := by decide +kernel
theorem dX5_isDry_22 : decode cX5_isDry 22 = .ok (.iconst 0, 1) := by decide +kernel
theorem dX5_isDry_23 : decode cX5_isDry 23 = .ok (.ireturn, 1) := by decide +kernel
theorem dX5_mostPennies_0 : decode cX5_mostPennies 0 = .ok (.iconst 0, 1) := by decide +kernel
theorem dX5_mostPennies_1 : decode cX5_mostPennies 1 = .ok (.istore_n 1, 1) := by decide +kernel
theorem dX5_mostPennies_2 : decode cX5_mostPennies 2 = .ok (.iconst 0, 1) := by decide +kernel
theorem dX5_mostPennies_3 : decode cX5_mostPennies 3 = .ok (.istore_n 2, 1) := by decide +kernel
theorem dX5_mostPennies_4 : decode cX5_mostPennies 4 = .ok (.iload_n 2, 1) := by decide +kernel
theorem dX5_mostPennies_5 : decode cX5_mostPennies 5 = .ok (.iconst 5, 1) := by decide +kernel
theorem dX5_mostPennies_6 : decode cX5_mostPennies 6 = .ok (.if_icmp .ge 32, 3) := by decide +kernel
theorem dX5_mostPennies_9 : decode cX5_mostPennies 9 = .ok (.aload_n 0, 1) := by decide +kernel
theorem dX5_mostPennies_10 : decode cX5_mostPennies 10 = .ok (.iload_n 2, 1) := by decide +kernel
theorem dX5_mostPennies_11 : decode cX5_mostPennies 11 = .ok (.invokevirtual 34, 3) := by decide +kernel
theorem dX5_mostPennies_14 : decode cX5_mostPennies 14 = .ok (.astore_n 3, 1) := by decide +kernel
theorem dX5_mostPennies_15 : decode cX5_mostPennies 15 = .ok (.aload_n 3, 1) := by decide +kernel
theorem dX5_mostPennies_16 : decode cX5_mostPennies 16 = .ok (.ifnonnull 7, 3) := by decide +kernel
theorem dX5_mostPennies_19 : decode cX5_mostPennies 19 = .ok (.iload_n 1, 1) := by decide +kernel
theorem dX5_mostPennies_20 : decode cX5_mostPennies 20 = .ok (.goto 11, 3) := by decide +kernel
theorem dX5_mostPennies_23 : decode cX5_mostPennies 23 = .ok (.iload_n 1, 1) := by decide +kernel
theorem dX5_mostPennies_24 : decode cX5_mostPennies 24 = .ok (.aload_n 3, 1) := by decide +kernel
theorem dX5_mostPennies_25 : decode cX5_mostPennies 25 = .ok (.getfield 51, 3) := by decide +kernel
theorem dX5_mostPennies_28 : decode cX5_mostPennies 28 = .ok (.invokestatic 58, 3) := by decide +kernel
theorem dX5_mostPennies_31 : decode cX5_mostPennies 31 = .ok (.istore_n 1, 1) := by decide +kernel
theorem dX5_mostPennies_32 : decode cX5_mostPennies 32 = .ok (.iinc 2 1, 3) := by decide +kernel
theorem dX5_mostPennies_35 : decode cX5_mostPennies 35 = .ok (.goto (-31), 3) := by decide +kernel
theorem dX5_mostPennies_38 : decode cX5_mostPennies 38 = .ok (.iload_n 1, 1) := by decide +kernel
theorem dX5_mostPennies_39 : decode cX5_mostPennies 39 = .ok (.ireturn, 1) := by decide +kernel
theorem dX5_allPennies_0 : decode cX5_allPennies 0 = .ok (.iconst 0, 1) := by decide +kernel
theorem dX5_allPennies_1 : decode cX5_allPennies 1 = .ok (.istore_n 1, 1) := by decide +kernel
theorem dX5_allPennies_2 : decode cX5_allPennies 2 = .ok (.iconst 0, 1) := by decide +kernel
theorem dX5_allPennies_3 : decode cX5_allPennies 3 = .ok (.istore_n 2, 1) := by decide +kernel
theorem dX5_allPennies_4 : decode cX5_allPennies 4 = .ok (.iload_n 2, 1) := by decide +kernel
theorem dX5_allPennies_5 : decode cX5_allPennies 5 = .ok (.iconst 5, 1) := by decide +kernel
theorem dX5_allPennies_6 : decode cX5_allPennies 6 = .ok (.if_icmp .ge 30, 3) := by decide +kernel
theorem dX5_allPennies_9 : decode cX5_allPennies 9 = .ok (.aload_n 0, 1) := by decide +kernel
theorem dX5_allPennies_10 : decode cX5_allPennies 10 = .ok (.iload_n 2, 1) := by decide +kernel
theorem dX5_allPennies_11 : decode cX5_allPennies 11 = .ok (.invokevirtual 34, 3) := by decide +kernel
theorem dX5_allPennies_14 : decode cX5_allPennies 14 = .ok (.astore_n 3, 1) := by decide +kernel
theorem dX5_allPennies_15 : decode cX5_allPennies 15 = .ok (.iload_n 1, 1) := by decide +kernel
theorem dX5_allPennies_16 : decode cX5_allPennies 16 = .ok (.aload_n 3, 1) := by decide +kernel
theorem dX5_allPennies_17 : decode cX5_allPennies 17 = .ok (.ifnonnull 7, 3) := by decide +kernel
theorem dX5_allPennies_20 : decode cX5_allPennies 20 = .ok (.iconst 0, 1) := by decide +kernel
theorem dX5_allPennies_21 : decode cX5_allPennies 21 = .ok (.goto 7, 3) := by decide +kernel
theorem dX5_allPennies_24 : decode cX5_allPennies 24 = .ok (.aload_n 3, 1) := by decide +kernel
theorem dX5_allPennies_25 : decode cX5_allPennies 25 = .ok (.getfield 51, 3) := by decide +kernel
theorem dX5_allPennies_28 : decode cX5_allPennies 28 = .ok (.iadd, 1) := by decide +kernel
theorem dX5_allPennies_29 : decode cX5_allPennies 29 = .ok (.istore_n 1, 1) := by decide +kernel
theorem dX5_allPennies_30 : decode cX5_allPennies 30 = .ok (.iinc 2 1, 3) := by decide +kernel
theorem dX5_allPennies_33 : decode cX5_allPennies 33 = .ok (.goto (-29), 3) := by decide +kernel
theorem dX5_allPennies_36 : decode cX5_allPennies 36 = .ok (.iload_n 1, 1) := by decide +kernel
theorem dX5_allPennies_37 : decode cX5_allPennies 37 = .ok (.ireturn, 1) := by decide +kernel
theorem dX5_pickerAt_0 : decode cX5_pickerAt 0 = .ok (.iconst (-1), 1) := by decide +kernel
theorem dX5_pickerAt_1 : decode cX5_pickerAt 1 = .ok (.istore_n 2, 1) := by decide +kernel
theorem dX5_pickerAt_2 : decode cX5_pickerAt 2 = .ok (.iconst 0, 1) := by decide +kernel
theorem dX5_pickerAt_3 : decode cX5_pickerAt 3 = .ok (.istore_n 3, 1) := by decide +kernel
theorem dX5_pickerAt_4 : decode cX5_pickerAt 4 = .ok (.iconst 0, 1) := by decide +kernel
theorem dX5_pickerAt_5 : decode cX5_pickerAt 5 = .ok (.istore 4, 2) := by decide +kernel
theorem dX5_pickerAt_7 : decode cX5_pickerAt 7 = .ok (.iload 4, 2) := by decide +kernel
theorem dX5_pickerAt_9 : decode cX5_pickerAt 9 = .ok (.iconst 5, 1) := by decide +kernel
theorem dX5_pickerAt_10 : decode cX5_pickerAt 10 = .ok (.if_icmp .ge 66, 3) := by decide +kernel
theorem dX5_pickerAt_13 : decode cX5_pickerAt 13 = .ok (.aload_n 0, 1) := by decide +kernel
theorem dX5_pickerAt_14 : decode cX5_pickerAt 14 = .ok (.iload_n 1, 1) := by decide +kernel
theorem dX5_pickerAt_15 : decode cX5_pickerAt 15 = .ok (.invokevirtual 64, 3) := by decide +kernel
theorem dX5_pickerAt_18 : decode cX5_pickerAt 18 = .ok (.ifCond .eq 58, 3) := by decide +kernel
theorem dX5_pickerAt_21 : decode cX5_pickerAt 21 = .ok (.aload_n 0, 1) := by decide +kernel
theorem dX5_pickerAt_22 : decode cX5_pickerAt 22 = .ok (.iload 4, 2) := by decide +kernel
theorem dX5_pickerAt_24 : decode cX5_pickerAt 24 = .ok (.invokevirtual 34, 3) := by decide +kernel
theorem dX5_pickerAt_27 : decode cX5_pickerAt 27 = .ok (.astore 5, 2) := by decide +kernel
theorem dX5_pickerAt_29 : decode cX5_pickerAt 29 = .ok (.aload 5, 2) := by decide +kernel
theorem dX5_pickerAt_31 : decode cX5_pickerAt 31 = .ok (.ifnonnull 7, 3) := by decide +kernel
theorem dX5_pickerAt_34 : decode cX5_pickerAt 34 = .ok (.iconst 0, 1) := by decide +kernel
theorem dX5_pickerAt_35 : decode cX5_pickerAt 35 = .ok (.goto 21, 3) := by decide +kernel
theorem dX5_pickerAt_38 : decode cX5_pickerAt 38 = .ok (.aload 5, 2) := by decide +kernel
theorem dX5_pickerAt_40 : decode cX5_pickerAt 40 = .ok (.aload 5, 2) := by decide +kernel
theorem dX5_pickerAt_42 : decode cX5_pickerAt 42 = .ok (.getfield 45, 3) := by decide +kernel
theorem dX5_pickerAt_45 : decode cX5_pickerAt 45 = .ok (.iload_n 1, 1) := by decide +kernel
theorem dX5_pickerAt_46 : decode cX5_pickerAt 46 = .ok (.invokestatic 67, 3) := by decide +kernel
theorem dX5_pickerAt_49 : decode cX5_pickerAt 49 = .ok (.aload_n 0, 1) := by decide +kernel
theorem dX5_pickerAt_50 : decode cX5_pickerAt 50 = .ok (.getfield 24, 3) := by decide +kernel
theorem dX5_pickerAt_53 : decode cX5_pickerAt 53 = .ok (.invokevirtual 70, 3) := by decide +kernel
theorem dX5_pickerAt_56 : decode cX5_pickerAt 56 = .ok (.istore 6, 2) := by decide +kernel
theorem dX5_pickerAt_58 : decode cX5_pickerAt 58 = .ok (.iload 6, 2) := by decide +kernel
theorem dX5_pickerAt_60 : decode cX5_pickerAt 60 = .ok (.iload_n 3, 1) := by decide +kernel
theorem dX5_pickerAt_61 : decode cX5_pickerAt 61 = .ok (.if_icmp .le 9, 3) := by decide +kernel
theorem dX5_pickerAt_64 : decode cX5_pickerAt 64 = .ok (.iload 6, 2) := by decide +kernel
theorem dX5_pickerAt_66 : decode cX5_pickerAt 66 = .ok (.istore_n 3, 1) := by decide +kernel
theorem dX5_pickerAt_67 : decode cX5_pickerAt 67 = .ok (.iload 4, 2) := by decide +kernel
theorem dX5_pickerAt_69 : decode cX5_pickerAt 69 = .ok (.istore_n 2, 1) := by decide +kernel
theorem dX5_pickerAt_70 : decode cX5_pickerAt 70 = .ok (.iinc 4 1, 3) := by decide +kernel
theorem dX5_pickerAt_73 : decode cX5_pickerAt 73 = .ok (.goto (-66), 3) := by decide +kernel
theorem dX5_pickerAt_76 : decode cX5_pickerAt 76 = .ok (.iload_n 2, 1) := by decide +kernel
theorem dX5_pickerAt_77 : decode cX5_pickerAt 77 = .ok (.ireturn, 1) := by decide +kernel
theorem dX5_powerNeeded_0 : decode cX5_powerNeeded 0 = .ok (.aload_n 0, 1) := by decide +kernel
theorem dX5_powerNeeded_1 : decode cX5_powerNeeded 1 = .ok (.iload_n 3, 1) := by decide +kernel
theorem dX5_powerNeeded_2 : decode cX5_powerNeeded 2 = .ok (.invokevirtual 64, 3) := by decide +kernel
theorem dX5_powerNeeded_5 : decode cX5_powerNeeded 5 = .ok (.ifCond .ne 7, 3) := by decide +kernel
theorem dX5_powerNeeded_8 : decode cX5_powerNeeded 8 = .ok (.sipush 1000, 3) := by decide +kernel
theorem dX5_powerNeeded_11 : decode cX5_powerNeeded 11 = .ok (.ireturn, 1) := by decide +kernel
theorem dX5_powerNeeded_12 : decode cX5_powerNeeded 12 = .ok (.iconst 1, 1) := by decide +kernel
theorem dX5_powerNeeded_13 : decode cX5_powerNeeded 13 = .ok (.istore 4, 2) := by decide +kernel
theorem dX5_powerNeeded_15 : decode cX5_powerNeeded 15 = .ok (.iconst 0, 1) := by decide +kernel
theorem dX5_powerNeeded_16 : decode cX5_powerNeeded 16 = .ok (.istore 5, 2) := by decide +kernel
theorem dX5_powerNeeded_18 : decode cX5_powerNeeded 18 = .ok (.iload 5, 2) := by decide +kernel
theorem dX5_powerNeeded_20 : decode cX5_powerNeeded 20 = .ok (.iconst 5, 1) := by decide +kernel
theorem dX5_powerNeeded_21 : decode cX5_powerNeeded 21 = .ok (.if_icmp .ge 75, 3) := by decide +kernel
theorem dX5_powerNeeded_24 : decode cX5_powerNeeded 24 = .ok (.aload_n 0, 1) := by decide +kernel
theorem dX5_powerNeeded_25 : decode cX5_powerNeeded 25 = .ok (.iload 5, 2) := by decide +kernel
theorem dX5_powerNeeded_27 : decode cX5_powerNeeded 27 = .ok (.invokevirtual 34, 3) := by decide +kernel
theorem dX5_powerNeeded_30 : decode cX5_powerNeeded 30 = .ok (.astore 6, 2) := by decide +kernel
theorem dX5_powerNeeded_32 : decode cX5_powerNeeded 32 = .ok (.aload 6, 2) := by decide +kernel
theorem dX5_powerNeeded_34 : decode cX5_powerNeeded 34 = .ok (.ifnull 56, 3) := by decide +kernel
theorem dX5_powerNeeded_37 : decode cX5_powerNeeded 37 = .ok (.iload 5, 2) := by decide +kernel
theorem dX5_powerNeeded_39 : decode cX5_powerNeeded 39 = .ok (.iload_n 1, 1) := by decide +kernel
theorem dX5_powerNeeded_40 : decode cX5_powerNeeded 40 = .ok (.if_icmp .eq 50, 3) := by decide +kernel
theorem dX5_powerNeeded_43 : decode cX5_powerNeeded 43 = .ok (.iload 5, 2) := by decide +kernel
theorem dX5_powerNeeded_45 : decode cX5_powerNeeded 45 = .ok (.iload_n 2, 1) := by decide +kernel
theorem dX5_powerNeeded_46 : decode cX5_powerNeeded 46 = .ok (.if_icmp .eq 44, 3) := by decide +kernel
theorem dX5_powerNeeded_49 : decode cX5_powerNeeded 49 = .ok (.iload 5, 2) := by decide +kernel
theorem dX5_powerNeeded_51 : decode cX5_powerNeeded 51 = .ok (.iload_n 1, 1) := by decide +kernel
theorem dX5_powerNeeded_52 : decode cX5_powerNeeded 52 = .ok (.if_icmp .ge 7, 3) := by decide +kernel
theorem dX5_powerNeeded_55 : decode cX5_powerNeeded 55 = .ok (.iconst 1, 1) := by decide +kernel
theorem dX5_powerNeeded_56 : decode cX5_powerNeeded 56 = .ok (.goto 4, 3) := by decide +kernel
theorem dX5_powerNeeded_59 : decode cX5_powerNeeded 59 = .ok (.iconst 0, 1) := by decide +kernel
theorem dX5_powerNeeded_60 : decode cX5_powerNeeded 60 = .ok (.istore 7, 2) := by decide +kernel
theorem dX5_powerNeeded_62 : decode cX5_powerNeeded 62 = .ok (.iload 4, 2) := by decide +kernel
theorem dX5_powerNeeded_64 : decode cX5_powerNeeded 64 = .ok (.aload 6, 2) := by decide +kernel
theorem dX5_powerNeeded_66 : decode cX5_powerNeeded 66 = .ok (.aload 6, 2) := by decide +kernel
theorem dX5_powerNeeded_68 : decode cX5_powerNeeded 68 = .ok (.getfield 45, 3) := by decide +kernel
theorem dX5_powerNeeded_71 : decode cX5_powerNeeded 71 = .ok (.iload_n 3, 1) := by decide +kernel
theorem dX5_powerNeeded_72 : decode cX5_powerNeeded 72 = .ok (.invokestatic 67, 3) := by decide +kernel
theorem dX5_powerNeeded_75 : decode cX5_powerNeeded 75 = .ok (.aload_n 0, 1) := by decide +kernel
theorem dX5_powerNeeded_76 : decode cX5_powerNeeded 76 = .ok (.getfield 24, 3) := by decide +kernel
theorem dX5_powerNeeded_79 : decode cX5_powerNeeded 79 = .ok (.invokevirtual 70, 3) := by decide +kernel
theorem dX5_powerNeeded_82 : decode cX5_powerNeeded 82 = .ok (.iload 7, 2) := by decide +kernel
theorem dX5_powerNeeded_84 : decode cX5_powerNeeded 84 = .ok (.iadd, 1) := by decide +kernel
theorem dX5_powerNeeded_85 : decode cX5_powerNeeded 85 = .ok (.invokestatic 58, 3) := by decide +kernel
theorem dX5_powerNeeded_88 : decode cX5_powerNeeded 88 = .ok (.istore 4, 2) := by decide +kernel
theorem dX5_powerNeeded_90 : decode cX5_powerNeeded 90 = .ok (.iinc 5 1, 3) := by decide +kernel
theorem dX5_powerNeeded_93 : decode cX5_powerNeeded 93 = .ok (.goto (-75), 3) := by decide +kernel
theorem dX5_powerNeeded_96 : decode cX5_powerNeeded 96 = .ok (.iload 4, 2) := by decide +kernel
theorem dX5_powerNeeded_98 : decode cX5_powerNeeded 98 = .ok (.ireturn, 1) := by decide +kernel
theorem dX6_init_0 : decode cX6_init 0 = .ok (.aload_n 0, 1) := by decide +kernel
theorem dX6_init_1 : decode cX6_init 1 = .ok (.invokespecial 3, 3) := by decide +kernel
theorem dX6_init_4 : decode cX6_init 4 = .ok (.aload_n 0, 1) := by decide +kernel
theorem dX6_init_5 : decode cX6_init 5 = .ok (.sipush 300, 3) := by decide +kernel
theorem dX6_init_8 : decode cX6_init 8 = .ok (.newarray .int, 2) := by decide +kernel
theorem dX6_init_10 : decode cX6_init 10 = .ok (.putfield 11, 3) := by decide +kernel
theorem dX6_init_13 : decode cX6_init 13 = .ok (.return_, 1) := by decide +kernel
theorem dX6_hasRoomFor_0 : decode cX6_hasRoomFor 0 = .ok (.aload_n 0, 1) := by decide +kernel
theorem dX6_hasRoomFor_1 : decode cX6_hasRoomFor 1 = .ok (.getfield 15, 3) := by decide +kernel
theorem dX6_hasRoomFor_4 : decode cX6_hasRoomFor 4 = .ok (.iload_n 1, 1) := by decide +kernel
theorem dX6_hasRoomFor_5 : decode cX6_hasRoomFor 5 = .ok (.iadd, 1) := by decide +kernel
theorem dX6_hasRoomFor_6 : decode cX6_hasRoomFor 6 = .ok (.aload_n 0, 1) := by decide +kernel
theorem dX6_hasRoomFor_7 : decode cX6_hasRoomFor 7 = .ok (.getfield 11, 3) := by decide +kernel
theorem dX6_hasRoomFor_10 : decode cX6_hasRoomFor 10 = .ok (.arraylength, 1) := by decide +kernel
theorem dX6_hasRoomFor_11 : decode cX6_hasRoomFor 11 = .ok (.if_icmp .gt 7, 3) := by decide +kernel
theorem dX6_hasRoomFor_14 : decode cX6_hasRoomFor 14 = .ok (.iconst 1, 1) := by decide +kernel
theorem dX6_hasRoomFor_15 : decode cX6_hasRoomFor 15 = .ok (.goto 4, 3) := by decide +kernel
theorem dX6_hasRoomFor_18 : decode cX6_hasRoomFor 18 = .ok (.iconst 0, 1) := by decide +kernel
theorem dX6_hasRoomFor_19 : decode cX6_hasRoomFor 19 = .ok (.ireturn, 1) := by decide +kernel
theorem dX6_add_0 : decode cX6_add 0 = .ok (.aload_n 0, 1) := by decide +kernel
theorem dX6_add_1 : decode cX6_add 1 = .ok (.getfield 15, 3) := by decide +kernel
theorem dX6_add_4 : decode cX6_add 4 = .ok (.ifCond .lt 35, 3) := by decide +kernel
theorem dX6_add_7 : decode cX6_add 7 = .ok (.aload_n 0, 1) := by decide +kernel
theorem dX6_add_8 : decode cX6_add 8 = .ok (.getfield 15, 3) := by decide +kernel
theorem dX6_add_11 : decode cX6_add 11 = .ok (.aload_n 0, 1) := by decide +kernel
theorem dX6_add_12 : decode cX6_add 12 = .ok (.getfield 11, 3) := by decide +kernel
theorem dX6_add_15 : decode cX6_add 15 = .ok (.arraylength, 1) := by decide +kernel
theorem dX6_add_16 : decode cX6_add 16 = .ok (.if_icmp .ge 23, 3) := by decide +kernel
theorem dX6_add_19 : decode cX6_add 19 = .ok (.aload_n 0, 1) := by decide +kernel
theorem dX6_add_20 : decode cX6_add 20 = .ok (.getfield 11, 3) := by decide +kernel
theorem dX6_add_23 : decode cX6_add 23 = .ok (.aload_n 0, 1) := by decide +kernel
theorem dX6_add_24 : decode cX6_add 24 = .ok (.getfield 15, 3) := by decide +kernel
theorem dX6_add_27 : decode cX6_add 27 = .ok (.iload_n 1, 1) := by decide +kernel
theorem dX6_add_28 : decode cX6_add 28 = .ok (.iastore, 1) := by decide +kernel
theorem dX6_add_29 : decode cX6_add 29 = .ok (.aload_n 0, 1) := by decide +kernel
theorem dX6_add_30 : decode cX6_add 30 = .ok (.dup, 1) := by decide +kernel
theorem dX6_add_31 : decode cX6_add 31 = .ok (.getfield 15, 3) := by decide +kernel
theorem dX6_add_34 : decode cX6_add 34 = .ok (.iconst 1, 1) := by decide +kernel
theorem dX6_add_35 : decode cX6_add 35 = .ok (.iadd, 1) := by decide +kernel
theorem dX6_add_36 : decode cX6_add 36 = .ok (.putfield 15, 3) := by decide +kernel
theorem dX6_add_39 : decode cX6_add 39 = .ok (.return_, 1) := by decide +kernel
theorem dX6_read_0 : decode cX6_read 0 = .ok (.aload_n 0, 1) := by decide +kernel
theorem dX6_read_1 : decode cX6_read 1 = .ok (.iconst 0, 1) := by decide +kernel
theorem dX6_read_2 : decode cX6_read 2 = .ok (.putfield 19, 3) := by decide +kernel
theorem dX6_read_5 : decode cX6_read 5 = .ok (.aload_n 0, 1) := by decide +kernel
theorem dX6_read_6 : decode cX6_read 6 = .ok (.invokevirtual 22, 3) := by decide +kernel
theorem dX6_read_9 : decode cX6_read 9 = .ok (.aload_n 0, 1) := by decide +kernel
theorem dX6_read_10 : decode cX6_read 10 = .ok (.aload_n 1, 1) := by decide +kernel
theorem dX6_read_11 : decode cX6_read 11 = .ok (.invokevirtual 25, 3) := by decide +kernel
theorem dX6_read_14 : decode cX6_read 14 = .ok (.ifCond .ne 5, 3) := by decide +kernel
theorem dX6_read_17 : decode cX6_read 17 = .ok (.iconst 0, 1) := by decide +kernel
theorem dX6_read_18 : decode cX6_read 18 = .ok (.ireturn, 1) := by decide +kernel
theorem dX6_read_19 : decode cX6_read 19 = .ok (.iconst 0, 1) := by decide +kernel
theorem dX6_read_20 : decode cX6_read 20 = .ok (.istore_n 2, 1) := by decide +kernel
theorem dX6_read_21 : decode cX6_read 21 = .ok (.aload_n 0, 1) := by decide +kernel
theorem dX6_read_22 : decode cX6_read 22 = .ok (.ldc 29, 2) := by decide +kernel
theorem dX6_read_24 : decode cX6_read 24 = .ok (.invokevirtual 31, 3) := by decide +kernel
theorem dX6_read_27 : decode cX6_read 27 = .ok (.ifCond .eq 31, 3) := by decide +kernel
theorem dX6_read_30 : decode cX6_read 30 = .ok (.iload_n 2, 1) := by decide +kernel
theorem dX6_read_31 : decode cX6_read 31 = .ok (.bipush 6, 2) := by decide +kernel
theorem dX6_read_33 : decode cX6_read 33 = .ok (.if_icmp .lt 9, 3) := by decide +kernel
theorem dX6_read_36 : decode cX6_read 36 = .ok (.aload_n 0, 1) := by decide +kernel
theorem dX6_read_37 : decode cX6_read 37 = .ok (.iconst 3, 1) := by decide +kernel
theorem dX6_read_38 : decode cX6_read 38 = .ok (.invokevirtual 35, 3) := by decide +kernel
theorem dX6_read_41 : decode cX6_read 41 = .ok (.ireturn, 1) := by decide +kernel
theorem dX6_read_42 : decode cX6_read 42 = .ok (.aload_n 0, 1) := by decide +kernel
theorem dX6_read_43 : decode cX6_read 43 = .ok (.aload_n 1, 1) := by decide +kernel
theorem dX6_read_44 : decode cX6_read 44 = .ok (.invokevirtual 39, 3) := by decide +kernel
theorem dX6_read_47 : decode cX6_read 47 = .ok (.ifCond .ne 5, 3) := by decide +kernel
theorem dX6_read_50 : decode cX6_read 50 = .ok (.iconst 0, 1) := by decide +kernel
theorem dX6_read_51 : decode cX6_read 51 = .ok (.ireturn, 1) := by decide +kernel
theorem dX6_read_52 : decode cX6_read 52 = .ok (.iinc 2 1, 3) := by decide +kernel
theorem dX6_read_55 : decode cX6_read 55 = .ok (.goto (-34), 3) := by decide +kernel
theorem dX6_read_58 : decode cX6_read 58 = .ok (.iconst 0, 1) := by decide +kernel
theorem dX6_read_59 : decode cX6_read 59 = .ok (.istore_n 2, 1) := by decide +kernel
theorem dX6_read_60 : decode cX6_read 60 = .ok (.aload_n 0, 1) := by decide +kernel
theorem dX6_read_61 : decode cX6_read 61 = .ok (.ldc 42, 2) := by decide +kernel
theorem dX6_read_63 : decode cX6_read 63 = .ok (.invokevirtual 31, 3) := by decide +kernel
theorem dX6_read_66 : decode cX6_read 66 = .ok (.ifCond .eq 30, 3) := by decide +kernel
theorem dX6_read_69 : decode cX6_read 69 = .ok (.iload_n 2, 1) := by decide +kernel
theorem dX6_read_70 : decode cX6_read 70 = .ok (.iconst 5, 1) := by decide +kernel
theorem dX6_read_71 : decode cX6_read 71 = .ok (.if_icmp .lt 9, 3) := by decide +kernel
theorem dX6_read_74 : decode cX6_read 74 = .ok (.aload_n 0, 1) := by decide +kernel
theorem dX6_read_75 : decode cX6_read 75 = .ok (.iconst 3, 1) := by decide +kernel
theorem dX6_read_76 : decode cX6_read 76 = .ok (.invokevirtual 35, 3) := by decide +kernel
theorem dX6_read_79 : decode cX6_read 79 = .ok (.ireturn, 1) := by decide +kernel
theorem dX6_read_80 : decode cX6_read 80 = .ok (.aload_n 0, 1) := by decide +kernel
theorem dX6_read_81 : decode cX6_read 81 = .ok (.aload_n 1, 1) := by decide +kernel
theorem dX6_read_82 : decode cX6_read 82 = .ok (.invokevirtual 44, 3) := by decide +kernel
theorem dX6_read_85 : decode cX6_read 85 = .ok (.ifCond .ne 5, 3) := by decide +kernel
theorem dX6_read_88 : decode cX6_read 88 = .ok (.iconst 0, 1) := by decide +kernel
theorem dX6_read_89 : decode cX6_read 89 = .ok (.ireturn, 1) := by decide +kernel
theorem dX6_read_90 : decode cX6_read 90 = .ok (.iinc 2 1, 3) := by decide +kernel
theorem dX6_read_93 : decode cX6_read 93 = .ok (.goto (-33), 3) := by decide +kernel
theorem dX6_read_96 : decode cX6_read 96 = .ok (.aload_n 0, 1) := by decide +kernel
theorem dX6_read_97 : decode cX6_read 97 = .ok (.getfield 47, 3) := by decide +kernel
theorem dX6_read_100 : decode cX6_read 100 = .ok (.ifCond .eq 11, 3) := by decide +kernel
theorem dX6_read_103 : decode cX6_read 103 = .ok (.aload_n 0, 1) := by decide +kernel
theorem dX6_read_104 : decode cX6_read 104 = .ok (.iconst 1, 1) := by decide +kernel
theorem dX6_read_105 : decode cX6_read 105 = .ok (.invokevirtual 35, 3) := by decide +kernel
theorem dX6_read_108 : decode cX6_read 108 = .ok (.ifCond .eq 7, 3) := by decide +kernel
theorem dX6_read_111 : decode cX6_read 111 = .ok (.iconst 1, 1) := by decide +kernel
theorem dX6_read_112 : decode cX6_read 112 = .ok (.goto 4, 3) := by decide +kernel
theorem dX6_read_115 : decode cX6_read 115 = .ok (.iconst 0, 1) := by decide +kernel
theorem dX6_read_116 : decode cX6_read 116 = .ok (.ireturn, 1) := by decide +kernel
theorem dX6_readLaw_0 : decode cX6_readLaw 0 = .ok (.aload_n 0, 1) := by decide +kernel
theorem dX6_readLaw_1 : decode cX6_readLaw 1 = .ok (.ldc 50, 2) := by decide +kernel
theorem dX6_readLaw_3 : decode cX6_readLaw 3 = .ok (.invokevirtual 31, 3) := by decide +kernel
theorem dX6_readLaw_6 : decode cX6_readLaw 6 = .ok (.ifCond .ne 9, 3) := by decide +kernel
theorem dX6_readLaw_9 : decode cX6_readLaw 9 = .ok (.aload_n 0, 1) := by decide +kernel
theorem dX6_readLaw_10 : decode cX6_readLaw 10 = .ok (.iconst 1, 1) := by decide +kernel
theorem dX6_readLaw_11 : decode cX6_readLaw 11 = .ok (.invokevirtual 35, 3) := by decide +kernel
theorem dX6_readLaw_14 : decode cX6_readLaw 14 = .ok (.ireturn, 1) := by decide +kernel
theorem dX6_readLaw_15 : decode cX6_readLaw 15 = .ok (.aload_n 0, 1) := by decide +kernel
theorem dX6_readLaw_16 : decode cX6_readLaw 16 = .ok (.invokevirtual 22, 3) := by decide +kernel
theorem dX6_readLaw_19 : decode cX6_readLaw 19 = .ok (.aload_n 0, 1) := by decide +kernel
theorem dX6_readLaw_20 : decode cX6_readLaw 20 = .ok (.iconst 0, 1) := by decide +kernel
theorem dX6_readLaw_21 : decode cX6_readLaw 21 = .ok (.bipush 20, 2) := by decide +kernel
theorem dX6_readLaw_23 : decode cX6_readLaw 23 = .ok (.invokevirtual 52, 3) := by decide +kernel
theorem dX6_readLaw_26 : decode cX6_readLaw 26 = .ok (.ifCond .ne 5, 3) := by decide +kernel
theorem dX6_readLaw_29 : decode cX6_readLaw 29 = .ok (.iconst 0, 1) := by decide +kernel
theorem dX6_readLaw_30 : decode cX6_readLaw 30 = .ok (.ireturn, 1) := by decide +kernel
theorem dX6_readLaw_31 : decode cX6_readLaw 31 = .ok (.aload_n 1, 1) := by decide +kernel
theorem dX6_readLaw_32 : decode cX6_readLaw 32 = .ok (.aload_n 0, 1) := by decide +kernel
theorem dX6_readLaw_33 : decode cX6_readLaw 33 = .ok (.getfield 56, 3) := by decide +kernel
theorem dX6_readLaw_36 : decode cX6_readLaw 36 = .ok (.putfield 59, 3) := by decide +kernel
theorem dX6_readLaw_39 : decode cX6_readLaw 39 = .ok (.aload_n 0, 1) := by decide +kernel
theorem dX6_readLaw_40 : decode cX6_readLaw 40 = .ok (.invokevirtual 22, 3) := by decide +kernel
theorem dX6_readLaw_43 : decode cX6_readLaw 43 = .ok (.aload_n 0, 1) := by decide +kernel
theorem dX6_readLaw_44 : decode cX6_readLaw 44 = .ok (.invokevirtual 64, 3) := by decide +kernel
theorem dX6_readLaw_47 : decode cX6_readLaw 47 = .ok (.ireturn, 1) := by decide +kernel
theorem dX6_readDrain_0 : decode cX6_readDrain 0 = .ok (.aload_n 0, 1) := by decide +kernel
theorem dX6_readDrain_1 : decode cX6_readDrain 1 = .ok (.invokevirtual 22, 3) := by decide +kernel
theorem dX6_readDrain_4 : decode cX6_readDrain 4 = .ok (.aload_n 0, 1) := by decide +kernel
theorem dX6_readDrain_5 : decode cX6_readDrain 5 = .ok (.invokevirtual 68, 3) := by decide +kernel
theorem dX6_readDrain_8 : decode cX6_readDrain 8 = .ok (.ifCond .ne 5, 3) := by decide +kernel
theorem dX6_readDrain_11 : decode cX6_readDrain 11 = .ok (.iconst 0, 1) := by decide +kernel
theorem dX6_readDrain_12 : decode cX6_readDrain 12 = .ok (.ireturn, 1) := by decide +kernel
theorem dX6_readDrain_13 : decode cX6_readDrain 13 = .ok (.aload_n 1, 1) := by decide +kernel
theorem dX6_readDrain_14 : decode cX6_readDrain 14 = .ok (.dup, 1) := by decide +kernel
theorem dX6_readDrain_15 : decode cX6_readDrain 15 = .ok (.getfield 71, 3) := by decide +kernel
theorem dX6_readDrain_18 : decode cX6_readDrain 18 = .ok (.iconst 1, 1) := by decide +kernel
theorem dX6_readDrain_19 : decode cX6_readDrain 19 = .ok (.aload_n 0, 1) := by decide +kernel
theorem dX6_readDrain_20 : decode cX6_readDrain 20 = .ok (.getfield 56, 3) := by decide +kernel
theorem dX6_readDrain_23 : decode cX6_readDrain 23 = .ok (.ishl, 1) := by decide +kernel
theorem dX6_readDrain_24 : decode cX6_readDrain 24 = .ok (.ior, 1) := by decide +kernel
theorem dX6_readDrain_25 : decode cX6_readDrain 25 = .ok (.putfield 71, 3) := by decide +kernel
theorem dX6_readDrain_28 : decode cX6_readDrain 28 = .ok (.aload_n 0, 1) := by decide +kernel
theorem dX6_readDrain_29 : decode cX6_readDrain 29 = .ok (.invokevirtual 22, 3) := by decide +kernel
theorem dX6_readDrain_32 : decode cX6_readDrain 32 = .ok (.aload_n 0, 1) := by decide +kernel
theorem dX6_readDrain_33 : decode cX6_readDrain 33 = .ok (.invokevirtual 64, 3) := by decide +kernel
theorem dX6_readDrain_36 : decode cX6_readDrain 36 = .ok (.ireturn, 1) := by decide +kernel
theorem dX6_readChild_0 : decode cX6_readChild 0 = .ok (.aload_n 0, 1) := by decide +kernel
theorem dX6_readChild_1 : decode cX6_readChild 1 = .ok (.invokevirtual 22, 3) := by decide +kernel
theorem dX6_readChild_4 : decode cX6_readChild 4 = .ok (.aload_n 0, 1) := by decide +kernel
theorem dX6_readChild_5 : decode cX6_readChild 5 = .ok (.invokevirtual 74, 3) := by decide +kernel
theorem dX6_readChild_8 : decode cX6_readChild 8 = .ok (.istore_n 2, 1) := by decide +kernel
theorem dX6_readChild_9 : decode cX6_readChild 9 = .ok (.iload_n 2, 1) := by decide +kernel
theorem dX6_readChild_10 : decode cX6_readChild 10 = .ok (.ldc 78, 2) := by decide +kernel
theorem dX6_readChild_12 : decode cX6_readChild 12 = .ok (.if_icmp .ne 9, 3) := by decide +kernel
theorem dX6_readChild_15 : decode cX6_readChild 15 = .ok (.aload_n 0, 1) := by decide +kernel
theorem dX6_readChild_16 : decode cX6_readChild 16 = .ok (.iconst 1, 1) := by decide +kernel
theorem dX6_readChild_17 : decode cX6_readChild 17 = .ok (.invokevirtual 35, 3) := by decide +kernel
theorem dX6_readChild_20 : decode cX6_readChild 20 = .ok (.ireturn, 1) := by decide +kernel
theorem dX6_readChild_21 : decode cX6_readChild 21 = .ok (.aload_n 0, 1) := by decide +kernel
theorem dX6_readChild_22 : decode cX6_readChild 22 = .ok (.invokevirtual 22, 3) := by decide +kernel
theorem dX6_readChild_25 : decode cX6_readChild 25 = .ok (.aload_n 0, 1) := by decide +kernel
theorem dX6_readChild_26 : decode cX6_readChild 26 = .ok (.invokevirtual 68, 3) := by decide +kernel
theorem dX6_readChild_29 : decode cX6_readChild 29 = .ok (.ifCond .ne 5, 3) := by decide +kernel
theorem dX6_readChild_32 : decode cX6_readChild 32 = .ok (.iconst 0, 1) := by decide +kernel
theorem dX6_readChild_33 : decode cX6_readChild 33 = .ok (.ireturn, 1) := by decide +kernel
theorem dX6_readChild_34 : decode cX6_readChild 34 = .ok (.aload_n 0, 1) := by decide +kernel
theorem dX6_readChild_35 : decode cX6_readChild 35 = .ok (.getfield 56, 3) := by decide +kernel
theorem dX6_readChild_38 : decode cX6_readChild 38 = .ok (.istore_n 3, 1) := by decide +kernel
theorem dX6_readChild_39 : decode cX6_readChild 39 = .ok (.aload_n 0, 1) := by decide +kernel
theorem dX6_readChild_40 : decode cX6_readChild 40 = .ok (.invokevirtual 22, 3) := by decide +kernel
theorem dX6_readChild_43 : decode cX6_readChild 43 = .ok (.aload_n 0, 1) := by decide +kernel
theorem dX6_readChild_44 : decode cX6_readChild 44 = .ok (.iconst 1, 1) := by decide +kernel
theorem dX6_readChild_45 : decode cX6_readChild 45 = .ok (.bipush 9, 2) := by decide +kernel
theorem dX6_readChild_47 : decode cX6_readChild 47 = .ok (.invokevirtual 52, 3) := by decide +kernel
theorem dX6_readChild_50 : decode cX6_readChild 50 = .ok (.ifCond .ne 5, 3) := by decide +kernel
theorem dX6_readChild_53 : decode cX6_readChild 53 = .ok (.iconst 0, 1) := by decide +kernel
theorem dX6_readChild_54 : decode cX6_readChild 54 = .ok (.ireturn, 1) := by decide +kernel
theorem dX6_readChild_55 : decode cX6_readChild 55 = .ok (.aload_n 1, 1) := by decide +kernel
theorem dX6_readChild_56 : decode cX6_readChild 56 = .ok (.iload_n 2, 1) := by decide +kernel
theorem dX6_readChild_57 : decode cX6_readChild 57 = .ok (.iload_n 3, 1) := by decide +kernel
theorem dX6_readChild_58 : decode cX6_readChild 58 = .ok (.aload_n 0, 1) := by decide +kernel
theorem dX6_readChild_59 : decode cX6_readChild 59 = .ok (.getfield 56, 3) := by decide +kernel
theorem dX6_readChild_62 : decode cX6_readChild 62 = .ok (.invokevirtual 79, 3) := by decide +kernel
theorem dX6_readChild_65 : decode cX6_readChild 65 = .ok (.aload_n 0, 1) := by decide +kernel
theorem dX6_readChild_66 : decode cX6_readChild 66 = .ok (.invokevirtual 22, 3) := by decide +kernel
theorem dX6_readChild_69 : decode cX6_readChild 69 = .ok (.aload_n 0, 1) := by decide +kernel
theorem dX6_readChild_70 : decode cX6_readChild 70 = .ok (.invokevirtual 64, 3) := by decide +kernel
theorem dX6_readChild_73 : decode cX6_readChild 73 = .ok (.ireturn, 1) := by decide +kernel
theorem dX6_kindNamed_0 : decode cX6_kindNamed 0 = .ok (.aload_n 0, 1) := by decide +kernel
theorem dX6_kindNamed_1 : decode cX6_kindNamed 1 = .ok (.ldc 83, 2) := by decide +kernel
theorem dX6_kindNamed_3 : decode cX6_kindNamed 3 = .ok (.invokevirtual 31, 3) := by decide +kernel
theorem dX6_kindNamed_6 : decode cX6_kindNamed 6 = .ok (.ifCond .eq 5, 3) := by decide +kernel
theorem dX6_kindNamed_9 : decode cX6_kindNamed 9 = .ok (.iconst 1, 1) := by decide +kernel
theorem dX6_kindNamed_10 : decode cX6_kindNamed 10 = .ok (.ireturn, 1) := by decide +kernel
theorem dX6_kindNamed_11 : decode cX6_kindNamed 11 = .ok (.aload_n 0, 1) := by decide +kernel
theorem dX6_kindNamed_12 : decode cX6_kindNamed 12 = .ok (.ldc 85, 2) := by decide +kernel
theorem dX6_kindNamed_14 : decode cX6_kindNamed 14 = .ok (.invokevirtual 31, 3) := by decide +kernel
theorem dX6_kindNamed_17 : decode cX6_kindNamed 17 = .ok (.ifCond .eq 5, 3) := by decide +kernel
theorem dX6_kindNamed_20 : decode cX6_kindNamed 20 = .ok (.iconst 2, 1) := by decide +kernel
theorem dX6_kindNamed_21 : decode cX6_kindNamed 21 = .ok (.ireturn, 1) := by decide +kernel
theorem dX6_kindNamed_22 : decode cX6_kindNamed 22 = .ok (.aload_n 0, 1) := by decide +kernel
theorem dX6_kindNamed_23 : decode cX6_kindNamed 23 = .ok (.ldc 87, 2) := by decide +kernel
theorem dX6_kindNamed_25 : decode cX6_kindNamed 25 = .ok (.invokevirtual 31, 3) := by decide +kernel
theorem dX6_kindNamed_28 : decode cX6_kindNamed 28 = .ok (.ifCond .eq 5, 3) := by decide +kernel
theorem dX6_kindNamed_31 : decode cX6_kindNamed 31 = .ok (.iconst 3, 1) := by decide +kernel
theorem dX6_kindNamed_32 : decode cX6_kindNamed 32 = .ok (.ireturn, 1) := by decide +kernel
theorem dX6_kindNamed_33 : decode cX6_kindNamed 33 = .ok (.aload_n 0, 1) := by decide +kernel
theorem dX6_kindNamed_34 : decode cX6_kindNamed 34 = .ok (.ldc 89, 2) := by decide +kernel
theorem dX6_kindNamed_36 : decode cX6_kindNamed 36 = .ok (.invokevirtual 31, 3) := by decide +kernel
theorem dX6_kindNamed_39 : decode cX6_kindNamed 39 = .ok (.ifCond .eq 5, 3) := by decide +kernel
theorem dX6_kindNamed_42 : decode cX6_kindNamed 42 = .ok (.iconst 4, 1) := by decide +kernel
theorem dX6_kindNamed_43 : decode cX6_kindNamed 43 = .ok (.ireturn, 1) := by decide +kernel
theorem dX6_kindNamed_44 : decode cX6_kindNamed 44 = .ok (.aload_n 0, 1) := by decide +kernel
theorem dX6_kindNamed_45 : decode cX6_kindNamed 45 = .ok (.ldc 91, 2) := by decide +kernel
theorem dX6_kindNamed_47 : decode cX6_kindNamed 47 = .ok (.invokevirtual 31, 3) := by decide +kernel
theorem dX6_kindNamed_50 : decode cX6_kindNamed 50 = .ok (.ifCond .eq 7, 3) := by decide +kernel
theorem dX6_kindNamed_53 : decode cX6_kindNamed 53 = .ok (.iconst 5, 1) := by decide +kernel
theorem dX6_kindNamed_54 : decode cX6_kindNamed 54 = .ok (.goto 5, 3) := by decide +kernel
theorem dX6_kindNamed_57 : decode cX6_kindNamed 57 = .ok (.ldc 78, 2) := by decide +kernel
theorem dX6_kindNamed_59 : decode cX6_kindNamed 59 = .ok (.ireturn, 1) := by decide +kernel
theorem dX6_takeCell_0 : decode cX6_takeCell 0 = .ok (.aload_n 0, 1) := by decide +kernel
theorem dX6_takeCell_1 : decode cX6_takeCell 1 = .ok (.iconst 0, 1) := by decide +kernel
theorem dX6_takeCell_2 : decode cX6_takeCell 2 = .ok (.iconst 5, 1) := by decide +kernel
theorem dX6_takeCell_3 : decode cX6_takeCell 3 = .ok (.invokevirtual 52, 3) := by decide +kernel
theorem dX6_takeCell_6 : decode cX6_takeCell 6 = .ok (.ifCond .ne 5, 3) := by decide +kernel
theorem dX6_takeCell_9 : decode cX6_takeCell 9 = .ok (.iconst 0, 1) := by decide +kernel
theorem dX6_takeCell_10 : decode cX6_takeCell 10 = .ok (.ireturn, 1) := by decide +kernel
theorem dX6_takeCell_11 : decode cX6_takeCell 11 = .ok (.aload_n 0, 1) := by decide +kernel
theorem dX6_takeCell_12 : decode cX6_takeCell 12 = .ok (.getfield 56, 3) := by decide +kernel
theorem dX6_takeCell_15 : decode cX6_takeCell 15 = .ok (.istore_n 1, 1) := by decide +kernel
theorem dX6_takeCell_16 : decode cX6_takeCell 16 = .ok (.aload_n 0, 1) := by decide +kernel
theorem dX6_takeCell_17 : decode cX6_takeCell 17 = .ok (.invokevirtual 22, 3) := by decide +kernel
theorem dX6_takeCell_20 : decode cX6_takeCell 20 = .ok (.aload_n 0, 1) := by decide +kernel
theorem dX6_takeCell_21 : decode cX6_takeCell 21 = .ok (.iconst 0, 1) := by decide +kernel
theorem dX6_takeCell_22 : decode cX6_takeCell 22 = .ok (.iconst 4, 1) := by decide +kernel
theorem dX6_takeCell_23 : decode cX6_takeCell 23 = .ok (.invokevirtual 52, 3) := by decide +kernel
theorem dX6_takeCell_26 : decode cX6_takeCell 26 = .ok (.ifCond .ne 5, 3) := by decide +kernel
theorem dX6_takeCell_29 : decode cX6_takeCell 29 = .ok (.iconst 0, 1) := by decide +kernel
theorem dX6_takeCell_30 : decode cX6_takeCell 30 = .ok (.ireturn, 1) := by decide +kernel
theorem dX6_takeCell_31 : decode cX6_takeCell 31 = .ok (.aload_n 0, 1) := by decide +kernel
theorem dX6_takeCell_32 : decode cX6_takeCell 32 = .ok (.bipush 6, 2) := by decide +kernel
theorem dX6_takeCell_34 : decode cX6_takeCell 34 = .ok (.aload_n 0, 1) := by decide +kernel
theorem dX6_takeCell_35 : decode cX6_takeCell 35 = .ok (.getfield 56, 3) := by decide +kernel
theorem dX6_takeCell_38 : decode cX6_takeCell 38 = .ok (.imul, 1) := by decide +kernel
theorem dX6_takeCell_39 : decode cX6_takeCell 39 = .ok (.iload_n 1, 1) := by decide +kernel
theorem dX6_takeCell_40 : decode cX6_takeCell 40 = .ok (.iadd, 1) := by decide +kernel
theorem dX6_takeCell_41 : decode cX6_takeCell 41 = .ok (.putfield 56, 3) := by decide +kernel
theorem dX6_takeCell_44 : decode cX6_takeCell 44 = .ok (.iconst 1, 1) := by decide +kernel
theorem dX6_takeCell_45 : decode cX6_takeCell 45 = .ok (.ireturn, 1) := by decide +kernel
theorem dX6_takeNumber_0 : decode cX6_takeNumber 0 = .ok (.aload_n 0, 1) := by decide +kernel
theorem dX6_takeNumber_1 : decode cX6_takeNumber 1 = .ok (.getfield 47, 3) := by decide +kernel
theorem dX6_takeNumber_4 : decode cX6_takeNumber 4 = .ok (.iconst 2, 1) := by decide +kernel
theorem dX6_takeNumber_5 : decode cX6_takeNumber 5 = .ok (.if_icmp .eq 9, 3) := by decide +kernel
theorem dX6_takeNumber_8 : decode cX6_takeNumber 8 = .ok (.aload_n 0, 1) := by decide +kernel
theorem dX6_takeNumber_9 : decode cX6_takeNumber 9 = .ok (.iconst 1, 1) := by decide +kernel
theorem dX6_takeNumber_10 : decode cX6_takeNumber 10 = .ok (.invokevirtual 35, 3) := by decide +kernel
theorem dX6_takeNumber_13 : decode cX6_takeNumber 13 = .ok (.ireturn, 1) := by decide +kernel
theorem dX6_takeNumber_14 : decode cX6_takeNumber 14 = .ok (.aload_n 0, 1) := by decide +kernel
theorem dX6_takeNumber_15 : decode cX6_takeNumber 15 = .ok (.getfield 56, 3) := by decide +kernel
theorem dX6_takeNumber_18 : decode cX6_takeNumber 18 = .ok (.iload_n 1, 1) := by decide +kernel
theorem dX6_takeNumber_19 : decode cX6_takeNumber 19 = .ok (.if_icmp .lt 11, 3) := by decide +kernel
theorem dX6_takeNumber_22 : decode cX6_takeNumber 22 = .ok (.aload_n 0, 1) := by decide +kernel
theorem dX6_takeNumber_23 : decode cX6_takeNumber 23 = .ok (.getfield 56, 3) := by decide +kernel
theorem dX6_takeNumber_26 : decode cX6_takeNumber 26 = .ok (.iload_n 2, 1) := by decide +kernel
theorem dX6_takeNumber_27 : decode cX6_takeNumber 27 = .ok (.if_icmp .le 11, 3) := by decide +kernel
theorem dX6_takeNumber_30 : decode cX6_takeNumber 30 = .ok (.aload_n 0, 1) := by decide +kernel
theorem dX6_takeNumber_31 : decode cX6_takeNumber 31 = .ok (.iconst 2, 1) := by decide +kernel
theorem dX6_takeNumber_32 : decode cX6_takeNumber 32 = .ok (.invokevirtual 35, 3) := by decide +kernel
theorem dX6_takeNumber_35 : decode cX6_takeNumber 35 = .ok (.ifCond .eq 7, 3) := by decide +kernel
theorem dX6_takeNumber_38 : decode cX6_takeNumber 38 = .ok (.iconst 1, 1) := by decide +kernel
theorem dX6_takeNumber_39 : decode cX6_takeNumber 39 = .ok (.goto 4, 3) := by decide +kernel
theorem dX6_takeNumber_42 : decode cX6_takeNumber 42 = .ok (.iconst 0, 1) := by decide +kernel
theorem dX6_takeNumber_43 : decode cX6_takeNumber 43 = .ok (.ireturn, 1) := by decide +kernel
theorem dX6_takeEnd_0 : decode cX6_takeEnd 0 = .ok (.aload_n 0, 1) := by decide +kernel
theorem dX6_takeEnd_1 : decode cX6_takeEnd 1 = .ok (.getfield 47, 3) := by decide +kernel
theorem dX6_takeEnd_4 : decode cX6_takeEnd 4 = .ok (.iconst 3, 1) := by decide +kernel
theorem dX6_takeEnd_5 : decode cX6_takeEnd 5 = .ok (.if_icmp .eq 9, 3) := by decide +kernel
theorem dX6_takeEnd_8 : decode cX6_takeEnd 8 = .ok (.aload_n 0, 1) := by decide +kernel
theorem dX6_takeEnd_9 : decode cX6_takeEnd 9 = .ok (.iconst 1, 1) := by decide +kernel
theorem dX6_takeEnd_10 : decode cX6_takeEnd 10 = .ok (.invokevirtual 35, 3) := by decide +kernel
theorem dX6_takeEnd_13 : decode cX6_takeEnd 13 = .ok (.ireturn, 1) := by decide +kernel
theorem dX6_takeEnd_14 : decode cX6_takeEnd 14 = .ok (.aload_n 0, 1) := by decide +kernel
theorem dX6_takeEnd_15 : decode cX6_takeEnd 15 = .ok (.invokevirtual 22, 3) := by decide +kernel
theorem dX6_takeEnd_18 : decode cX6_takeEnd 18 = .ok (.iconst 1, 1) := by decide +kernel
theorem dX6_takeEnd_19 : decode cX6_takeEnd 19 = .ok (.ireturn, 1) := by decide +kernel
theorem dX6_refuse_0 : decode cX6_refuse 0 = .ok (.aload_n 0, 1) := by decide +kernel
theorem dX6_refuse_1 : decode cX6_refuse 1 = .ok (.iload_n 1, 1) := by decide +kernel
theorem dX6_refuse_2 : decode cX6_refuse 2 = .ok (.putfield 93, 3) := by decide +kernel
theorem dX6_refuse_5 : decode cX6_refuse 5 = .ok (.iconst 0, 1) := by decide +kernel
theorem dX6_refuse_6 : decode cX6_refuse 6 = .ok (.ireturn, 1) := by decide +kernel
theorem dX6_isName_0 : decode cX6_isName 0 = .ok (.aload_n 0, 1) := by decide +kernel
theorem dX6_isName_1 : decode cX6_isName 1 = .ok (.getfield 47, 3) := by decide +kernel
theorem dX6_isName_4 : decode cX6_isName 4 = .ok (.iconst 1, 1) := by decide +kernel
theorem dX6_isName_5 : decode cX6_isName 5 = .ok (.if_icmp .ne 19, 3) := by decide +kernel
theorem dX6_isName_8 : decode cX6_isName 8 = .ok (.aload_n 0, 1) := by decide +kernel
theorem dX6_isName_9 : decode cX6_isName 9 = .ok (.getfield 19, 3) := by decide +kernel
theorem dX6_isName_12 : decode cX6_isName 12 = .ok (.aload_n 0, 1) := by decide +kernel
theorem dX6_isName_13 : decode cX6_isName 13 = .ok (.getfield 96, 3) := by decide +kernel
theorem dX6_isName_16 : decode cX6_isName 16 = .ok (.isub, 1) := by decide +kernel
theorem dX6_isName_17 : decode cX6_isName 17 = .ok (.aload_n 1, 1) := by decide +kernel
theorem dX6_isName_18 : decode cX6_isName 18 = .ok (.invokevirtual 99, 3) := by decide +kernel
theorem dX6_isName_21 : decode cX6_isName 21 = .ok (.if_icmp .eq 5, 3) := by decide +kernel
theorem dX6_isName_24 : decode cX6_isName 24 = .ok (.iconst 0, 1) := by decide +kernel
theorem dX6_isName_25 : decode cX6_isName 25 = .ok (.ireturn, 1) := by decide +kernel
theorem dX6_isName_26 : decode cX6_isName 26 = .ok (.iconst 0, 1) := by decide +kernel
theorem dX6_isName_27 : decode cX6_isName 27 = .ok (.istore_n 2, 1) := by decide +kernel
theorem dX6_isName_28 : decode cX6_isName 28 = .ok (.iload_n 2, 1) := by decide +kernel
theorem dX6_isName_29 : decode cX6_isName 29 = .ok (.aload_n 1, 1) := by decide +kernel
theorem dX6_isName_30 : decode cX6_isName 30 = .ok (.invokevirtual 99, 3) := by decide +kernel
theorem dX6_isName_33 : decode cX6_isName 33 = .ok (.if_icmp .ge 29, 3) := by decide +kernel
theorem dX6_isName_36 : decode cX6_isName 36 = .ok (.aload_n 0, 1) := by decide +kernel
theorem dX6_isName_37 : decode cX6_isName 37 = .ok (.aload_n 0, 1) := by decide +kernel
theorem dX6_isName_38 : decode cX6_isName 38 = .ok (.getfield 96, 3) := by decide +kernel
theorem dX6_isName_41 : decode cX6_isName 41 = .ok (.iload_n 2, 1) := by decide +kernel
theorem dX6_isName_42 : decode cX6_isName 42 = .ok (.iadd, 1) := by decide +kernel
theorem dX6_isName_43 : decode cX6_isName 43 = .ok (.invokevirtual 103, 3) := by decide +kernel
theorem dX6_isName_46 : decode cX6_isName 46 = .ok (.aload_n 1, 1) := by decide +kernel
theorem dX6_isName_47 : decode cX6_isName 47 = .ok (.iload_n 2, 1) := by decide +kernel
theorem dX6_isName_48 : decode cX6_isName 48 = .ok (.invokevirtual 107, 3) := by decide +kernel
theorem dX6_isName_51 : decode cX6_isName 51 = .ok (.if_icmp .eq 5, 3) := by decide +kernel
theorem dX6_isName_54 : decode cX6_isName 54 = .ok (.iconst 0, 1) := by decide +kernel
theorem dX6_isName_55 : decode cX6_isName 55 = .ok (.ireturn, 1) := by decide +kernel
theorem dX6_isName_56 : decode cX6_isName 56 = .ok (.iinc 2 1, 3) := by decide +kernel
theorem dX6_isName_59 : decode cX6_isName 59 = .ok (.goto (-31), 3) := by decide +kernel
theorem dX6_isName_62 : decode cX6_isName 62 = .ok (.iconst 1, 1) := by decide +kernel
theorem dX6_isName_63 : decode cX6_isName 63 = .ok (.ireturn, 1) := by decide +kernel
theorem dX6_step_0 : decode cX6_step 0 = .ok (.aload_n 0, 1) := by decide +kernel
theorem dX6_step_1 : decode cX6_step 1 = .ok (.getfield 19, 3) := by decide +kernel
theorem dX6_step_4 : decode cX6_step 4 = .ok (.aload_n 0, 1) := by decide +kernel
theorem dX6_step_5 : decode cX6_step 5 = .ok (.getfield 15, 3) := by decide +kernel
theorem dX6_step_8 : decode cX6_step 8 = .ok (.if_icmp .ge 42, 3) := by decide +kernel
theorem dX6_step_11 : decode cX6_step 11 = .ok (.aload_n 0, 1) := by decide +kernel
theorem dX6_step_12 : decode cX6_step 12 = .ok (.aload_n 0, 1) := by decide +kernel
theorem dX6_step_13 : decode cX6_step 13 = .ok (.getfield 19, 3) := by decide +kernel
theorem dX6_step_16 : decode cX6_step 16 = .ok (.invokevirtual 103, 3) := by decide +kernel
theorem dX6_step_19 : decode cX6_step 19 = .ok (.bipush 32, 2) := by decide +kernel
theorem dX6_step_21 : decode cX6_step 21 = .ok (.if_icmp .eq 16, 3) := by decide +kernel
theorem dX6_step_24 : decode cX6_step 24 = .ok (.aload_n 0, 1) := by decide +kernel
theorem dX6_step_25 : decode cX6_step 25 = .ok (.aload_n 0, 1) := by decide +kernel
theorem dX6_step_26 : decode cX6_step 26 = .ok (.getfield 19, 3) := by decide +kernel
theorem dX6_step_29 : decode cX6_step 29 = .ok (.invokevirtual 103, 3) := by decide +kernel
theorem dX6_step_32 : decode cX6_step 32 = .ok (.bipush 10, 2) := by decide +kernel
theorem dX6_step_34 : decode cX6_step 34 = .ok (.if_icmp .ne 16, 3) := by decide +kernel
theorem dX6_step_37 : decode cX6_step 37 = .ok (.aload_n 0, 1) := by decide +kernel
theorem dX6_step_38 : decode cX6_step 38 = .ok (.dup, 1) := by decide +kernel
theorem dX6_step_39 : decode cX6_step 39 = .ok (.getfield 19, 3) := by decide +kernel
theorem dX6_step_42 : decode cX6_step 42 = .ok (.iconst 1, 1) := by decide +kernel
theorem dX6_step_43 : decode cX6_step 43 = .ok (.iadd, 1) := by decide +kernel
theorem dX6_step_44 : decode cX6_step 44 = .ok (.putfield 19, 3) := by decide +kernel
theorem dX6_step_47 : decode cX6_step 47 = .ok (.goto (-47), 3) := by decide +kernel
theorem dX6_step_50 : decode cX6_step 50 = .ok (.aload_n 0, 1) := by decide +kernel
theorem dX6_step_51 : decode cX6_step 51 = .ok (.aload_n 0, 1) := by decide +kernel
theorem dX6_step_52 : decode cX6_step 52 = .ok (.getfield 19, 3) := by decide +kernel
theorem dX6_step_55 : decode cX6_step 55 = .ok (.putfield 96, 3) := by decide +kernel
theorem dX6_step_58 : decode cX6_step 58 = .ok (.aload_n 0, 1) := by decide +kernel
theorem dX6_step_59 : decode cX6_step 59 = .ok (.getfield 19, 3) := by decide +kernel
theorem dX6_step_62 : decode cX6_step 62 = .ok (.aload_n 0, 1) := by decide +kernel
theorem dX6_step_63 : decode cX6_step 63 = .ok (.getfield 15, 3) := by decide +kernel
theorem dX6_step_66 : decode cX6_step 66 = .ok (.if_icmp .lt 11, 3) := by decide +kernel
theorem dX6_step_69 : decode cX6_step 69 = .ok (.aload_n 0, 1) := by decide +kernel
theorem dX6_step_70 : decode cX6_step 70 = .ok (.iconst 0, 1) := by decide +kernel
theorem dX6_step_71 : decode cX6_step 71 = .ok (.putfield 47, 3) := by decide +kernel
theorem dX6_step_74 : decode cX6_step 74 = .ok (.goto 77, 3) := by decide +kernel
theorem dX6_step_77 : decode cX6_step 77 = .ok (.aload_n 0, 1) := by decide +kernel
theorem dX6_step_78 : decode cX6_step 78 = .ok (.aload_n 0, 1) := by decide +kernel
theorem dX6_step_79 : decode cX6_step 79 = .ok (.getfield 19, 3) := by decide +kernel
theorem dX6_step_82 : decode cX6_step 82 = .ok (.invokevirtual 103, 3) := by decide +kernel
theorem dX6_step_85 : decode cX6_step 85 = .ok (.invokestatic 111, 3) := by decide +kernel
theorem dX6_step_88 : decode cX6_step 88 = .ok (.ifCond .eq 10, 3) := by decide +kernel
theorem dX6_step_91 : decode cX6_step 91 = .ok (.aload_n 0, 1) := by decide +kernel
theorem dX6_step_92 : decode cX6_step 92 = .ok (.invokevirtual 114, 3) := by decide +kernel
theorem dX6_step_95 : decode cX6_step 95 = .ok (.goto 56, 3) := by decide +kernel
theorem dX6_step_98 : decode cX6_step 98 = .ok (.aload_n 0, 1) := by decide +kernel
theorem dX6_step_99 : decode cX6_step 99 = .ok (.aload_n 0, 1) := by decide +kernel
theorem dX6_step_100 : decode cX6_step 100 = .ok (.getfield 19, 3) := by decide +kernel
theorem dX6_step_103 : decode cX6_step 103 = .ok (.invokevirtual 103, 3) := by decide +kernel
theorem dX6_step_106 : decode cX6_step 106 = .ok (.invokestatic 117, 3) := by decide +kernel
theorem dX6_step_109 : decode cX6_step 109 = .ok (.ifCond .eq 10, 3) := by decide +kernel
theorem dX6_step_112 : decode cX6_step 112 = .ok (.aload_n 0, 1) := by decide +kernel
theorem dX6_step_113 : decode cX6_step 113 = .ok (.invokevirtual 120, 3) := by decide +kernel
theorem dX6_step_116 : decode cX6_step 116 = .ok (.goto 35, 3) := by decide +kernel
theorem dX6_step_119 : decode cX6_step 119 = .ok (.aload_n 0, 1) := by decide +kernel
theorem dX6_step_120 : decode cX6_step 120 = .ok (.aload_n 0, 1) := by decide +kernel
theorem dX6_step_121 : decode cX6_step 121 = .ok (.aload_n 0, 1) := by decide +kernel
theorem dX6_step_122 : decode cX6_step 122 = .ok (.getfield 19, 3) := by decide +kernel
theorem dX6_step_125 : decode cX6_step 125 = .ok (.invokevirtual 103, 3) := by decide +kernel
theorem dX6_step_128 : decode cX6_step 128 = .ok (.bipush 59, 2) := by decide +kernel
theorem dX6_step_130 : decode cX6_step 130 = .ok (.if_icmp .ne 7, 3) := by decide +kernel
theorem dX6_step_133 : decode cX6_step 133 = .ok (.iconst 3, 1) := by decide +kernel
theorem dX6_step_134 : decode cX6_step 134 = .ok (.goto 4, 3) := by decide +kernel
theorem dX6_step_137 : decode cX6_step 137 = .ok (.iconst 4, 1) := by decide +kernel
theorem dX6_step_138 : decode cX6_step 138 = .ok (.putfield 47, 3) := by decide +kernel
theorem dX6_step_141 : decode cX6_step 141 = .ok (.aload_n 0, 1) := by decide +kernel
theorem dX6_step_142 : decode cX6_step 142 = .ok (.dup, 1) := by decide +kernel
theorem dX6_step_143 : decode cX6_step 143 = .ok (.getfield 19, 3) := by decide +kernel
theorem dX6_step_146 : decode cX6_step 146 = .ok (.iconst 1, 1) := by decide +kernel
theorem dX6_step_147 : decode cX6_step 147 = .ok (.iadd, 1) := by decide +kernel
theorem dX6_step_148 : decode cX6_step 148 = .ok (.putfield 19, 3) := by decide +kernel
theorem dX6_step_151 : decode cX6_step 151 = .ok (.return_, 1) := by decide +kernel
theorem dX6_stepName_0 : decode cX6_stepName 0 = .ok (.aload_n 0, 1) := by decide +kernel
theorem dX6_stepName_1 : decode cX6_stepName 1 = .ok (.iconst 1, 1) := by decide +kernel
theorem dX6_stepName_2 : decode cX6_stepName 2 = .ok (.putfield 47, 3) := by decide +kernel
theorem dX6_stepName_5 : decode cX6_stepName 5 = .ok (.aload_n 0, 1) := by decide +kernel
theorem dX6_stepName_6 : decode cX6_stepName 6 = .ok (.getfield 19, 3) := by decide +kernel
theorem dX6_stepName_9 : decode cX6_stepName 9 = .ok (.aload_n 0, 1) := by decide +kernel
theorem dX6_stepName_10 : decode cX6_stepName 10 = .ok (.getfield 15, 3) := by decide +kernel
theorem dX6_stepName_13 : decode cX6_stepName 13 = .ok (.if_icmp .ge 30, 3) := by decide +kernel
theorem dX6_stepName_16 : decode cX6_stepName 16 = .ok (.aload_n 0, 1) := by decide +kernel
theorem dX6_stepName_17 : decode cX6_stepName 17 = .ok (.aload_n 0, 1) := by decide +kernel
theorem dX6_stepName_18 : decode cX6_stepName 18 = .ok (.getfield 19, 3) := by decide +kernel
theorem dX6_stepName_21 : decode cX6_stepName 21 = .ok (.invokevirtual 103, 3) := by decide +kernel
theorem dX6_stepName_24 : decode cX6_stepName 24 = .ok (.invokestatic 111, 3) := by decide +kernel
theorem dX6_stepName_27 : decode cX6_stepName 27 = .ok (.ifCond .eq 16, 3) := by decide +kernel
theorem dX6_stepName_30 : decode cX6_stepName 30 = .ok (.aload_n 0, 1) := by decide +kernel
theorem dX6_stepName_31 : decode cX6_stepName 31 = .ok (.dup, 1) := by decide +kernel
theorem dX6_stepName_32 : decode cX6_stepName 32 = .ok (.getfield 19, 3) := by decide +kernel
theorem dX6_stepName_35 : decode cX6_stepName 35 = .ok (.iconst 1, 1) := by decide +kernel
theorem dX6_stepName_36 : decode cX6_stepName 36 = .ok (.iadd, 1) := by decide +kernel
theorem dX6_stepName_37 : decode cX6_stepName 37 = .ok (.putfield 19, 3) := by decide +kernel
theorem dX6_stepName_40 : decode cX6_stepName 40 = .ok (.goto (-35), 3) := by decide +kernel
theorem dX6_stepName_43 : decode cX6_stepName 43 = .ok (.return_, 1) := by decide +kernel
theorem dX6_stepNumber_0 : decode cX6_stepNumber 0 = .ok (.aload_n 0, 1) := by decide +kernel
theorem dX6_stepNumber_1 : decode cX6_stepNumber 1 = .ok (.iconst 0, 1) := by decide +kernel
theorem dX6_stepNumber_2 : decode cX6_stepNumber 2 = .ok (.putfield 56, 3) := by decide +kernel
theorem dX6_stepNumber_5 : decode cX6_stepNumber 5 = .ok (.aload_n 0, 1) := by decide +kernel
theorem dX6_stepNumber_6 : decode cX6_stepNumber 6 = .ok (.getfield 19, 3) := by decide +kernel
theorem dX6_stepNumber_9 : decode cX6_stepNumber 9 = .ok (.aload_n 0, 1) := by decide +kernel
theorem dX6_stepNumber_10 : decode cX6_stepNumber 10 = .ok (.getfield 15, 3) := by decide +kernel
theorem dX6_stepNumber_13 : decode cX6_stepNumber 13 = .ok (.if_icmp .ge 53, 3) := by decide +kernel
theorem dX6_stepNumber_16 : decode cX6_stepNumber 16 = .ok (.aload_n 0, 1) := by decide +kernel
theorem dX6_stepNumber_17 : decode cX6_stepNumber 17 = .ok (.aload_n 0, 1) := by decide +kernel
theorem dX6_stepNumber_18 : decode cX6_stepNumber 18 = .ok (.getfield 19, 3) := by decide +kernel
theorem dX6_stepNumber_21 : decode cX6_stepNumber 21 = .ok (.invokevirtual 103, 3) := by decide +kernel
theorem dX6_stepNumber_24 : decode cX6_stepNumber 24 = .ok (.invokestatic 117, 3) := by decide +kernel
theorem dX6_stepNumber_27 : decode cX6_stepNumber 27 = .ok (.ifCond .eq 39, 3) := by decide +kernel
theorem dX6_stepNumber_30 : decode cX6_stepNumber 30 = .ok (.aload_n 0, 1) := by decide +kernel
theorem dX6_stepNumber_31 : decode cX6_stepNumber 31 = .ok (.aload_n 0, 1) := by decide +kernel
theorem dX6_stepNumber_32 : decode cX6_stepNumber 32 = .ok (.getfield 56, 3) := by decide +kernel
theorem dX6_stepNumber_35 : decode cX6_stepNumber 35 = .ok (.bipush 10, 2) := by decide +kernel
theorem dX6_stepNumber_37 : decode cX6_stepNumber 37 = .ok (.imul, 1) := by decide +kernel
theorem dX6_stepNumber_38 : decode cX6_stepNumber 38 = .ok (.aload_n 0, 1) := by decide +kernel
theorem dX6_stepNumber_39 : decode cX6_stepNumber 39 = .ok (.aload_n 0, 1) := by decide +kernel
theorem dX6_stepNumber_40 : decode cX6_stepNumber 40 = .ok (.getfield 19, 3) := by decide +kernel
theorem dX6_stepNumber_43 : decode cX6_stepNumber 43 = .ok (.invokevirtual 103, 3) := by decide +kernel
theorem dX6_stepNumber_46 : decode cX6_stepNumber 46 = .ok (.iadd, 1) := by decide +kernel
theorem dX6_stepNumber_47 : decode cX6_stepNumber 47 = .ok (.bipush 48, 2) := by decide +kernel
theorem dX6_stepNumber_49 : decode cX6_stepNumber 49 = .ok (.isub, 1) := by decide +kernel
theorem dX6_stepNumber_50 : decode cX6_stepNumber 50 = .ok (.putfield 56, 3) := by decide +kernel
theorem dX6_stepNumber_53 : decode cX6_stepNumber 53 = .ok (.aload_n 0, 1) := by decide +kernel
theorem dX6_stepNumber_54 : decode cX6_stepNumber 54 = .ok (.dup, 1) := by decide +kernel
theorem dX6_stepNumber_55 : decode cX6_stepNumber 55 = .ok (.getfield 19, 3) := by decide +kernel
theorem dX6_stepNumber_58 : decode cX6_stepNumber 58 = .ok (.iconst 1, 1) := by decide +kernel
theorem dX6_stepNumber_59 : decode cX6_stepNumber 59 = .ok (.iadd, 1) := by decide +kernel
theorem dX6_stepNumber_60 : decode cX6_stepNumber 60 = .ok (.putfield 19, 3) := by decide +kernel
theorem dX6_stepNumber_63 : decode cX6_stepNumber 63 = .ok (.goto (-58), 3) := by decide +kernel
theorem dX6_stepNumber_66 : decode cX6_stepNumber 66 = .ok (.aload_n 0, 1) := by decide +kernel
theorem dX6_stepNumber_67 : decode cX6_stepNumber 67 = .ok (.aload_n 0, 1) := by decide +kernel
theorem dX6_stepNumber_68 : decode cX6_stepNumber 68 = .ok (.getfield 19, 3) := by decide +kernel
theorem dX6_stepNumber_71 : decode cX6_stepNumber 71 = .ok (.aload_n 0, 1) := by decide +kernel
theorem dX6_stepNumber_72 : decode cX6_stepNumber 72 = .ok (.getfield 96, 3) := by decide +kernel
theorem dX6_stepNumber_75 : decode cX6_stepNumber 75 = .ok (.isub, 1) := by decide +kernel
theorem dX6_stepNumber_76 : decode cX6_stepNumber 76 = .ok (.iconst 3, 1) := by decide +kernel
theorem dX6_stepNumber_77 : decode cX6_stepNumber 77 = .ok (.if_icmp .gt 7, 3) := by decide +kernel
theorem dX6_stepNumber_80 : decode cX6_stepNumber 80 = .ok (.iconst 2, 1) := by decide +kernel
theorem dX6_stepNumber_81 : decode cX6_stepNumber 81 = .ok (.goto 4, 3) := by decide +kernel
theorem dX6_stepNumber_84 : decode cX6_stepNumber 84 = .ok (.iconst 4, 1) := by decide +kernel
theorem dX6_stepNumber_85 : decode cX6_stepNumber 85 = .ok (.putfield 47, 3) := by decide +kernel
theorem dX6_stepNumber_88 : decode cX6_stepNumber 88 = .ok (.return_, 1) := by decide +kernel
theorem dX6_byteAt_0 : decode cX6_byteAt 0 = .ok (.iload_n 1, 1) := by decide +kernel
theorem dX6_byteAt_1 : decode cX6_byteAt 1 = .ok (.ifCond .lt 29, 3) := by decide +kernel
theorem dX6_byteAt_4 : decode cX6_byteAt 4 = .ok (.iload_n 1, 1) := by decide +kernel
theorem dX6_byteAt_5 : decode cX6_byteAt 5 = .ok (.aload_n 0, 1) := by decide +kernel
theorem dX6_byteAt_6 : decode cX6_byteAt 6 = .ok (.getfield 15, 3) := by decide +kernel
theorem dX6_byteAt_9 : decode cX6_byteAt 9 = .ok (.if_icmp .ge 21, 3) := by decide +kernel
theorem dX6_byteAt_12 : decode cX6_byteAt 12 = .ok (.iload_n 1, 1) := by decide +kernel
theorem dX6_byteAt_13 : decode cX6_byteAt 13 = .ok (.aload_n 0, 1) := by decide +kernel
theorem dX6_byteAt_14 : decode cX6_byteAt 14 = .ok (.getfield 11, 3) := by decide +kernel
theorem dX6_byteAt_17 : decode cX6_byteAt 17 = .ok (.arraylength, 1) := by decide +kernel
theorem dX6_byteAt_18 : decode cX6_byteAt 18 = .ok (.if_icmp .ge 12, 3) := by decide +kernel
theorem dX6_byteAt_21 : decode cX6_byteAt 21 = .ok (.aload_n 0, 1) := by decide +kernel
theorem dX6_byteAt_22 : decode cX6_byteAt 22 = .ok (.getfield 11, 3) := by decide +kernel
theorem dX6_byteAt_25 : decode cX6_byteAt 25 = .ok (.iload_n 1, 1) := by decide +kernel
theorem dX6_byteAt_26 : decode cX6_byteAt 26 = .ok (.iaload, 1) := by decide +kernel
theorem dX6_byteAt_27 : decode cX6_byteAt 27 = .ok (.goto 4, 3) := by decide +kernel
theorem dX6_byteAt_30 : decode cX6_byteAt 30 = .ok (.iconst 0, 1) := by decide +kernel
theorem dX6_byteAt_31 : decode cX6_byteAt 31 = .ok (.ireturn, 1) := by decide +kernel
theorem dX6_isLetter_0 : decode cX6_isLetter 0 = .ok (.iload_n 0, 1) := by decide +kernel
theorem dX6_isLetter_1 : decode cX6_isLetter 1 = .ok (.bipush 97, 2) := by decide +kernel
theorem dX6_isLetter_3 : decode cX6_isLetter 3 = .ok (.if_icmp .lt 13, 3) := by decide +kernel
theorem dX6_isLetter_6 : decode cX6_isLetter 6 = .ok (.iload_n 0, 1) := by decide +kernel
theorem dX6_isLetter_7 : decode cX6_isLetter 7 = .ok (.bipush 122, 2) := by decide +kernel
theorem dX6_isLetter_9 : decode cX6_isLetter 9 = .ok (.if_icmp .gt 7, 3) := by decide +kernel
theorem dX6_isLetter_12 : decode cX6_isLetter 12 = .ok (.iconst 1, 1) := by decide +kernel
theorem dX6_isLetter_13 : decode cX6_isLetter 13 = .ok (.goto 4, 3) := by decide +kernel
theorem dX6_isLetter_16 : decode cX6_isLetter 16 = .ok (.iconst 0, 1) := by decide +kernel
theorem dX6_isLetter_17 : decode cX6_isLetter 17 = .ok (.ireturn, 1) := by decide +kernel
theorem dX6_isFigure_0 : decode cX6_isFigure 0 = .ok (.iload_n 0, 1) := by decide +kernel
theorem dX6_isFigure_1 : decode cX6_isFigure 1 = .ok (.bipush 48, 2) := by decide +kernel
theorem dX6_isFigure_3 : decode cX6_isFigure 3 = .ok (.if_icmp .lt 13, 3) := by decide +kernel
theorem dX6_isFigure_6 : decode cX6_isFigure 6 = .ok (.iload_n 0, 1) := by decide +kernel
theorem dX6_isFigure_7 : decode cX6_isFigure 7 = .ok (.bipush 57, 2) := by decide +kernel
theorem dX6_isFigure_9 : decode cX6_isFigure 9 = .ok (.if_icmp .gt 7, 3) := by decide +kernel
theorem dX6_isFigure_12 : decode cX6_isFigure 12 = .ok (.iconst 1, 1) := by decide +kernel
theorem dX6_isFigure_13 : decode cX6_isFigure 13 = .ok (.goto 4, 3) := by decide +kernel
theorem dX6_isFigure_16 : decode cX6_isFigure 16 = .ok (.iconst 0, 1) := by decide +kernel
theorem dX6_isFigure_17 : decode cX6_isFigure 17 = .ok (.ireturn, 1) := by decide +kernel
theorem dJ6_bitCount_0f7a4_0 : decode cJ6_bitCount_0f7a4 0 = .ok (.iload_n 0, 1) := by decide +kernel
theorem dJ6_bitCount_0f7a4_1 : decode cJ6_bitCount_0f7a4 1 = .ok (.iload_n 0, 1) := by decide +kernel
theorem dJ6_bitCount_0f7a4_2 : decode cJ6_bitCount_0f7a4 2 = .ok (.iconst 1, 1) := by decide +kernel
theorem dJ6_bitCount_0f7a4_3 : decode cJ6_bitCount_0f7a4 3 = .ok (.iushr, 1) := by decide +kernel
theorem dJ6_bitCount_0f7a4_4 : decode cJ6_bitCount_0f7a4 4 = .ok (.ldc_w 265, 3) := by decide +kernel
theorem dJ6_bitCount_0f7a4_7 : decode cJ6_bitCount_0f7a4 7 = .ok (.iand, 1) := by decide +kernel
theorem dJ6_bitCount_0f7a4_8 : decode cJ6_bitCount_0f7a4 8 = .ok (.isub, 1) := by decide +kernel
theorem dJ6_bitCount_0f7a4_9 : decode cJ6_bitCount_0f7a4 9 = .ok (.istore_n 0, 1) := by decide +kernel
theorem dJ6_bitCount_0f7a4_10 : decode cJ6_bitCount_0f7a4 10 = .ok (.iload_n 0, 1) := by decide +kernel
theorem dJ6_bitCount_0f7a4_11 : decode cJ6_bitCount_0f7a4 11 = .ok (.ldc_w 266, 3) := by decide +kernel
theorem dJ6_bitCount_0f7a4_14 : decode cJ6_bitCount_0f7a4 14 = .ok (.iand, 1) := by decide +kernel
theorem dJ6_bitCount_0f7a4_15 : decode cJ6_bitCount_0f7a4 15 = .ok (.iload_n 0, 1) := by decide +kernel
theorem dJ6_bitCount_0f7a4_16 : decode cJ6_bitCount_0f7a4 16 = .ok (.iconst 2, 1) := by decide +kernel
theorem dJ6_bitCount_0f7a4_17 : decode cJ6_bitCount_0f7a4 17 = .ok (.iushr, 1) := by decide +kernel
theorem dJ6_bitCount_0f7a4_18 : decode cJ6_bitCount_0f7a4 18 = .ok (.ldc_w 266, 3) := by decide +kernel
theorem dJ6_bitCount_0f7a4_21 : decode cJ6_bitCount_0f7a4 21 = .ok (.iand, 1) := by decide +kernel
theorem dJ6_bitCount_0f7a4_22 : decode cJ6_bitCount_0f7a4 22 = .ok (.iadd, 1) := by decide +kernel
theorem dJ6_bitCount_0f7a4_23 : decode cJ6_bitCount_0f7a4 23 = .ok (.istore_n 0, 1) := by decide +kernel
theorem dJ6_bitCount_0f7a4_24 : decode cJ6_bitCount_0f7a4 24 = .ok (.iload_n 0, 1) := by decide +kernel
theorem dJ6_bitCount_0f7a4_25 : decode cJ6_bitCount_0f7a4 25 = .ok (.iload_n 0, 1) := by decide +kernel
theorem dJ6_bitCount_0f7a4_26 : decode cJ6_bitCount_0f7a4 26 = .ok (.iconst 4, 1) := by decide +kernel
theorem dJ6_bitCount_0f7a4_27 : decode cJ6_bitCount_0f7a4 27 = .ok (.iushr, 1) := by decide +kernel
theorem dJ6_bitCount_0f7a4_28 : decode cJ6_bitCount_0f7a4 28 = .ok (.iadd, 1) := by decide +kernel
theorem dJ6_bitCount_0f7a4_29 : decode cJ6_bitCount_0f7a4 29 = .ok (.ldc_w 267, 3) := by decide +kernel
theorem dJ6_bitCount_0f7a4_32 : decode cJ6_bitCount_0f7a4 32 = .ok (.iand, 1) := by decide +kernel
theorem dJ6_bitCount_0f7a4_33 : decode cJ6_bitCount_0f7a4 33 = .ok (.istore_n 0, 1) := by decide +kernel
theorem dJ6_bitCount_0f7a4_34 : decode cJ6_bitCount_0f7a4 34 = .ok (.iload_n 0, 1) := by decide +kernel
theorem dJ6_bitCount_0f7a4_35 : decode cJ6_bitCount_0f7a4 35 = .ok (.iload_n 0, 1) := by decide +kernel
theorem dJ6_bitCount_0f7a4_36 : decode cJ6_bitCount_0f7a4 36 = .ok (.bipush 8, 2) := by decide +kernel
theorem dJ6_bitCount_0f7a4_38 : decode cJ6_bitCount_0f7a4 38 = .ok (.iushr, 1) := by decide +kernel
theorem dJ6_bitCount_0f7a4_39 : decode cJ6_bitCount_0f7a4 39 = .ok (.iadd, 1) := by decide +kernel
theorem dJ6_bitCount_0f7a4_40 : decode cJ6_bitCount_0f7a4 40 = .ok (.istore_n 0, 1) := by decide +kernel
theorem dJ6_bitCount_0f7a4_41 : decode cJ6_bitCount_0f7a4 41 = .ok (.iload_n 0, 1) := by decide +kernel
theorem dJ6_bitCount_0f7a4_42 : decode cJ6_bitCount_0f7a4 42 = .ok (.iload_n 0, 1) := by decide +kernel
theorem dJ6_bitCount_0f7a4_43 : decode cJ6_bitCount_0f7a4 43 = .ok (.bipush 16, 2) := by decide +kernel
theorem dJ6_bitCount_0f7a4_45 : decode cJ6_bitCount_0f7a4 45 = .ok (.iushr, 1) := by decide +kernel
theorem dJ6_bitCount_0f7a4_46 : decode cJ6_bitCount_0f7a4 46 = .ok (.iadd, 1) := by decide +kernel
theorem dJ6_bitCount_0f7a4_47 : decode cJ6_bitCount_0f7a4 47 = .ok (.istore_n 0, 1) := by decide +kernel
theorem dJ6_bitCount_0f7a4_48 : decode cJ6_bitCount_0f7a4 48 = .ok (.iload_n 0, 1) := by decide +kernel
theorem dJ6_bitCount_0f7a4_49 : decode cJ6_bitCount_0f7a4 49 = .ok (.bipush 63, 2) := by decide +kernel
theorem dJ6_bitCount_0f7a4_51 : decode cJ6_bitCount_0f7a4 51 = .ok (.iand, 1) := by decide +kernel
theorem dJ6_bitCount_0f7a4_52 : decode cJ6_bitCount_0f7a4 52 = .ok (.ireturn, 1) := by decide +kernel
theorem dJ9_abs_0f7a4_0 : decode cJ9_abs_0f7a4 0 = .ok (.iload_n 0, 1) := by decide +kernel
theorem dJ9_abs_0f7a4_1 : decode cJ9_abs_0f7a4 1 = .ok (.ifCond .ge 8, 3) := by decide +kernel
theorem dJ9_abs_0f7a4_4 : decode cJ9_abs_0f7a4 4 = .ok (.iload_n 0, 1) := by decide +kernel
theorem dJ9_abs_0f7a4_5 : decode cJ9_abs_0f7a4 5 = .ok (.ineg, 1) := by decide +kernel
theorem dJ9_abs_0f7a4_6 : decode cJ9_abs_0f7a4 6 = .ok (.goto 4, 3) := by decide +kernel
theorem dJ9_abs_0f7a4_9 : decode cJ9_abs_0f7a4 9 = .ok (.iload_n 0, 1) := by decide +kernel
theorem dJ9_abs_0f7a4_10 : decode cJ9_abs_0f7a4 10 = .ok (.ireturn, 1) := by decide +kernel
theorem dJ9_max_7cf53_0 : decode cJ9_max_7cf53 0 = .ok (.iload_n 0, 1) := by decide +kernel
theorem dJ9_max_7cf53_1 : decode cJ9_max_7cf53 1 = .ok (.iload_n 1, 1) := by decide +kernel
theorem dJ9_max_7cf53_2 : decode cJ9_max_7cf53 2 = .ok (.if_icmp .lt 7, 3) := by decide +kernel
theorem dJ9_max_7cf53_5 : decode cJ9_max_7cf53 5 = .ok (.iload_n 0, 1) := by decide +kernel
theorem dJ9_max_7cf53_6 : decode cJ9_max_7cf53 6 = .ok (.goto 4, 3) := by decide +kernel
theorem dJ9_max_7cf53_9 : decode cJ9_max_7cf53 9 = .ok (.iload_n 1, 1) := by decide +kernel
theorem dJ9_max_7cf53_10 : decode cJ9_max_7cf53 10 = .ok (.ireturn, 1) := by decide +kernel
theorem dJ9_min_7cf53_0 : decode cJ9_min_7cf53 0 = .ok (.iload_n 0, 1) := by decide +kernel
theorem dJ9_min_7cf53_1 : decode cJ9_min_7cf53 1 = .ok (.iload_n 1, 1) := by decide +kernel
theorem dJ9_min_7cf53_2 : decode cJ9_min_7cf53 2 = .ok (.if_icmp .gt 7, 3) := by decide +kernel
theorem dJ9_min_7cf53_5 : decode cJ9_min_7cf53 5 = .ok (.iload_n 0, 1) := by decide +kernel
theorem dJ9_min_7cf53_6 : decode cJ9_min_7cf53 6 = .ok (.goto 4, 3) := by decide +kernel
theorem dJ9_min_7cf53_9 : decode cJ9_min_7cf53 9 = .ok (.iload_n 1, 1) := by decide +kernel
theorem dJ9_min_7cf53_10 : decode cJ9_min_7cf53 10 = .ok (.ireturn, 1) := by decide +kernel
theorem dJ0_length_8abf5_0 : decode cJ0_length_8abf5 0 = .ok (.aload_n 0, 1) := by decide +kernel
theorem dJ0_length_8abf5_1 : decode cJ0_length_8abf5 1 = .ok (.getfield 9, 3) := by decide +kernel
theorem dJ0_length_8abf5_4 : decode cJ0_length_8abf5 4 = .ok (.arraylength, 1) := by decide +kernel
theorem dJ0_length_8abf5_5 : decode cJ0_length_8abf5 5 = .ok (.aload_n 0, 1) := by decide +kernel
theorem dJ0_length_8abf5_6 : decode cJ0_length_8abf5 6 = .ok (.invokevirtual 335, 3) := by decide +kernel
theorem dJ0_length_8abf5_9 : decode cJ0_length_8abf5 9 = .ok (.ishr, 1) := by decide +kernel
theorem dJ0_length_8abf5_10 : decode cJ0_length_8abf5 10 = .ok (.ireturn, 1) := by decide +kernel
theorem dJ0_charAt_5068e_0 : decode cJ0_charAt_5068e 0 = .ok (.aload_n 0, 1) := by decide +kernel
theorem dJ0_charAt_5068e_1 : decode cJ0_charAt_5068e 1 = .ok (.invokevirtual 492, 3) := by decide +kernel
theorem dJ0_charAt_5068e_4 : decode cJ0_charAt_5068e 4 = .ok (.ifCond .eq 12, 3) := by decide +kernel
theorem dJ0_charAt_5068e_7 : decode cJ0_charAt_5068e 7 = .ok (.aload_n 0, 1) := by decide +kernel
theorem dJ0_charAt_5068e_8 : decode cJ0_charAt_5068e 8 = .ok (.getfield 9, 3) := by decide +kernel
theorem dJ0_charAt_5068e_11 : decode cJ0_charAt_5068e 11 = .ok (.iload_n 1, 1) := by decide +kernel
theorem dJ0_charAt_5068e_12 : decode cJ0_charAt_5068e 12 = .ok (.invokestatic 495, 3) := by decide +kernel
theorem dJ0_charAt_5068e_15 : decode cJ0_charAt_5068e 15 = .ok (.ireturn, 1) := by decide +kernel
theorem dJ0_charAt_5068e_16 : decode cJ0_charAt_5068e 16 = .ok (.aload_n 0, 1) := by decide +kernel
theorem dJ0_charAt_5068e_17 : decode cJ0_charAt_5068e 17 = .ok (.getfield 9, 3) := by decide +kernel
theorem dJ0_charAt_5068e_20 : decode cJ0_charAt_5068e 20 = .ok (.iload_n 1, 1) := by decide +kernel
theorem dJ0_charAt_5068e_21 : decode cJ0_charAt_5068e 21 = .ok (.invokestatic 498, 3) := by decide +kernel
theorem dJ0_charAt_5068e_24 : decode cJ0_charAt_5068e 24 = .ok (.ireturn, 1) := by decide +kernel
theorem dJ0_coder_7d493_0 : decode cJ0_coder_7d493 0 = .ok (.getstatic 38, 3) := by decide +kernel
theorem dJ0_coder_7d493_3 : decode cJ0_coder_7d493 3 = .ok (.ifCond .eq 10, 3) := by decide +kernel
theorem dJ0_coder_7d493_6 : decode cJ0_coder_7d493 6 = .ok (.aload_n 0, 1) := by decide +kernel
theorem dJ0_coder_7d493_7 : decode cJ0_coder_7d493 7 = .ok (.getfield 15, 3) := by decide +kernel
theorem dJ0_coder_7d493_10 : decode cJ0_coder_7d493 10 = .ok (.goto 4, 3) := by decide +kernel
theorem dJ0_coder_7d493_13 : decode cJ0_coder_7d493 13 = .ok (.iconst 1, 1) := by decide +kernel
theorem dJ0_coder_7d493_14 : decode cJ0_coder_7d493 14 = .ok (.ireturn, 1) := by decide +kernel
theorem dJ0_isLatin1_aae02_0 : decode cJ0_isLatin1_aae02 0 = .ok (.getstatic 38, 3) := by decide +kernel
theorem dJ0_isLatin1_aae02_3 : decode cJ0_isLatin1_aae02 3 = .ok (.ifCond .eq 14, 3) := by decide +kernel
theorem dJ0_isLatin1_aae02_6 : decode cJ0_isLatin1_aae02 6 = .ok (.aload_n 0, 1) := by decide +kernel
theorem dJ0_isLatin1_aae02_7 : decode cJ0_isLatin1_aae02 7 = .ok (.getfield 15, 3) := by decide +kernel
theorem dJ0_isLatin1_aae02_10 : decode cJ0_isLatin1_aae02 10 = .ok (.ifCond .ne 7, 3) := by decide +kernel
theorem dJ0_isLatin1_aae02_13 : decode cJ0_isLatin1_aae02 13 = .ok (.iconst 1, 1) := by decide +kernel
theorem dJ0_isLatin1_aae02_14 : decode cJ0_isLatin1_aae02 14 = .ok (.goto 4, 3) := by decide +kernel
theorem dJ0_isLatin1_aae02_17 : decode cJ0_isLatin1_aae02 17 = .ok (.iconst 0, 1) := by decide +kernel
theorem dJ0_isLatin1_aae02_18 : decode cJ0_isLatin1_aae02 18 = .ok (.ireturn, 1) := by decide +kernel
theorem dJ0_checkIndex_df160_0 : decode cJ0_checkIndex_df160 0 = .ok (.iload_n 0, 1) := by decide +kernel
theorem dJ0_checkIndex_df160_1 : decode cJ0_checkIndex_df160 1 = .ok (.iload_n 1, 1) := by decide +kernel
theorem dJ0_checkIndex_df160_2 : decode cJ0_checkIndex_df160 2 = .ok (.getstatic 1053, 3) := by decide +kernel
theorem dJ0_checkIndex_df160_5 : decode cJ0_checkIndex_df160 5 = .ok (.invokestatic 1059, 3) := by decide +kernel
theorem dJ0_checkIndex_df160_8 : decode cJ0_checkIndex_df160 8 = .ok (.pop, 1) := by decide +kernel
theorem dJ0_checkIndex_df160_9 : decode cJ0_checkIndex_df160 9 = .ok (.return_, 1) := by decide +kernel
theorem dJ1_charAt_3b067_0 : decode cJ1_charAt_3b067 0 = .ok (.iload_n 1, 1) := by decide +kernel
theorem dJ1_charAt_3b067_1 : decode cJ1_charAt_3b067 1 = .ok (.aload_n 0, 1) := by decide +kernel
theorem dJ1_charAt_3b067_2 : decode cJ1_charAt_3b067 2 = .ok (.arraylength, 1) := by decide +kernel
theorem dJ1_charAt_3b067_3 : decode cJ1_charAt_3b067 3 = .ok (.invokestatic 9, 3) := by decide +kernel
theorem dJ1_charAt_3b067_6 : decode cJ1_charAt_3b067 6 = .ok (.aload_n 0, 1) := by decide +kernel
theorem dJ1_charAt_3b067_7 : decode cJ1_charAt_3b067 7 = .ok (.iload_n 1, 1) := by decide +kernel
theorem dJ1_charAt_3b067_8 : decode cJ1_charAt_3b067 8 = .ok (.baload, 1) := by decide +kernel
theorem dJ1_charAt_3b067_9 : decode cJ1_charAt_3b067 9 = .ok (.sipush 255, 3) := by decide +kernel
theorem dJ1_charAt_3b067_12 : decode cJ1_charAt_3b067 12 = .ok (.iand, 1) := by decide +kernel
theorem dJ1_charAt_3b067_13 : decode cJ1_charAt_3b067 13 = .ok (.i2c, 1) := by decide +kernel
theorem dJ1_charAt_3b067_14 : decode cJ1_charAt_3b067 14 = .ok (.ireturn, 1) := by decide +kernel
theorem dJ2_getChar_3b067_0 : decode cJ2_getChar_3b067 0 = .ok (.getstatic 44, 3) := by decide +kernel
theorem dJ2_getChar_3b067_3 : decode cJ2_getChar_3b067 3 = .ok (.ifCond .ne 25, 3) := by decide +kernel
theorem dJ2_getChar_3b067_6 : decode cJ2_getChar_3b067 6 = .ok (.iload_n 1, 1) := by decide +kernel
theorem dJ2_getChar_3b067_7 : decode cJ2_getChar_3b067 7 = .ok (.ifCond .lt 11, 3) := by decide +kernel
theorem dJ2_getChar_3b067_10 : decode cJ2_getChar_3b067 10 = .ok (.iload_n 1, 1) := by decide +kernel
theorem dJ2_getChar_3b067_11 : decode cJ2_getChar_3b067 11 = .ok (.aload_n 0, 1) := by decide +kernel
theorem dJ2_getChar_3b067_12 : decode cJ2_getChar_3b067 12 = .ok (.invokestatic 48, 3) := by decide +kernel
theorem dJ2_getChar_3b067_15 : decode cJ2_getChar_3b067 15 = .ok (.if_icmp .lt 13, 3) := by decide +kernel
theorem dJ2_getChar_3b067_18 : decode cJ2_getChar_3b067 18 = .ok (.new 52, 3) := by decide +kernel
theorem dJ2_getChar_3b067_21 : decode cJ2_getChar_3b067 21 = .ok (.dup, 1) := by decide +kernel
theorem dJ2_getChar_3b067_22 : decode cJ2_getChar_3b067 22 = .ok (.ldc 54, 2) := by decide +kernel
theorem dJ2_getChar_3b067_24 : decode cJ2_getChar_3b067 24 = .ok (.invokespecial 56, 3) := by decide +kernel
theorem dJ2_getChar_3b067_27 : decode cJ2_getChar_3b067 27 = .ok (.athrow, 1) := by decide +kernel
theorem dJ2_getChar_3b067_28 : decode cJ2_getChar_3b067 28 = .ok (.iload_n 1, 1) := by decide +kernel
theorem dJ2_getChar_3b067_29 : decode cJ2_getChar_3b067 29 = .ok (.iconst 1, 1) := by decide +kernel
theorem dJ2_getChar_3b067_30 : decode cJ2_getChar_3b067 30 = .ok (.ishl, 1) := by decide +kernel
theorem dJ2_getChar_3b067_31 : decode cJ2_getChar_3b067 31 = .ok (.istore_n 1, 1) := by decide +kernel
theorem dJ2_getChar_3b067_32 : decode cJ2_getChar_3b067 32 = .ok (.aload_n 0, 1) := by decide +kernel
theorem dJ2_getChar_3b067_33 : decode cJ2_getChar_3b067 33 = .ok (.iload_n 1, 1) := by decide +kernel
theorem dJ2_getChar_3b067_34 : decode cJ2_getChar_3b067 34 = .ok (.iinc 1 1, 3) := by decide +kernel
theorem dJ2_getChar_3b067_37 : decode cJ2_getChar_3b067 37 = .ok (.baload, 1) := by decide +kernel
theorem dJ2_getChar_3b067_38 : decode cJ2_getChar_3b067 38 = .ok (.sipush 255, 3) := by decide +kernel
theorem dJ2_getChar_3b067_41 : decode cJ2_getChar_3b067 41 = .ok (.iand, 1) := by decide +kernel
theorem dJ2_getChar_3b067_42 : decode cJ2_getChar_3b067 42 = .ok (.getstatic 59, 3) := by decide +kernel
theorem dJ2_getChar_3b067_45 : decode cJ2_getChar_3b067 45 = .ok (.ishl, 1) := by decide +kernel
theorem dJ2_getChar_3b067_46 : decode cJ2_getChar_3b067 46 = .ok (.aload_n 0, 1) := by decide +kernel
theorem dJ2_getChar_3b067_47 : decode cJ2_getChar_3b067 47 = .ok (.iload_n 1, 1) := by decide +kernel
theorem dJ2_getChar_3b067_48 : decode cJ2_getChar_3b067 48 = .ok (.baload, 1) := by decide +kernel
theorem dJ2_getChar_3b067_49 : decode cJ2_getChar_3b067 49 = .ok (.sipush 255, 3) := by decide +kernel
theorem dJ2_getChar_3b067_52 : decode cJ2_getChar_3b067 52 = .ok (.iand, 1) := by decide +kernel
theorem dJ2_getChar_3b067_53 : decode cJ2_getChar_3b067 53 = .ok (.getstatic 63, 3) := by decide +kernel
theorem dJ2_getChar_3b067_56 : decode cJ2_getChar_3b067 56 = .ok (.ishl, 1) := by decide +kernel
theorem dJ2_getChar_3b067_57 : decode cJ2_getChar_3b067 57 = .ok (.ior, 1) := by decide +kernel
theorem dJ2_getChar_3b067_58 : decode cJ2_getChar_3b067 58 = .ok (.i2c, 1) := by decide +kernel
theorem dJ2_getChar_3b067_59 : decode cJ2_getChar_3b067 59 = .ok (.ireturn, 1) := by decide +kernel
theorem dJ2_length_9d52b_0 : decode cJ2_length_9d52b 0 = .ok (.aload_n 0, 1) := by decide +kernel
theorem dJ2_length_9d52b_1 : decode cJ2_length_9d52b 1 = .ok (.arraylength, 1) := by decide +kernel
theorem dJ2_length_9d52b_2 : decode cJ2_length_9d52b 2 = .ok (.iconst 1, 1) := by decide +kernel
theorem dJ2_length_9d52b_3 : decode cJ2_length_9d52b 3 = .ok (.ishr, 1) := by decide +kernel
theorem dJ2_length_9d52b_4 : decode cJ2_length_9d52b 4 = .ok (.ireturn, 1) := by decide +kernel
theorem dJ2_charAt_3b067_0 : decode cJ2_charAt_3b067 0 = .ok (.iload_n 1, 1) := by decide +kernel
theorem dJ2_charAt_3b067_1 : decode cJ2_charAt_3b067 1 = .ok (.aload_n 0, 1) := by decide +kernel
theorem dJ2_charAt_3b067_2 : decode cJ2_charAt_3b067 2 = .ok (.invokestatic 67, 3) := by decide +kernel
theorem dJ2_charAt_3b067_5 : decode cJ2_charAt_3b067 5 = .ok (.aload_n 0, 1) := by decide +kernel
theorem dJ2_charAt_3b067_6 : decode cJ2_charAt_3b067 6 = .ok (.iload_n 1, 1) := by decide +kernel
theorem dJ2_charAt_3b067_7 : decode cJ2_charAt_3b067 7 = .ok (.invokestatic 71, 3) := by decide +kernel
theorem dJ2_charAt_3b067_10 : decode cJ2_charAt_3b067 10 = .ok (.ireturn, 1) := by decide +kernel
theorem dJ2_checkIndex_2214a_0 : decode cJ2_checkIndex_2214a 0 = .ok (.iload_n 0, 1) := by decide +kernel
theorem dJ2_checkIndex_2214a_1 : decode cJ2_checkIndex_2214a 1 = .ok (.aload_n 1, 1) := by decide +kernel
theorem dJ2_checkIndex_2214a_2 : decode cJ2_checkIndex_2214a 2 = .ok (.invokestatic 48, 3) := by decide +kernel
theorem dJ2_checkIndex_2214a_5 : decode cJ2_checkIndex_2214a 5 = .ok (.invokestatic 414, 3) := by decide +kernel
theorem dJ2_checkIndex_2214a_8 : decode cJ2_checkIndex_2214a 8 = .ok (.return_, 1) := by decide +kernel
theorem dJ7_fill_53178_0 : decode cJ7_fill_53178 0 = .ok (.iconst 0, 1) := by decide +kernel
theorem dJ7_fill_53178_1 : decode cJ7_fill_53178 1 = .ok (.istore_n 2, 1) := by decide +kernel
theorem dJ7_fill_53178_2 : decode cJ7_fill_53178 2 = .ok (.aload_n 0, 1) := by decide +kernel
theorem dJ7_fill_53178_3 : decode cJ7_fill_53178 3 = .ok (.arraylength, 1) := by decide +kernel
theorem dJ7_fill_53178_4 : decode cJ7_fill_53178 4 = .ok (.istore_n 3, 1) := by decide +kernel
theorem dJ7_fill_53178_5 : decode cJ7_fill_53178 5 = .ok (.iload_n 2, 1) := by decide +kernel
theorem dJ7_fill_53178_6 : decode cJ7_fill_53178 6 = .ok (.iload_n 3, 1) := by decide +kernel
theorem dJ7_fill_53178_7 : decode cJ7_fill_53178 7 = .ok (.if_icmp .ge 13, 3) := by decide +kernel
theorem dJ7_fill_53178_10 : decode cJ7_fill_53178 10 = .ok (.aload_n 0, 1) := by decide +kernel
theorem dJ7_fill_53178_11 : decode cJ7_fill_53178 11 = .ok (.iload_n 2, 1) := by decide +kernel
theorem dJ7_fill_53178_12 : decode cJ7_fill_53178 12 = .ok (.iload_n 1, 1) := by decide +kernel
theorem dJ7_fill_53178_13 : decode cJ7_fill_53178 13 = .ok (.iastore, 1) := by decide +kernel
theorem dJ7_fill_53178_14 : decode cJ7_fill_53178 14 = .ok (.iinc 2 1, 3) := by decide +kernel
theorem dJ7_fill_53178_17 : decode cJ7_fill_53178 17 = .ok (.goto (-12), 3) := by decide +kernel
theorem dJ7_fill_53178_20 : decode cJ7_fill_53178 20 = .ok (.return_, 1) := by decide +kernel
theorem dJ3_checkIndex_8e157_0 : decode cJ3_checkIndex_8e157 0 = .ok (.iload_n 0, 1) := by decide +kernel
theorem dJ3_checkIndex_8e157_1 : decode cJ3_checkIndex_8e157 1 = .ok (.ifCond .lt 8, 3) := by decide +kernel
theorem dJ3_checkIndex_8e157_4 : decode cJ3_checkIndex_8e157 4 = .ok (.iload_n 0, 1) := by decide +kernel
theorem dJ3_checkIndex_8e157_5 : decode cJ3_checkIndex_8e157 5 = .ok (.iload_n 1, 1) := by decide +kernel
theorem dJ3_checkIndex_8e157_6 : decode cJ3_checkIndex_8e157 6 = .ok (.if_icmp .lt 10, 3) := by decide +kernel
theorem dJ3_checkIndex_8e157_9 : decode cJ3_checkIndex_8e157 9 = .ok (.aload_n 2, 1) := by decide +kernel
theorem dJ3_checkIndex_8e157_10 : decode cJ3_checkIndex_8e157 10 = .ok (.iload_n 0, 1) := by decide +kernel
theorem dJ3_checkIndex_8e157_11 : decode cJ3_checkIndex_8e157 11 = .ok (.iload_n 1, 1) := by decide +kernel
theorem dJ3_checkIndex_8e157_12 : decode cJ3_checkIndex_8e157 12 = .ok (.invokestatic 95, 3) := by decide +kernel
theorem dJ3_checkIndex_8e157_15 : decode cJ3_checkIndex_8e157 15 = .ok (.athrow, 1) := by decide +kernel
theorem dJ3_checkIndex_8e157_16 : decode cJ3_checkIndex_8e157 16 = .ok (.iload_n 0, 1) := by decide +kernel
theorem dJ3_checkIndex_8e157_17 : decode cJ3_checkIndex_8e157 17 = .ok (.ireturn, 1) := by decide +kernel
theorem dX7_init_0 : decode cX7_init 0 = .ok (.aload_n 0, 1) := by decide +kernel
theorem dX7_init_1 : decode cX7_init 1 = .ok (.invokespecial 1, 3) := by decide +kernel
theorem dX7_init_4 : decode cX7_init 4 = .ok (.aload_n 0, 1) := by decide +kernel
theorem dX7_init_5 : decode cX7_init 5 = .ok (.bipush 8, 2) := by decide +kernel
theorem dX7_init_7 : decode cX7_init 7 = .ok (.anewarray 9, 3) := by decide +kernel
theorem dX7_init_10 : decode cX7_init 10 = .ok (.putfield 11, 3) := by decide +kernel
theorem dX7_init_13 : decode cX7_init 13 = .ok (.aload_n 0, 1) := by decide +kernel
theorem dX7_init_14 : decode cX7_init 14 = .ok (.new 15, 3) := by decide +kernel
theorem dX7_init_17 : decode cX7_init 17 = .ok (.dup, 1) := by decide +kernel
theorem dX7_init_18 : decode cX7_init 18 = .ok (.invokespecial 17, 3) := by decide +kernel
theorem dX7_init_21 : decode cX7_init 21 = .ok (.putfield 18, 3) := by decide +kernel
theorem dX7_init_24 : decode cX7_init 24 = .ok (.aload_n 0, 1) := by decide +kernel
theorem dX7_init_25 : decode cX7_init 25 = .ok (.new 22, 3) := by decide +kernel
theorem dX7_init_28 : decode cX7_init 28 = .ok (.dup, 1) := by decide +kernel
theorem dX7_init_29 : decode cX7_init 29 = .ok (.invokespecial 24, 3) := by decide +kernel
theorem dX7_init_32 : decode cX7_init 32 = .ok (.putfield 25, 3) := by decide +kernel
theorem dX7_init_35 : decode cX7_init 35 = .ok (.aload_n 0, 1) := by decide +kernel
theorem dX7_init_36 : decode cX7_init 36 = .ok (.new 22, 3) := by decide +kernel
theorem dX7_init_39 : decode cX7_init 39 = .ok (.dup, 1) := by decide +kernel
theorem dX7_init_40 : decode cX7_init 40 = .ok (.invokespecial 24, 3) := by decide +kernel
theorem dX7_init_43 : decode cX7_init 43 = .ok (.putfield 29, 3) := by decide +kernel
theorem dX7_init_46 : decode cX7_init 46 = .ok (.aload_n 0, 1) := by decide +kernel
theorem dX7_init_47 : decode cX7_init 47 = .ok (.new 22, 3) := by decide +kernel
theorem dX7_init_50 : decode cX7_init 50 = .ok (.dup, 1) := by decide +kernel
theorem dX7_init_51 : decode cX7_init 51 = .ok (.invokespecial 24, 3) := by decide +kernel
theorem dX7_init_54 : decode cX7_init 54 = .ok (.putfield 32, 3) := by decide +kernel
theorem dX7_init_57 : decode cX7_init 57 = .ok (.aload_n 0, 1) := by decide +kernel
theorem dX7_init_58 : decode cX7_init 58 = .ok (.iconst 2, 1) := by decide +kernel
theorem dX7_init_59 : decode cX7_init 59 = .ok (.anewarray 22, 3) := by decide +kernel
theorem dX7_init_62 : decode cX7_init 62 = .ok (.putfield 35, 3) := by decide +kernel
theorem dX7_init_65 : decode cX7_init 65 = .ok (.aload_n 0, 1) := by decide +kernel
theorem dX7_init_66 : decode cX7_init 66 = .ok (.new 39, 3) := by decide +kernel
theorem dX7_init_69 : decode cX7_init 69 = .ok (.dup, 1) := by decide +kernel
theorem dX7_init_70 : decode cX7_init 70 = .ok (.invokespecial 41, 3) := by decide +kernel
theorem dX7_init_73 : decode cX7_init 73 = .ok (.putfield 42, 3) := by decide +kernel
theorem dX7_init_76 : decode cX7_init 76 = .ok (.aload_n 0, 1) := by decide +kernel
theorem dX7_init_77 : decode cX7_init 77 = .ok (.new 46, 3) := by decide +kernel
theorem dX7_init_80 : decode cX7_init 80 = .ok (.dup, 1) := by decide +kernel
theorem dX7_init_81 : decode cX7_init 81 = .ok (.invokespecial 48, 3) := by decide +kernel
theorem dX7_init_84 : decode cX7_init 84 = .ok (.putfield 49, 3) := by decide +kernel
theorem dX7_init_87 : decode cX7_init 87 = .ok (.aload_n 0, 1) := by decide +kernel
theorem dX7_init_88 : decode cX7_init 88 = .ok (.bipush 30, 2) := by decide +kernel
theorem dX7_init_90 : decode cX7_init 90 = .ok (.newarray .int, 2) := by decide +kernel
theorem dX7_init_92 : decode cX7_init 92 = .ok (.putfield 53, 3) := by decide +kernel
theorem dX7_init_95 : decode cX7_init 95 = .ok (.aload_n 0, 1) := by decide +kernel
theorem dX7_init_96 : decode cX7_init 96 = .ok (.bipush 30, 2) := by decide +kernel
theorem dX7_init_98 : decode cX7_init 98 = .ok (.newarray .int, 2) := by decide +kernel
theorem dX7_init_100 : decode cX7_init 100 = .ok (.putfield 57, 3) := by decide +kernel
theorem dX7_init_103 : decode cX7_init 103 = .ok (.aload_n 0, 1) := by decide +kernel
theorem dX7_init_104 : decode cX7_init 104 = .ok (.bipush 30, 2) := by decide +kernel
theorem dX7_init_106 : decode cX7_init 106 = .ok (.newarray .int, 2) := by decide +kernel
theorem dX7_init_108 : decode cX7_init 108 = .ok (.putfield 60, 3) := by decide +kernel
theorem dX7_init_111 : decode cX7_init 111 = .ok (.aload_n 0, 1) := by decide +kernel
theorem dX7_init_112 : decode cX7_init 112 = .ok (.iconst 3, 1) := by decide +kernel
theorem dX7_init_113 : decode cX7_init 113 = .ok (.newarray .int, 2) := by decide +kernel
theorem dX7_init_115 : decode cX7_init 115 = .ok (.putfield 63, 3) := by decide +kernel
theorem dX7_init_118 : decode cX7_init 118 = .ok (.aload_n 0, 1) := by decide +kernel
theorem dX7_init_119 : decode cX7_init 119 = .ok (.new 66, 3) := by decide +kernel
theorem dX7_init_122 : decode cX7_init 122 = .ok (.dup, 1) := by decide +kernel
theorem dX7_init_123 : decode cX7_init 123 = .ok (.invokespecial 68, 3) := by decide +kernel
theorem dX7_init_126 : decode cX7_init 126 = .ok (.putfield 69, 3) := by decide +kernel
theorem dX7_init_129 : decode cX7_init 129 = .ok (.iconst 0, 1) := by decide +kernel
theorem dX7_init_130 : decode cX7_init 130 = .ok (.istore_n 1, 1) := by decide +kernel
theorem dX7_init_131 : decode cX7_init 131 = .ok (.iload_n 1, 1) := by decide +kernel
theorem dX7_init_132 : decode cX7_init 132 = .ok (.aload_n 0, 1) := by decide +kernel
theorem dX7_init_133 : decode cX7_init 133 = .ok (.getfield 11, 3) := by decide +kernel
theorem dX7_init_136 : decode cX7_init 136 = .ok (.arraylength, 1) := by decide +kernel
theorem dX7_init_137 : decode cX7_init 137 = .ok (.if_icmp .ge 22, 3) := by decide +kernel
theorem dX7_init_140 : decode cX7_init 140 = .ok (.aload_n 0, 1) := by decide +kernel
theorem dX7_init_141 : decode cX7_init 141 = .ok (.getfield 11, 3) := by decide +kernel
theorem dX7_init_144 : decode cX7_init 144 = .ok (.iload_n 1, 1) := by decide +kernel
theorem dX7_init_145 : decode cX7_init 145 = .ok (.new 9, 3) := by decide +kernel
theorem dX7_init_148 : decode cX7_init 148 = .ok (.dup, 1) := by decide +kernel
theorem dX7_init_149 : decode cX7_init 149 = .ok (.invokespecial 73, 3) := by decide +kernel
theorem dX7_init_152 : decode cX7_init 152 = .ok (.aastore, 1) := by decide +kernel
theorem dX7_init_153 : decode cX7_init 153 = .ok (.iinc 1 1, 3) := by decide +kernel
theorem dX7_init_156 : decode cX7_init 156 = .ok (.goto (-25), 3) := by decide +kernel
theorem dX7_init_159 : decode cX7_init 159 = .ok (.iconst 0, 1) := by decide +kernel
theorem dX7_init_160 : decode cX7_init 160 = .ok (.istore_n 1, 1) := by decide +kernel
theorem dX7_init_161 : decode cX7_init 161 = .ok (.iload_n 1, 1) := by decide +kernel
theorem dX7_init_162 : decode cX7_init 162 = .ok (.aload_n 0, 1) := by decide +kernel
theorem dX7_init_163 : decode cX7_init 163 = .ok (.getfield 35, 3) := by decide +kernel
theorem dX7_init_166 : decode cX7_init 166 = .ok (.arraylength, 1) := by decide +kernel
theorem dX7_init_167 : decode cX7_init 167 = .ok (.if_icmp .ge 22, 3) := by decide +kernel
theorem dX7_init_170 : decode cX7_init 170 = .ok (.aload_n 0, 1) := by decide +kernel
theorem dX7_init_171 : decode cX7_init 171 = .ok (.getfield 35, 3) := by decide +kernel
theorem dX7_init_174 : decode cX7_init 174 = .ok (.iload_n 1, 1) := by decide +kernel
theorem dX7_init_175 : decode cX7_init 175 = .ok (.new 22, 3) := by decide +kernel
theorem dX7_init_178 : decode cX7_init 178 = .ok (.dup, 1) := by decide +kernel
theorem dX7_init_179 : decode cX7_init 179 = .ok (.invokespecial 24, 3) := by decide +kernel
theorem dX7_init_182 : decode cX7_init 182 = .ok (.aastore, 1) := by decide +kernel
theorem dX7_init_183 : decode cX7_init 183 = .ok (.iinc 1 1, 3) := by decide +kernel
theorem dX7_init_186 : decode cX7_init 186 = .ok (.goto (-25), 3) := by decide +kernel
theorem dX7_init_189 : decode cX7_init 189 = .ok (.return_, 1) := by decide +kernel
theorem dX7_row_0 : decode cX7_row 0 = .ok (.aload_n 0, 1) := by decide +kernel
theorem dX7_row_1 : decode cX7_row 1 = .ok (.iload_n 1, 1) := by decide +kernel
theorem dX7_row_2 : decode cX7_row 2 = .ok (.invokevirtual 74, 3) := by decide +kernel
theorem dX7_row_5 : decode cX7_row 5 = .ok (.astore 4, 2) := by decide +kernel
theorem dX7_row_7 : decode cX7_row 7 = .ok (.aload 4, 2) := by decide +kernel
theorem dX7_row_9 : decode cX7_row 9 = .ok (.ifnull 18, 3) := by decide +kernel
theorem dX7_row_12 : decode cX7_row 12 = .ok (.iload_n 2, 1) := by decide +kernel
theorem dX7_row_13 : decode cX7_row 13 = .ok (.ifCond .lt 14, 3) := by decide +kernel
theorem dX7_row_16 : decode cX7_row 16 = .ok (.iload_n 2, 1) := by decide +kernel
theorem dX7_row_17 : decode cX7_row 17 = .ok (.iconst 2, 1) := by decide +kernel
theorem dX7_row_18 : decode cX7_row 18 = .ok (.if_icmp .gt 9, 3) := by decide +kernel
theorem dX7_row_21 : decode cX7_row 21 = .ok (.iload_n 3, 1) := by decide +kernel
theorem dX7_row_22 : decode cX7_row 22 = .ok (.bipush 40, 2) := by decide +kernel
theorem dX7_row_24 : decode cX7_row 24 = .ok (.if_icmp .le 6, 3) := by decide +kernel
theorem dX7_row_27 : decode cX7_row 27 = .ok (.ldc 78, 2) := by decide +kernel
theorem dX7_row_29 : decode cX7_row 29 = .ok (.ireturn, 1) := by decide +kernel
theorem dX7_row_30 : decode cX7_row 30 = .ok (.iload_n 3, 1) := by decide +kernel
theorem dX7_row_31 : decode cX7_row 31 = .ok (.ifCond .ge 9, 3) := by decide +kernel
theorem dX7_row_34 : decode cX7_row 34 = .ok (.aload_n 0, 1) := by decide +kernel
theorem dX7_row_35 : decode cX7_row 35 = .ok (.iconst 4, 1) := by decide +kernel
theorem dX7_row_36 : decode cX7_row 36 = .ok (.invokevirtual 79, 3) := by decide +kernel
theorem dX7_row_39 : decode cX7_row 39 = .ok (.ireturn, 1) := by decide +kernel
theorem dX7_row_40 : decode cX7_row 40 = .ok (.aload 4, 2) := by decide +kernel
theorem dX7_row_42 : decode cX7_row 42 = .ok (.iload_n 2, 1) := by decide +kernel
theorem dX7_row_43 : decode cX7_row 43 = .ok (.iload_n 3, 1) := by decide +kernel
theorem dX7_row_44 : decode cX7_row 44 = .ok (.invokevirtual 83, 3) := by decide +kernel
theorem dX7_row_47 : decode cX7_row 47 = .ok (.aload_n 0, 1) := by decide +kernel
theorem dX7_row_48 : decode cX7_row 48 = .ok (.iload_n 3, 1) := by decide +kernel
theorem dX7_row_49 : decode cX7_row 49 = .ok (.invokevirtual 87, 3) := by decide +kernel
theorem dX7_row_52 : decode cX7_row 52 = .ok (.ireturn, 1) := by decide +kernel
theorem dX7_set_0 : decode cX7_set 0 = .ok (.aload_n 0, 1) := by decide +kernel
theorem dX7_set_1 : decode cX7_set 1 = .ok (.iload_n 1, 1) := by decide +kernel
theorem dX7_set_2 : decode cX7_set 2 = .ok (.invokevirtual 74, 3) := by decide +kernel
theorem dX7_set_5 : decode cX7_set 5 = .ok (.astore 4, 2) := by decide +kernel
theorem dX7_set_7 : decode cX7_set 7 = .ok (.aload 4, 2) := by decide +kernel
theorem dX7_set_9 : decode cX7_set 9 = .ok (.ifnonnull 6, 3) := by decide +kernel
theorem dX7_set_12 : decode cX7_set 12 = .ok (.ldc 78, 2) := by decide +kernel
theorem dX7_set_14 : decode cX7_set 14 = .ok (.ireturn, 1) := by decide +kernel
theorem dX7_set_15 : decode cX7_set 15 = .ok (.aload 4, 2) := by decide +kernel
theorem dX7_set_17 : decode cX7_set 17 = .ok (.invokevirtual 90, 3) := by decide +kernel
theorem dX7_set_20 : decode cX7_set 20 = .ok (.ifCond .eq 9, 3) := by decide +kernel
theorem dX7_set_23 : decode cX7_set 23 = .ok (.aload_n 0, 1) := by decide +kernel
theorem dX7_set_24 : decode cX7_set 24 = .ok (.iconst 1, 1) := by decide +kernel
theorem dX7_set_25 : decode cX7_set 25 = .ok (.invokevirtual 79, 3) := by decide +kernel
theorem dX7_set_28 : decode cX7_set 28 = .ok (.ireturn, 1) := by decide +kernel
theorem dX7_set_29 : decode cX7_set 29 = .ok (.aload 4, 2) := by decide +kernel
theorem dX7_set_31 : decode cX7_set 31 = .ok (.iload_n 2, 1) := by decide +kernel
theorem dX7_set_32 : decode cX7_set 32 = .ok (.iconst 1, 1) := by decide +kernel
theorem dX7_set_33 : decode cX7_set 33 = .ok (.invokevirtual 94, 3) := by decide +kernel
theorem dX7_set_36 : decode cX7_set 36 = .ok (.ifCond .ne 9, 3) := by decide +kernel
theorem dX7_set_39 : decode cX7_set 39 = .ok (.aload_n 0, 1) := by decide +kernel
theorem dX7_set_40 : decode cX7_set 40 = .ok (.iconst 2, 1) := by decide +kernel
theorem dX7_set_41 : decode cX7_set 41 = .ok (.invokevirtual 79, 3) := by decide +kernel
theorem dX7_set_44 : decode cX7_set 44 = .ok (.ireturn, 1) := by decide +kernel
theorem dX7_set_45 : decode cX7_set 45 = .ok (.aload_n 0, 1) := by decide +kernel
theorem dX7_set_46 : decode cX7_set 46 = .ok (.aload 4, 2) := by decide +kernel
theorem dX7_set_48 : decode cX7_set 48 = .ok (.iload_n 2, 1) := by decide +kernel
theorem dX7_set_49 : decode cX7_set 49 = .ok (.iload_n 3, 1) := by decide +kernel
theorem dX7_set_50 : decode cX7_set 50 = .ok (.invokevirtual 98, 3) := by decide +kernel
theorem dX7_set_53 : decode cX7_set 53 = .ok (.invokevirtual 87, 3) := by decide +kernel
theorem dX7_set_56 : decode cX7_set 56 = .ok (.ireturn, 1) := by decide +kernel
theorem dX7_copy_0 : decode cX7_copy 0 = .ok (.aload_n 0, 1) := by decide +kernel
theorem dX7_copy_1 : decode cX7_copy 1 = .ok (.iload_n 1, 1) := by decide +kernel
theorem dX7_copy_2 : decode cX7_copy 2 = .ok (.invokevirtual 74, 3) := by decide +kernel
theorem dX7_copy_5 : decode cX7_copy 5 = .ok (.astore 6, 2) := by decide +kernel
theorem dX7_copy_7 : decode cX7_copy 7 = .ok (.aload_n 0, 1) := by decide +kernel
theorem dX7_copy_8 : decode cX7_copy 8 = .ok (.iload_n 3, 1) := by decide +kernel
theorem dX7_copy_9 : decode cX7_copy 9 = .ok (.invokevirtual 74, 3) := by decide +kernel
theorem dX7_copy_12 : decode cX7_copy 12 = .ok (.astore 7, 2) := by decide +kernel
theorem dX7_copy_14 : decode cX7_copy 14 = .ok (.aload 6, 2) := by decide +kernel
theorem dX7_copy_16 : decode cX7_copy 16 = .ok (.ifnull 8, 3) := by decide +kernel
theorem dX7_copy_19 : decode cX7_copy 19 = .ok (.aload 7, 2) := by decide +kernel
theorem dX7_copy_21 : decode cX7_copy 21 = .ok (.ifnonnull 6, 3) := by decide +kernel
theorem dX7_copy_24 : decode cX7_copy 24 = .ok (.ldc 78, 2) := by decide +kernel
theorem dX7_copy_26 : decode cX7_copy 26 = .ok (.ireturn, 1) := by decide +kernel
theorem dX7_copy_27 : decode cX7_copy 27 = .ok (.aload 6, 2) := by decide +kernel
theorem dX7_copy_29 : decode cX7_copy 29 = .ok (.invokevirtual 90, 3) := by decide +kernel
theorem dX7_copy_32 : decode cX7_copy 32 = .ok (.ifCond .ne 11, 3) := by decide +kernel
theorem dX7_copy_35 : decode cX7_copy 35 = .ok (.aload 7, 2) := by decide +kernel
theorem dX7_copy_37 : decode cX7_copy 37 = .ok (.invokevirtual 90, 3) := by decide +kernel
theorem dX7_copy_40 : decode cX7_copy 40 = .ok (.ifCond .eq 9, 3) := by decide +kernel
theorem dX7_copy_43 : decode cX7_copy 43 = .ok (.aload_n 0, 1) := by decide +kernel
theorem dX7_copy_44 : decode cX7_copy 44 = .ok (.iconst 1, 1) := by decide +kernel
theorem dX7_copy_45 : decode cX7_copy 45 = .ok (.invokevirtual 79, 3) := by decide +kernel
theorem dX7_copy_48 : decode cX7_copy 48 = .ok (.ireturn, 1) := by decide +kernel
theorem dX7_copy_49 : decode cX7_copy 49 = .ok (.aload 6, 2) := by decide +kernel
theorem dX7_copy_51 : decode cX7_copy 51 = .ok (.getfield 102, 3) := by decide +kernel
theorem dX7_copy_54 : decode cX7_copy 54 = .ok (.aload 7, 2) := by decide +kernel
theorem dX7_copy_56 : decode cX7_copy 56 = .ok (.getfield 102, 3) := by decide +kernel
theorem dX7_copy_59 : decode cX7_copy 59 = .ok (.if_icmp .eq 9, 3) := by decide +kernel
theorem dX7_copy_62 : decode cX7_copy 62 = .ok (.aload_n 0, 1) := by decide +kernel
theorem dX7_copy_63 : decode cX7_copy 63 = .ok (.iconst 5, 1) := by decide +kernel
theorem dX7_copy_64 : decode cX7_copy 64 = .ok (.invokevirtual 79, 3) := by decide +kernel
theorem dX7_copy_67 : decode cX7_copy 67 = .ok (.ireturn, 1) := by decide +kernel
theorem dX7_copy_68 : decode cX7_copy 68 = .ok (.aload 6, 2) := by decide +kernel
theorem dX7_copy_70 : decode cX7_copy 70 = .ok (.iload_n 2, 1) := by decide +kernel
theorem dX7_copy_71 : decode cX7_copy 71 = .ok (.iload 5, 2) := by decide +kernel
theorem dX7_copy_73 : decode cX7_copy 73 = .ok (.invokevirtual 94, 3) := by decide +kernel
theorem dX7_copy_76 : decode cX7_copy 76 = .ok (.ifCond .eq 15, 3) := by decide +kernel
theorem dX7_copy_79 : decode cX7_copy 79 = .ok (.aload 7, 2) := by decide +kernel
theorem dX7_copy_81 : decode cX7_copy 81 = .ok (.iload 4, 2) := by decide +kernel
theorem dX7_copy_83 : decode cX7_copy 83 = .ok (.iload 5, 2) := by decide +kernel
theorem dX7_copy_85 : decode cX7_copy 85 = .ok (.invokevirtual 94, 3) := by decide +kernel
theorem dX7_copy_88 : decode cX7_copy 88 = .ok (.ifCond .ne 9, 3) := by decide +kernel
theorem dX7_copy_91 : decode cX7_copy 91 = .ok (.aload_n 0, 1) := by decide +kernel
theorem dX7_copy_92 : decode cX7_copy 92 = .ok (.iconst 2, 1) := by decide +kernel
theorem dX7_copy_93 : decode cX7_copy 93 = .ok (.invokevirtual 79, 3) := by decide +kernel
theorem dX7_copy_96 : decode cX7_copy 96 = .ok (.ireturn, 1) := by decide +kernel
theorem dX7_copy_97 : decode cX7_copy 97 = .ok (.aload 6, 2) := by decide +kernel
theorem dX7_copy_99 : decode cX7_copy 99 = .ok (.getfield 106, 3) := by decide +kernel
theorem dX7_copy_102 : decode cX7_copy 102 = .ok (.iload_n 2, 1) := by decide +kernel
theorem dX7_copy_103 : decode cX7_copy 103 = .ok (.aload 7, 2) := by decide +kernel
theorem dX7_copy_105 : decode cX7_copy 105 = .ok (.getfield 106, 3) := by decide +kernel
theorem dX7_copy_108 : decode cX7_copy 108 = .ok (.iload 4, 2) := by decide +kernel
theorem dX7_copy_110 : decode cX7_copy 110 = .ok (.iload 5, 2) := by decide +kernel
theorem dX7_copy_112 : decode cX7_copy 112 = .ok (.invokestatic 109, 3) := by decide +kernel
theorem dX7_copy_115 : decode cX7_copy 115 = .ok (.aload_n 0, 1) := by decide +kernel
theorem dX7_copy_116 : decode cX7_copy 116 = .ok (.iload 5, 2) := by decide +kernel
theorem dX7_copy_118 : decode cX7_copy 118 = .ok (.invokevirtual 87, 3) := by decide +kernel
theorem dX7_copy_121 : decode cX7_copy 121 = .ok (.ireturn, 1) := by decide +kernel
theorem dX7_drop_0 : decode cX7_drop 0 = .ok (.aload_n 0, 1) := by decide +kernel
theorem dX7_drop_1 : decode cX7_drop 1 = .ok (.iload_n 1, 1) := by decide +kernel
theorem dX7_drop_2 : decode cX7_drop 2 = .ok (.invokevirtual 74, 3) := by decide +kernel
theorem dX7_drop_5 : decode cX7_drop 5 = .ok (.astore_n 2, 1) := by decide +kernel
theorem dX7_drop_6 : decode cX7_drop 6 = .ok (.aload_n 2, 1) := by decide +kernel
theorem dX7_drop_7 : decode cX7_drop 7 = .ok (.ifnonnull 6, 3) := by decide +kernel
theorem dX7_drop_10 : decode cX7_drop 10 = .ok (.ldc 78, 2) := by decide +kernel
theorem dX7_drop_12 : decode cX7_drop 12 = .ok (.ireturn, 1) := by decide +kernel
theorem dX7_drop_13 : decode cX7_drop 13 = .ok (.aload_n 2, 1) := by decide +kernel
theorem dX7_drop_14 : decode cX7_drop 14 = .ok (.invokevirtual 90, 3) := by decide +kernel
theorem dX7_drop_17 : decode cX7_drop 17 = .ok (.ifCond .eq 9, 3) := by decide +kernel
theorem dX7_drop_20 : decode cX7_drop 20 = .ok (.aload_n 0, 1) := by decide +kernel
theorem dX7_drop_21 : decode cX7_drop 21 = .ok (.iconst 1, 1) := by decide +kernel
theorem dX7_drop_22 : decode cX7_drop 22 = .ok (.invokevirtual 79, 3) := by decide +kernel
theorem dX7_drop_25 : decode cX7_drop 25 = .ok (.ireturn, 1) := by decide +kernel
theorem dX7_drop_26 : decode cX7_drop 26 = .ok (.aload_n 2, 1) := by decide +kernel
theorem dX7_drop_27 : decode cX7_drop 27 = .ok (.getfield 115, 3) := by decide +kernel
theorem dX7_drop_30 : decode cX7_drop 30 = .ok (.istore_n 3, 1) := by decide +kernel
theorem dX7_drop_31 : decode cX7_drop 31 = .ok (.aload_n 2, 1) := by decide +kernel
theorem dX7_drop_32 : decode cX7_drop 32 = .ok (.iconst (-1), 1) := by decide +kernel
theorem dX7_drop_33 : decode cX7_drop 33 = .ok (.putfield 115, 3) := by decide +kernel
theorem dX7_drop_36 : decode cX7_drop 36 = .ok (.aload_n 0, 1) := by decide +kernel
theorem dX7_drop_37 : decode cX7_drop 37 = .ok (.iload_n 3, 1) := by decide +kernel
theorem dX7_drop_38 : decode cX7_drop 38 = .ok (.invokevirtual 87, 3) := by decide +kernel
theorem dX7_drop_41 : decode cX7_drop 41 = .ok (.ireturn, 1) := by decide +kernel
theorem dX7_feed_0 : decode cX7_feed 0 = .ok (.iload_n 3, 1) := by decide +kernel
theorem dX7_feed_1 : decode cX7_feed 1 = .ok (.iconst 1, 1) := by decide +kernel
theorem dX7_feed_2 : decode cX7_feed 2 = .ok (.if_icmp .lt 9, 3) := by decide +kernel
theorem dX7_feed_5 : decode cX7_feed 5 = .ok (.iload_n 3, 1) := by decide +kernel
theorem dX7_feed_6 : decode cX7_feed 6 = .ok (.bipush 8, 2) := by decide +kernel
theorem dX7_feed_8 : decode cX7_feed 8 = .ok (.if_icmp .le 6, 3) := by decide +kernel
theorem dX7_feed_11 : decode cX7_feed 11 = .ok (.ldc 78, 2) := by decide +kernel
theorem dX7_feed_13 : decode cX7_feed 13 = .ok (.ireturn, 1) := by decide +kernel
theorem dX7_feed_14 : decode cX7_feed 14 = .ok (.aload_n 0, 1) := by decide +kernel
theorem dX7_feed_15 : decode cX7_feed 15 = .ok (.getfield 18, 3) := by decide +kernel
theorem dX7_feed_18 : decode cX7_feed 18 = .ok (.iload_n 3, 1) := by decide +kernel
theorem dX7_feed_19 : decode cX7_feed 19 = .ok (.invokevirtual 118, 3) := by decide +kernel
theorem dX7_feed_22 : decode cX7_feed 22 = .ok (.ifCond .ne 6, 3) := by decide +kernel
theorem dX7_feed_25 : decode cX7_feed 25 = .ok (.ldc 122, 2) := by decide +kernel
theorem dX7_feed_27 : decode cX7_feed 27 = .ok (.ireturn, 1) := by decide +kernel
theorem dX7_feed_28 : decode cX7_feed 28 = .ok (.iload_n 3, 1) := by decide +kernel
theorem dX7_feed_29 : decode cX7_feed 29 = .ok (.iconst 1, 1) := by decide +kernel
theorem dX7_feed_30 : decode cX7_feed 30 = .ok (.isub, 1) := by decide +kernel
theorem dX7_feed_31 : decode cX7_feed 31 = .ok (.istore 4, 2) := by decide +kernel
theorem dX7_feed_33 : decode cX7_feed 33 = .ok (.iload 4, 2) := by decide +kernel
theorem dX7_feed_35 : decode cX7_feed 35 = .ok (.ifCond .lt 28, 3) := by decide +kernel
theorem dX7_feed_38 : decode cX7_feed 38 = .ok (.aload_n 0, 1) := by decide +kernel
theorem dX7_feed_39 : decode cX7_feed 39 = .ok (.getfield 18, 3) := by decide +kernel
theorem dX7_feed_42 : decode cX7_feed 42 = .ok (.lload_n 1, 1) := by decide +kernel
theorem dX7_feed_43 : decode cX7_feed 43 = .ok (.bipush 8, 2) := by decide +kernel
theorem dX7_feed_45 : decode cX7_feed 45 = .ok (.iload 4, 2) := by decide +kernel
theorem dX7_feed_47 : decode cX7_feed 47 = .ok (.imul, 1) := by decide +kernel
theorem dX7_feed_48 : decode cX7_feed 48 = .ok (.lushr, 1) := by decide +kernel
theorem dX7_feed_49 : decode cX7_feed 49 = .ok (.l2i, 1) := by decide +kernel
theorem dX7_feed_50 : decode cX7_feed 50 = .ok (.sipush 255, 3) := by decide +kernel
theorem dX7_feed_53 : decode cX7_feed 53 = .ok (.iand, 1) := by decide +kernel
theorem dX7_feed_54 : decode cX7_feed 54 = .ok (.invokevirtual 123, 3) := by decide +kernel
theorem dX7_feed_57 : decode cX7_feed 57 = .ok (.iinc 4 (-1), 3) := by decide +kernel
theorem dX7_feed_60 : decode cX7_feed 60 = .ok (.goto (-27), 3) := by decide +kernel
theorem dX7_feed_63 : decode cX7_feed 63 = .ok (.aload_n 0, 1) := by decide +kernel
theorem dX7_feed_64 : decode cX7_feed 64 = .ok (.getfield 18, 3) := by decide +kernel
theorem dX7_feed_67 : decode cX7_feed 67 = .ok (.getfield 127, 3) := by decide +kernel
theorem dX7_feed_70 : decode cX7_feed 70 = .ok (.ireturn, 1) := by decide +kernel
theorem dX7_square_0 : decode cX7_square 0 = .ok (.aload_n 0, 1) := by decide +kernel
theorem dX7_square_1 : decode cX7_square 1 = .ok (.getfield 29, 3) := by decide +kernel
theorem dX7_square_4 : decode cX7_square 4 = .ok (.invokevirtual 130, 3) := by decide +kernel
theorem dX7_square_7 : decode cX7_square 7 = .ok (.aload_n 0, 1) := by decide +kernel
theorem dX7_square_8 : decode cX7_square 8 = .ok (.getfield 18, 3) := by decide +kernel
theorem dX7_square_11 : decode cX7_square 11 = .ok (.aload_n 0, 1) := by decide +kernel
theorem dX7_square_12 : decode cX7_square 12 = .ok (.getfield 29, 3) := by decide +kernel
theorem dX7_square_15 : decode cX7_square 15 = .ok (.invokevirtual 133, 3) := by decide +kernel
theorem dX7_square_18 : decode cX7_square 18 = .ok (.istore_n 1, 1) := by decide +kernel
theorem dX7_square_19 : decode cX7_square 19 = .ok (.aload_n 0, 1) := by decide +kernel
theorem dX7_square_20 : decode cX7_square 20 = .ok (.getfield 18, 3) := by decide +kernel
theorem dX7_square_23 : decode cX7_square 23 = .ok (.iconst 0, 1) := by decide +kernel
theorem dX7_square_24 : decode cX7_square 24 = .ok (.putfield 127, 3) := by decide +kernel
theorem dX7_square_27 : decode cX7_square 27 = .ok (.iload_n 1, 1) := by decide +kernel
theorem dX7_square_28 : decode cX7_square 28 = .ok (.ifCond .ne 25, 3) := by decide +kernel
theorem dX7_square_31 : decode cX7_square 31 = .ok (.aload_n 0, 1) := by decide +kernel
theorem dX7_square_32 : decode cX7_square 32 = .ok (.aload_n 0, 1) := by decide +kernel
theorem dX7_square_33 : decode cX7_square 33 = .ok (.getfield 18, 3) := by decide +kernel
theorem dX7_square_36 : decode cX7_square 36 = .ok (.getfield 137, 3) := by decide +kernel
theorem dX7_square_39 : decode cX7_square 39 = .ok (.putfield 140, 3) := by decide +kernel
theorem dX7_square_42 : decode cX7_square 42 = .ok (.ldc 143, 2) := by decide +kernel
theorem dX7_square_44 : decode cX7_square 44 = .ok (.aload_n 0, 1) := by decide +kernel
theorem dX7_square_45 : decode cX7_square 45 = .ok (.getfield 18, 3) := by decide +kernel
theorem dX7_square_48 : decode cX7_square 48 = .ok (.getfield 144, 3) := by decide +kernel
theorem dX7_square_51 : decode cX7_square 51 = .ok (.isub, 1) := by decide +kernel
theorem dX7_square_52 : decode cX7_square 52 = .ok (.ireturn, 1) := by decide +kernel
theorem dX7_square_53 : decode cX7_square 53 = .ok (.aload_n 0, 1) := by decide +kernel
theorem dX7_square_54 : decode cX7_square 54 = .ok (.getfield 29, 3) := by decide +kernel
theorem dX7_square_57 : decode cX7_square 57 = .ok (.iconst 1, 1) := by decide +kernel
theorem dX7_square_58 : decode cX7_square 58 = .ok (.putfield 147, 3) := by decide +kernel
theorem dX7_square_61 : decode cX7_square 61 = .ok (.aload_n 0, 1) := by decide +kernel
theorem dX7_square_62 : decode cX7_square 62 = .ok (.getfield 25, 3) := by decide +kernel
theorem dX7_square_65 : decode cX7_square 65 = .ok (.aload_n 0, 1) := by decide +kernel
theorem dX7_square_66 : decode cX7_square 66 = .ok (.getfield 29, 3) := by decide +kernel
theorem dX7_square_69 : decode cX7_square 69 = .ok (.invokevirtual 151, 3) := by decide +kernel
theorem dX7_square_72 : decode cX7_square 72 = .ok (.aload_n 0, 1) := by decide +kernel
theorem dX7_square_73 : decode cX7_square 73 = .ok (.getfield 42, 3) := by decide +kernel
theorem dX7_square_76 : decode cX7_square 76 = .ok (.iconst 0, 1) := by decide +kernel
theorem dX7_square_77 : decode cX7_square 77 = .ok (.putfield 155, 3) := by decide +kernel
theorem dX7_square_80 : decode cX7_square 80 = .ok (.aload_n 0, 1) := by decide +kernel
theorem dX7_square_81 : decode cX7_square 81 = .ok (.getfield 25, 3) := by decide +kernel
theorem dX7_square_84 : decode cX7_square 84 = .ok (.getfield 158, 3) := by decide +kernel
theorem dX7_square_87 : decode cX7_square 87 = .ok (.ireturn, 1) := by decide +kernel
theorem dX7_fault_0 : decode cX7_fault 0 = .ok (.aload_n 0, 1) := by decide +kernel
theorem dX7_fault_1 : decode cX7_fault 1 = .ok (.getfield 140, 3) := by decide +kernel
theorem dX7_fault_4 : decode cX7_fault 4 = .ok (.ireturn, 1) := by decide +kernel
theorem dX7_toss_0 : decode cX7_toss 0 = .ok (.aload_n 0, 1) := by decide +kernel
theorem dX7_toss_1 : decode cX7_toss 1 = .ok (.getfield 25, 3) := by decide +kernel
theorem dX7_toss_4 : decode cX7_toss 4 = .ok (.getfield 147, 3) := by decide +kernel
theorem dX7_toss_7 : decode cX7_toss 7 = .ok (.ifCond .ne 6, 3) := by decide +kernel
theorem dX7_toss_10 : decode cX7_toss 10 = .ok (.ldc 161, 2) := by decide +kernel
theorem dX7_toss_12 : decode cX7_toss 12 = .ok (.ireturn, 1) := by decide +kernel
theorem dX7_toss_13 : decode cX7_toss 13 = .ok (.iload_n 1, 1) := by decide +kernel
theorem dX7_toss_14 : decode cX7_toss 14 = .ok (.invokestatic 162, 3) := by decide +kernel
theorem dX7_toss_17 : decode cX7_toss 17 = .ok (.ifCond .eq 34, 3) := by decide +kernel
theorem dX7_toss_20 : decode cX7_toss 20 = .ok (.iload_n 2, 1) := by decide +kernel
theorem dX7_toss_21 : decode cX7_toss 21 = .ok (.invokestatic 165, 3) := by decide +kernel
theorem dX7_toss_24 : decode cX7_toss 24 = .ok (.ifCond .eq 27, 3) := by decide +kernel
theorem dX7_toss_27 : decode cX7_toss 27 = .ok (.iload_n 3, 1) := by decide +kernel
theorem dX7_toss_28 : decode cX7_toss 28 = .ok (.iconst 1, 1) := by decide +kernel
theorem dX7_toss_29 : decode cX7_toss 29 = .ok (.if_icmp .lt 22, 3) := by decide +kernel
theorem dX7_toss_32 : decode cX7_toss 32 = .ok (.iload_n 3, 1) := by decide +kernel
theorem dX7_toss_33 : decode cX7_toss 33 = .ok (.bipush 20, 2) := by decide +kernel
theorem dX7_toss_35 : decode cX7_toss 35 = .ok (.if_icmp .gt 16, 3) := by decide +kernel
theorem dX7_toss_38 : decode cX7_toss 38 = .ok (.iload 4, 2) := by decide +kernel
theorem dX7_toss_40 : decode cX7_toss 40 = .ok (.iconst 1, 1) := by decide +kernel
theorem dX7_toss_41 : decode cX7_toss 41 = .ok (.if_icmp .lt 10, 3) := by decide +kernel
theorem dX7_toss_44 : decode cX7_toss 44 = .ok (.iload 4, 2) := by decide +kernel
theorem dX7_toss_46 : decode cX7_toss 46 = .ok (.ldc 168, 2) := by decide +kernel
theorem dX7_toss_48 : decode cX7_toss 48 = .ok (.if_icmp .le 6, 3) := by decide +kernel
theorem dX7_toss_51 : decode cX7_toss 51 = .ok (.ldc 78, 2) := by decide +kernel
theorem dX7_toss_53 : decode cX7_toss 53 = .ok (.ireturn, 1) := by decide +kernel
theorem dX7_toss_54 : decode cX7_toss 54 = .ok (.aload_n 0, 1) := by decide +kernel
theorem dX7_toss_55 : decode cX7_toss 55 = .ok (.getfield 25, 3) := by decide +kernel
theorem dX7_toss_58 : decode cX7_toss 58 = .ok (.invokevirtual 169, 3) := by decide +kernel
theorem dX7_toss_61 : decode cX7_toss 61 = .ok (.iload_n 3, 1) := by decide +kernel
theorem dX7_toss_62 : decode cX7_toss 62 = .ok (.iadd, 1) := by decide +kernel
theorem dX7_toss_63 : decode cX7_toss 63 = .ok (.sipush 9999, 3) := by decide +kernel
theorem dX7_toss_66 : decode cX7_toss 66 = .ok (.if_icmp .le 6, 3) := by decide +kernel
theorem dX7_toss_69 : decode cX7_toss 69 = .ok (.ldc 122, 2) := by decide +kernel
theorem dX7_toss_71 : decode cX7_toss 71 = .ok (.ireturn, 1) := by decide +kernel
theorem dX7_toss_72 : decode cX7_toss 72 = .ok (.aload_n 0, 1) := by decide +kernel
theorem dX7_toss_73 : decode cX7_toss 73 = .ok (.getfield 42, 3) := by decide +kernel
theorem dX7_toss_76 : decode cX7_toss 76 = .ok (.aload_n 0, 1) := by decide +kernel
theorem dX7_toss_77 : decode cX7_toss 77 = .ok (.getfield 25, 3) := by decide +kernel
theorem dX7_toss_80 : decode cX7_toss 80 = .ok (.invokevirtual 173, 3) := by decide +kernel
theorem dX7_toss_83 : decode cX7_toss 83 = .ok (.aload_n 0, 1) := by decide +kernel
theorem dX7_toss_84 : decode cX7_toss 84 = .ok (.getfield 49, 3) := by decide +kernel
theorem dX7_toss_87 : decode cX7_toss 87 = .ok (.iload_n 1, 1) := by decide +kernel
theorem dX7_toss_88 : decode cX7_toss 88 = .ok (.iload_n 2, 1) := by decide +kernel
theorem dX7_toss_89 : decode cX7_toss 89 = .ok (.invokevirtual 176, 3) := by decide +kernel
theorem dX7_toss_92 : decode cX7_toss 92 = .ok (.aload_n 0, 1) := by decide +kernel
theorem dX7_toss_93 : decode cX7_toss 93 = .ok (.iload_n 3, 1) := by decide +kernel
theorem dX7_toss_94 : decode cX7_toss 94 = .ok (.iload 4, 2) := by decide +kernel
theorem dX7_toss_96 : decode cX7_toss 96 = .ok (.invokevirtual 179, 3) := by decide +kernel
theorem dX7_toss_99 : decode cX7_toss 99 = .ok (.ireturn, 1) := by decide +kernel
theorem dX7_run_0 : decode cX7_run 0 = .ok (.aload_n 0, 1) := by decide +kernel
theorem dX7_run_1 : decode cX7_run 1 = .ok (.getfield 25, 3) := by decide +kernel
theorem dX7_run_4 : decode cX7_run 4 = .ok (.iload_n 1, 1) := by decide +kernel
theorem dX7_run_5 : decode cX7_run 5 = .ok (.invokevirtual 182, 3) := by decide +kernel
theorem dX7_run_8 : decode cX7_run 8 = .ok (.astore_n 3, 1) := by decide +kernel
theorem dX7_run_9 : decode cX7_run 9 = .ok (.aload_n 3, 1) := by decide +kernel
theorem dX7_run_10 : decode cX7_run 10 = .ok (.ifnull 10, 3) := by decide +kernel
theorem dX7_run_13 : decode cX7_run 13 = .ok (.iload_n 2, 1) := by decide +kernel
theorem dX7_run_14 : decode cX7_run 14 = .ok (.invokestatic 162, 3) := by decide +kernel
theorem dX7_run_17 : decode cX7_run 17 = .ok (.ifCond .ne 6, 3) := by decide +kernel
theorem dX7_run_20 : decode cX7_run 20 = .ok (.ldc 78, 2) := by decide +kernel
theorem dX7_run_22 : decode cX7_run 22 = .ok (.ireturn, 1) := by decide +kernel
theorem dX7_run_23 : decode cX7_run 23 = .ok (.aload_n 0, 1) := by decide +kernel
theorem dX7_run_24 : decode cX7_run 24 = .ok (.getfield 42, 3) := by decide +kernel
theorem dX7_run_27 : decode cX7_run 27 = .ok (.aload_n 0, 1) := by decide +kernel
theorem dX7_run_28 : decode cX7_run 28 = .ok (.getfield 25, 3) := by decide +kernel
theorem dX7_run_31 : decode cX7_run 31 = .ok (.invokevirtual 173, 3) := by decide +kernel
theorem dX7_run_34 : decode cX7_run 34 = .ok (.aload_n 3, 1) := by decide +kernel
theorem dX7_run_35 : decode cX7_run 35 = .ok (.getfield 186, 3) := by decide +kernel
theorem dX7_run_38 : decode cX7_run 38 = .ok (.iload_n 2, 1) := by decide +kernel
theorem dX7_run_39 : decode cX7_run 39 = .ok (.invokestatic 191, 3) := by decide +kernel
theorem dX7_run_42 : decode cX7_run 42 = .ok (.istore 4, 2) := by decide +kernel
theorem dX7_run_44 : decode cX7_run 44 = .ok (.aload_n 3, 1) := by decide +kernel
theorem dX7_run_45 : decode cX7_run 45 = .ok (.iload_n 2, 1) := by decide +kernel
theorem dX7_run_46 : decode cX7_run 46 = .ok (.putfield 186, 3) := by decide +kernel
theorem dX7_run_49 : decode cX7_run 49 = .ok (.iload 4, 2) := by decide +kernel
theorem dX7_run_51 : decode cX7_run 51 = .ok (.ireturn, 1) := by decide +kernel
theorem dX7_corner_0 : decode cX7_corner 0 = .ok (.aload_n 0, 1) := by decide +kernel
theorem dX7_corner_1 : decode cX7_corner 1 = .ok (.getfield 25, 3) := by decide +kernel
theorem dX7_corner_4 : decode cX7_corner 4 = .ok (.iload_n 1, 1) := by decide +kernel
theorem dX7_corner_5 : decode cX7_corner 5 = .ok (.invokevirtual 182, 3) := by decide +kernel
theorem dX7_corner_8 : decode cX7_corner 8 = .ok (.astore_n 3, 1) := by decide +kernel
theorem dX7_corner_9 : decode cX7_corner 9 = .ok (.aload_n 0, 1) := by decide +kernel
theorem dX7_corner_10 : decode cX7_corner 10 = .ok (.getfield 25, 3) := by decide +kernel
theorem dX7_corner_13 : decode cX7_corner 13 = .ok (.iload_n 2, 1) := by decide +kernel
theorem dX7_corner_14 : decode cX7_corner 14 = .ok (.invokevirtual 182, 3) := by decide +kernel
theorem dX7_corner_17 : decode cX7_corner 17 = .ok (.astore 4, 2) := by decide +kernel
theorem dX7_corner_19 : decode cX7_corner 19 = .ok (.aload_n 3, 1) := by decide +kernel
theorem dX7_corner_20 : decode cX7_corner 20 = .ok (.ifnull 13, 3) := by decide +kernel
theorem dX7_corner_23 : decode cX7_corner 23 = .ok (.aload 4, 2) := by decide +kernel
theorem dX7_corner_25 : decode cX7_corner 25 = .ok (.ifnull 8, 3) := by decide +kernel
theorem dX7_corner_28 : decode cX7_corner 28 = .ok (.iload_n 1, 1) := by decide +kernel
theorem dX7_corner_29 : decode cX7_corner 29 = .ok (.iload_n 2, 1) := by decide +kernel
theorem dX7_corner_30 : decode cX7_corner 30 = .ok (.if_icmp .ne 6, 3) := by decide +kernel
theorem dX7_corner_33 : decode cX7_corner 33 = .ok (.ldc 78, 2) := by decide +kernel
theorem dX7_corner_35 : decode cX7_corner 35 = .ok (.ireturn, 1) := by decide +kernel
theorem dX7_corner_36 : decode cX7_corner 36 = .ok (.aload 4, 2) := by decide +kernel
theorem dX7_corner_38 : decode cX7_corner 38 = .ok (.invokevirtual 194, 3) := by decide +kernel
theorem dX7_corner_41 : decode cX7_corner 41 = .ok (.aload_n 3, 1) := by decide +kernel
theorem dX7_corner_42 : decode cX7_corner 42 = .ok (.invokevirtual 194, 3) := by decide +kernel
theorem dX7_corner_45 : decode cX7_corner 45 = .ok (.if_icmp .lt 6, 3) := by decide +kernel
theorem dX7_corner_48 : decode cX7_corner 48 = .ok (.ldc 161, 2) := by decide +kernel
theorem dX7_corner_50 : decode cX7_corner 50 = .ok (.ireturn, 1) := by decide +kernel
theorem dX7_corner_51 : decode cX7_corner 51 = .ok (.aload 4, 2) := by decide +kernel
theorem dX7_corner_53 : decode cX7_corner 53 = .ok (.getfield 197, 3) := by decide +kernel
theorem dX7_corner_56 : decode cX7_corner 56 = .ok (.iconst 2, 1) := by decide +kernel
theorem dX7_corner_57 : decode cX7_corner 57 = .ok (.idiv, 1) := by decide +kernel
theorem dX7_corner_58 : decode cX7_corner 58 = .ok (.istore 5, 2) := by decide +kernel
theorem dX7_corner_60 : decode cX7_corner 60 = .ok (.aload_n 3, 1) := by decide +kernel
theorem dX7_corner_61 : decode cX7_corner 61 = .ok (.getfield 197, 3) := by decide +kernel
theorem dX7_corner_64 : decode cX7_corner 64 = .ok (.iload 5, 2) := by decide +kernel
theorem dX7_corner_66 : decode cX7_corner 66 = .ok (.iadd, 1) := by decide +kernel
theorem dX7_corner_67 : decode cX7_corner 67 = .ok (.sipush 9999, 3) := by decide +kernel
theorem dX7_corner_70 : decode cX7_corner 70 = .ok (.if_icmp .le 6, 3) := by decide +kernel
theorem dX7_corner_73 : decode cX7_corner 73 = .ok (.ldc 122, 2) := by decide +kernel
theorem dX7_corner_75 : decode cX7_corner 75 = .ok (.ireturn, 1) := by decide +kernel
theorem dX7_corner_76 : decode cX7_corner 76 = .ok (.aload_n 0, 1) := by decide +kernel
theorem dX7_corner_77 : decode cX7_corner 77 = .ok (.getfield 42, 3) := by decide +kernel
theorem dX7_corner_80 : decode cX7_corner 80 = .ok (.aload_n 0, 1) := by decide +kernel
theorem dX7_corner_81 : decode cX7_corner 81 = .ok (.getfield 25, 3) := by decide +kernel
theorem dX7_corner_84 : decode cX7_corner 84 = .ok (.invokevirtual 173, 3) := by decide +kernel
theorem dX7_corner_87 : decode cX7_corner 87 = .ok (.aload 4, 2) := by decide +kernel
theorem dX7_corner_89 : decode cX7_corner 89 = .ok (.dup, 1) := by decide +kernel
theorem dX7_corner_90 : decode cX7_corner 90 = .ok (.getfield 197, 3) := by decide +kernel
theorem dX7_corner_93 : decode cX7_corner 93 = .ok (.iload 5, 2) := by decide +kernel
theorem dX7_corner_95 : decode cX7_corner 95 = .ok (.isub, 1) := by decide +kernel
theorem dX7_corner_96 : decode cX7_corner 96 = .ok (.putfield 197, 3) := by decide +kernel
theorem dX7_corner_99 : decode cX7_corner 99 = .ok (.aload_n 3, 1) := by decide +kernel
theorem dX7_corner_100 : decode cX7_corner 100 = .ok (.dup, 1) := by decide +kernel
theorem dX7_corner_101 : decode cX7_corner 101 = .ok (.getfield 197, 3) := by decide +kernel
theorem dX7_corner_104 : decode cX7_corner 104 = .ok (.iload 5, 2) := by decide +kernel
theorem dX7_corner_106 : decode cX7_corner 106 = .ok (.iadd, 1) := by decide +kernel
theorem dX7_corner_107 : decode cX7_corner 107 = .ok (.putfield 197, 3) := by decide +kernel
theorem dX7_corner_110 : decode cX7_corner 110 = .ok (.iload 5, 2) := by decide +kernel
theorem dX7_corner_112 : decode cX7_corner 112 = .ok (.ireturn, 1) := by decide +kernel
theorem dX7_undo_0 : decode cX7_undo 0 = .ok (.aload_n 0, 1) := by decide +kernel
theorem dX7_undo_1 : decode cX7_undo 1 = .ok (.getfield 42, 3) := by decide +kernel
theorem dX7_undo_4 : decode cX7_undo 4 = .ok (.aload_n 0, 1) := by decide +kernel
theorem dX7_undo_5 : decode cX7_undo 5 = .ok (.getfield 25, 3) := by decide +kernel
theorem dX7_undo_8 : decode cX7_undo 8 = .ok (.invokevirtual 200, 3) := by decide +kernel
theorem dX7_undo_11 : decode cX7_undo 11 = .ok (.ifCond .eq 13, 3) := by decide +kernel
theorem dX7_undo_14 : decode cX7_undo 14 = .ok (.aload_n 0, 1) := by decide +kernel
theorem dX7_undo_15 : decode cX7_undo 15 = .ok (.getfield 42, 3) := by decide +kernel
theorem dX7_undo_18 : decode cX7_undo 18 = .ok (.getfield 155, 3) := by decide +kernel
theorem dX7_undo_21 : decode cX7_undo 21 = .ok (.goto 5, 3) := by decide +kernel
theorem dX7_undo_24 : decode cX7_undo 24 = .ok (.ldc 161, 2) := by decide +kernel
theorem dX7_undo_26 : decode cX7_undo 26 = .ok (.ireturn, 1) := by decide +kernel
theorem dX7_child_0 : decode cX7_child 0 = .ok (.aload_n 0, 1) := by decide +kernel
theorem dX7_child_1 : decode cX7_child 1 = .ok (.getfield 25, 3) := by decide +kernel
theorem dX7_child_4 : decode cX7_child 4 = .ok (.iload_n 1, 1) := by decide +kernel
theorem dX7_child_5 : decode cX7_child 5 = .ok (.invokevirtual 182, 3) := by decide +kernel
theorem dX7_child_8 : decode cX7_child 8 = .ok (.astore_n 3, 1) := by decide +kernel
theorem dX7_child_9 : decode cX7_child 9 = .ok (.aload_n 3, 1) := by decide +kernel
theorem dX7_child_10 : decode cX7_child 10 = .ok (.ifnonnull 6, 3) := by decide +kernel
theorem dX7_child_13 : decode cX7_child 13 = .ok (.ldc 78, 2) := by decide +kernel
theorem dX7_child_15 : decode cX7_child 15 = .ok (.ireturn, 1) := by decide +kernel
theorem dX7_child_16 : decode cX7_child 16 = .ok (.iload_n 2, 1) := by decide +kernel
theorem dX7_child_17 : decode cX7_child 17 = .ok (.tableswitch 42 0 2 #[27, 32, 37], 27) := by decide +kernel
theorem dX7_child_44 : decode cX7_child 44 = .ok (.aload_n 3, 1) := by decide +kernel
theorem dX7_child_45 : decode cX7_child 45 = .ok (.getfield 186, 3) := by decide +kernel
theorem dX7_child_48 : decode cX7_child 48 = .ok (.ireturn, 1) := by decide +kernel
theorem dX7_child_49 : decode cX7_child 49 = .ok (.aload_n 3, 1) := by decide +kernel
theorem dX7_child_50 : decode cX7_child 50 = .ok (.getfield 203, 3) := by decide +kernel
theorem dX7_child_53 : decode cX7_child 53 = .ok (.ireturn, 1) := by decide +kernel
theorem dX7_child_54 : decode cX7_child 54 = .ok (.aload_n 3, 1) := by decide +kernel
theorem dX7_child_55 : decode cX7_child 55 = .ok (.getfield 197, 3) := by decide +kernel
theorem dX7_child_58 : decode cX7_child 58 = .ok (.ireturn, 1) := by decide +kernel
theorem dX7_child_59 : decode cX7_child 59 = .ok (.ldc 78, 2) := by decide +kernel
theorem dX7_child_61 : decode cX7_child 61 = .ok (.ireturn, 1) := by decide +kernel
theorem dX7_cell_0 : decode cX7_cell 0 = .ok (.aload_n 0, 1) := by decide +kernel
theorem dX7_cell_1 : decode cX7_cell 1 = .ok (.getfield 25, 3) := by decide +kernel
theorem dX7_cell_4 : decode cX7_cell 4 = .ok (.getfield 147, 3) := by decide +kernel
theorem dX7_cell_7 : decode cX7_cell 7 = .ok (.ifCond .ne 6, 3) := by decide +kernel
theorem dX7_cell_10 : decode cX7_cell 10 = .ok (.ldc 161, 2) := by decide +kernel
theorem dX7_cell_12 : decode cX7_cell 12 = .ok (.ireturn, 1) := by decide +kernel
theorem dX7_cell_13 : decode cX7_cell 13 = .ok (.iload_n 1, 1) := by decide +kernel
theorem dX7_cell_14 : decode cX7_cell 14 = .ok (.invokestatic 162, 3) := by decide +kernel
theorem dX7_cell_17 : decode cX7_cell 17 = .ok (.ifCond .eq 10, 3) := by decide +kernel
theorem dX7_cell_20 : decode cX7_cell 20 = .ok (.iload_n 2, 1) := by decide +kernel
theorem dX7_cell_21 : decode cX7_cell 21 = .ok (.invokestatic 206, 3) := by decide +kernel
theorem dX7_cell_24 : decode cX7_cell 24 = .ok (.ifCond .ne 6, 3) := by decide +kernel
theorem dX7_cell_27 : decode cX7_cell 27 = .ok (.ldc 78, 2) := by decide +kernel
theorem dX7_cell_29 : decode cX7_cell 29 = .ok (.ireturn, 1) := by decide +kernel
theorem dX7_cell_30 : decode cX7_cell 30 = .ok (.iload_n 2, 1) := by decide +kernel
theorem dX7_cell_31 : decode cX7_cell 31 = .ok (.iconst 1, 1) := by decide +kernel
theorem dX7_cell_32 : decode cX7_cell 32 = .ok (.if_icmp .ne 20, 3) := by decide +kernel
theorem dX7_cell_35 : decode cX7_cell 35 = .ok (.aload_n 0, 1) := by decide +kernel
theorem dX7_cell_36 : decode cX7_cell 36 = .ok (.getfield 25, 3) := by decide +kernel
theorem dX7_cell_39 : decode cX7_cell 39 = .ok (.iload_n 1, 1) := by decide +kernel
theorem dX7_cell_40 : decode cX7_cell 40 = .ok (.invokevirtual 209, 3) := by decide +kernel
theorem dX7_cell_43 : decode cX7_cell 43 = .ok (.ifCond .eq 7, 3) := by decide +kernel
theorem dX7_cell_46 : decode cX7_cell 46 = .ok (.iconst 0, 1) := by decide +kernel
theorem dX7_cell_47 : decode cX7_cell 47 = .ok (.goto 4, 3) := by decide +kernel
theorem dX7_cell_50 : decode cX7_cell 50 = .ok (.iconst 1, 1) := by decide +kernel
theorem dX7_cell_51 : decode cX7_cell 51 = .ok (.ireturn, 1) := by decide +kernel
theorem dX7_cell_52 : decode cX7_cell 52 = .ok (.aload_n 0, 1) := by decide +kernel
theorem dX7_cell_53 : decode cX7_cell 53 = .ok (.getfield 25, 3) := by decide +kernel
theorem dX7_cell_56 : decode cX7_cell 56 = .ok (.iload_n 1, 1) := by decide +kernel
theorem dX7_cell_57 : decode cX7_cell 57 = .ok (.invokevirtual 212, 3) := by decide +kernel
theorem dX7_cell_60 : decode cX7_cell 60 = .ok (.istore_n 3, 1) := by decide +kernel
theorem dX7_cell_61 : decode cX7_cell 61 = .ok (.iload_n 3, 1) := by decide +kernel
theorem dX7_cell_62 : decode cX7_cell 62 = .ok (.iconst (-1), 1) := by decide +kernel
theorem dX7_cell_63 : decode cX7_cell 63 = .ok (.if_icmp .ne 8, 3) := by decide +kernel
theorem dX7_cell_66 : decode cX7_cell 66 = .ok (.ldc 215, 2) := by decide +kernel
theorem dX7_cell_68 : decode cX7_cell 68 = .ok (.goto 4, 3) := by decide +kernel
theorem dX7_cell_71 : decode cX7_cell 71 = .ok (.iload_n 3, 1) := by decide +kernel
theorem dX7_cell_72 : decode cX7_cell 72 = .ok (.ireturn, 1) := by decide +kernel
theorem dX7_power_0 : decode cX7_power 0 = .ok (.aload_n 0, 1) := by decide +kernel
theorem dX7_power_1 : decode cX7_power 1 = .ok (.getfield 25, 3) := by decide +kernel
theorem dX7_power_4 : decode cX7_power 4 = .ok (.iload_n 1, 1) := by decide +kernel
theorem dX7_power_5 : decode cX7_power 5 = .ok (.invokevirtual 182, 3) := by decide +kernel
theorem dX7_power_8 : decode cX7_power 8 = .ok (.astore_n 3, 1) := by decide +kernel
theorem dX7_power_9 : decode cX7_power 9 = .ok (.aload_n 3, 1) := by decide +kernel
theorem dX7_power_10 : decode cX7_power 10 = .ok (.ifnull 10, 3) := by decide +kernel
theorem dX7_power_13 : decode cX7_power 13 = .ok (.iload_n 2, 1) := by decide +kernel
theorem dX7_power_14 : decode cX7_power 14 = .ok (.invokestatic 162, 3) := by decide +kernel
theorem dX7_power_17 : decode cX7_power 17 = .ok (.ifCond .ne 6, 3) := by decide +kernel
theorem dX7_power_20 : decode cX7_power 20 = .ok (.ldc 78, 2) := by decide +kernel
theorem dX7_power_22 : decode cX7_power 22 = .ok (.ireturn, 1) := by decide +kernel
theorem dX7_power_23 : decode cX7_power 23 = .ok (.aload_n 3, 1) := by decide +kernel
theorem dX7_power_24 : decode cX7_power 24 = .ok (.aload_n 3, 1) := by decide +kernel
theorem dX7_power_25 : decode cX7_power 25 = .ok (.getfield 186, 3) := by decide +kernel
theorem dX7_power_28 : decode cX7_power 28 = .ok (.iload_n 2, 1) := by decide +kernel
theorem dX7_power_29 : decode cX7_power 29 = .ok (.invokestatic 191, 3) := by decide +kernel
theorem dX7_power_32 : decode cX7_power 32 = .ok (.aload_n 0, 1) := by decide +kernel
theorem dX7_power_33 : decode cX7_power 33 = .ok (.getfield 25, 3) := by decide +kernel
theorem dX7_power_36 : decode cX7_power 36 = .ok (.getfield 216, 3) := by decide +kernel
theorem dX7_power_39 : decode cX7_power 39 = .ok (.invokevirtual 219, 3) := by decide +kernel
theorem dX7_power_42 : decode cX7_power 42 = .ok (.ireturn, 1) := by decide +kernel
theorem dX7_mean_0 : decode cX7_mean 0 = .ok (.aload_n 0, 1) := by decide +kernel
theorem dX7_mean_1 : decode cX7_mean 1 = .ok (.getfield 25, 3) := by decide +kernel
theorem dX7_mean_4 : decode cX7_mean 4 = .ok (.iload_n 1, 1) := by decide +kernel
theorem dX7_mean_5 : decode cX7_mean 5 = .ok (.invokevirtual 182, 3) := by decide +kernel
theorem dX7_mean_8 : decode cX7_mean 8 = .ok (.ifnull 25, 3) := by decide +kernel
theorem dX7_mean_11 : decode cX7_mean 11 = .ok (.iload_n 2, 1) := by decide +kernel
theorem dX7_mean_12 : decode cX7_mean 12 = .ok (.invokestatic 162, 3) := by decide +kernel
theorem dX7_mean_15 : decode cX7_mean 15 = .ok (.ifCond .eq 18, 3) := by decide +kernel
theorem dX7_mean_18 : decode cX7_mean 18 = .ok (.iload_n 3, 1) := by decide +kernel
theorem dX7_mean_19 : decode cX7_mean 19 = .ok (.invokestatic 165, 3) := by decide +kernel
theorem dX7_mean_22 : decode cX7_mean 22 = .ok (.ifCond .eq 11, 3) := by decide +kernel
theorem dX7_mean_25 : decode cX7_mean 25 = .ok (.iload 4, 2) := by decide +kernel
theorem dX7_mean_27 : decode cX7_mean 27 = .ok (.invokestatic 206, 3) := by decide +kernel
theorem dX7_mean_30 : decode cX7_mean 30 = .ok (.ifCond .ne 6, 3) := by decide +kernel
theorem dX7_mean_33 : decode cX7_mean 33 = .ok (.ldc 78, 2) := by decide +kernel
theorem dX7_mean_35 : decode cX7_mean 35 = .ok (.ireturn, 1) := by decide +kernel
theorem dX7_mean_36 : decode cX7_mean 36 = .ok (.aload_n 0, 1) := by decide +kernel
theorem dX7_mean_37 : decode cX7_mean 37 = .ok (.getfield 49, 3) := by decide +kernel
theorem dX7_mean_40 : decode cX7_mean 40 = .ok (.iload_n 2, 1) := by decide +kernel
theorem dX7_mean_41 : decode cX7_mean 41 = .ok (.iload_n 3, 1) := by decide +kernel
theorem dX7_mean_42 : decode cX7_mean 42 = .ok (.invokevirtual 176, 3) := by decide +kernel
theorem dX7_mean_45 : decode cX7_mean 45 = .ok (.aload_n 0, 1) := by decide +kernel
theorem dX7_mean_46 : decode cX7_mean 46 = .ok (.getfield 49, 3) := by decide +kernel
theorem dX7_mean_49 : decode cX7_mean 49 = .ok (.aload_n 0, 1) := by decide +kernel
theorem dX7_mean_50 : decode cX7_mean 50 = .ok (.getfield 25, 3) := by decide +kernel
theorem dX7_mean_53 : decode cX7_mean 53 = .ok (.iload_n 1, 1) := by decide +kernel
theorem dX7_mean_54 : decode cX7_mean 54 = .ok (.invokevirtual 222, 3) := by decide +kernel
theorem dX7_mean_57 : decode cX7_mean 57 = .ok (.aload_n 0, 1) := by decide +kernel
theorem dX7_mean_58 : decode cX7_mean 58 = .ok (.getfield 49, 3) := by decide +kernel
theorem dX7_mean_61 : decode cX7_mean 61 = .ok (.getfield 226, 3) := by decide +kernel
theorem dX7_mean_64 : decode cX7_mean 64 = .ok (.iload 4, 2) := by decide +kernel
theorem dX7_mean_66 : decode cX7_mean 66 = .ok (.invokestatic 227, 3) := by decide +kernel
theorem dX7_mean_69 : decode cX7_mean 69 = .ok (.ireturn, 1) := by decide +kernel
theorem dX7_some_0 : decode cX7_some 0 = .ok (.aload_n 0, 1) := by decide +kernel
theorem dX7_some_1 : decode cX7_some 1 = .ok (.getfield 25, 3) := by decide +kernel
theorem dX7_some_4 : decode cX7_some 4 = .ok (.iload_n 1, 1) := by decide +kernel
theorem dX7_some_5 : decode cX7_some 5 = .ok (.invokevirtual 182, 3) := by decide +kernel
theorem dX7_some_8 : decode cX7_some 8 = .ok (.ifnull 37, 3) := by decide +kernel
theorem dX7_some_11 : decode cX7_some 11 = .ok (.iload_n 2, 1) := by decide +kernel
theorem dX7_some_12 : decode cX7_some 12 = .ok (.invokestatic 162, 3) := by decide +kernel
theorem dX7_some_15 : decode cX7_some 15 = .ok (.ifCond .eq 30, 3) := by decide +kernel
theorem dX7_some_18 : decode cX7_some 18 = .ok (.iload_n 3, 1) := by decide +kernel
theorem dX7_some_19 : decode cX7_some 19 = .ok (.invokestatic 165, 3) := by decide +kernel
theorem dX7_some_22 : decode cX7_some 22 = .ok (.ifCond .eq 23, 3) := by decide +kernel
theorem dX7_some_25 : decode cX7_some 25 = .ok (.iload 4, 2) := by decide +kernel
theorem dX7_some_27 : decode cX7_some 27 = .ok (.ifCond .lt 18, 3) := by decide +kernel
theorem dX7_some_30 : decode cX7_some 30 = .ok (.iload 4, 2) := by decide +kernel
theorem dX7_some_32 : decode cX7_some 32 = .ok (.bipush 6, 2) := by decide +kernel
theorem dX7_some_34 : decode cX7_some 34 = .ok (.if_icmp .gt 11, 3) := by decide +kernel
theorem dX7_some_37 : decode cX7_some 37 = .ok (.iload 5, 2) := by decide +kernel
theorem dX7_some_39 : decode cX7_some 39 = .ok (.invokestatic 206, 3) := by decide +kernel
theorem dX7_some_42 : decode cX7_some 42 = .ok (.ifCond .ne 6, 3) := by decide +kernel
theorem dX7_some_45 : decode cX7_some 45 = .ok (.ldc 78, 2) := by decide +kernel
theorem dX7_some_47 : decode cX7_some 47 = .ok (.ireturn, 1) := by decide +kernel
theorem dX7_some_48 : decode cX7_some 48 = .ok (.aload_n 0, 1) := by decide +kernel
theorem dX7_some_49 : decode cX7_some 49 = .ok (.getfield 49, 3) := by decide +kernel
theorem dX7_some_52 : decode cX7_some 52 = .ok (.iload_n 2, 1) := by decide +kernel
theorem dX7_some_53 : decode cX7_some 53 = .ok (.iload_n 3, 1) := by decide +kernel
theorem dX7_some_54 : decode cX7_some 54 = .ok (.invokevirtual 176, 3) := by decide +kernel
theorem dX7_some_57 : decode cX7_some 57 = .ok (.aload_n 0, 1) := by decide +kernel
theorem dX7_some_58 : decode cX7_some 58 = .ok (.getfield 49, 3) := by decide +kernel
theorem dX7_some_61 : decode cX7_some 61 = .ok (.getfield 226, 3) := by decide +kernel
theorem dX7_some_64 : decode cX7_some 64 = .ok (.istore 6, 2) := by decide +kernel
theorem dX7_some_66 : decode cX7_some 66 = .ok (.iload 6, 2) := by decide +kernel
theorem dX7_some_68 : decode cX7_some 68 = .ok (.aload_n 0, 1) := by decide +kernel
theorem dX7_some_69 : decode cX7_some 69 = .ok (.getfield 49, 3) := by decide +kernel
theorem dX7_some_72 : decode cX7_some 72 = .ok (.aload_n 0, 1) := by decide +kernel
theorem dX7_some_73 : decode cX7_some 73 = .ok (.getfield 25, 3) := by decide +kernel
theorem dX7_some_76 : decode cX7_some 76 = .ok (.iload_n 1, 1) := by decide +kernel
theorem dX7_some_77 : decode cX7_some 77 = .ok (.invokevirtual 222, 3) := by decide +kernel
theorem dX7_some_80 : decode cX7_some 80 = .ok (.isub, 1) := by decide +kernel
theorem dX7_some_81 : decode cX7_some 81 = .ok (.istore 7, 2) := by decide +kernel
theorem dX7_some_83 : decode cX7_some 83 = .ok (.iconst 1, 1) := by decide +kernel
theorem dX7_some_84 : decode cX7_some 84 = .ok (.istore 8, 2) := by decide +kernel
theorem dX7_some_86 : decode cX7_some 86 = .ok (.iconst 1, 1) := by decide +kernel
theorem dX7_some_87 : decode cX7_some 87 = .ok (.istore 9, 2) := by decide +kernel
theorem dX7_some_89 : decode cX7_some 89 = .ok (.iconst 0, 1) := by decide +kernel
theorem dX7_some_90 : decode cX7_some 90 = .ok (.istore 10, 2) := by decide +kernel
theorem dX7_some_92 : decode cX7_some 92 = .ok (.iload 10, 2) := by decide +kernel
theorem dX7_some_94 : decode cX7_some 94 = .ok (.iload 4, 2) := by decide +kernel
theorem dX7_some_96 : decode cX7_some 96 = .ok (.if_icmp .ge 23, 3) := by decide +kernel
theorem dX7_some_99 : decode cX7_some 99 = .ok (.iload 8, 2) := by decide +kernel
theorem dX7_some_101 : decode cX7_some 101 = .ok (.iload 6, 2) := by decide +kernel
theorem dX7_some_103 : decode cX7_some 103 = .ok (.imul, 1) := by decide +kernel
theorem dX7_some_104 : decode cX7_some 104 = .ok (.istore 8, 2) := by decide +kernel
theorem dX7_some_106 : decode cX7_some 106 = .ok (.iload 9, 2) := by decide +kernel
theorem dX7_some_108 : decode cX7_some 108 = .ok (.iload 7, 2) := by decide +kernel
theorem dX7_some_110 : decode cX7_some 110 = .ok (.imul, 1) := by decide +kernel
theorem dX7_some_111 : decode cX7_some 111 = .ok (.istore 9, 2) := by decide +kernel
theorem dX7_some_113 : decode cX7_some 113 = .ok (.iinc 10 1, 3) := by decide +kernel
theorem dX7_some_116 : decode cX7_some 116 = .ok (.goto (-24), 3) := by decide +kernel
theorem dX7_some_119 : decode cX7_some 119 = .ok (.iload 8, 2) := by decide +kernel
theorem dX7_some_121 : decode cX7_some 121 = .ok (.iload 9, 2) := by decide +kernel
theorem dX7_some_123 : decode cX7_some 123 = .ok (.isub, 1) := by decide +kernel
theorem dX7_some_124 : decode cX7_some 124 = .ok (.iload 8, 2) := by decide +kernel
theorem dX7_some_126 : decode cX7_some 126 = .ok (.iload 5, 2) := by decide +kernel
theorem dX7_some_128 : decode cX7_some 128 = .ok (.invokestatic 227, 3) := by decide +kernel
theorem dX7_some_131 : decode cX7_some 131 = .ok (.ireturn, 1) := by decide +kernel
theorem dX7_stand_0 : decode cX7_stand 0 = .ok (.aload_n 0, 1) := by decide +kernel
theorem dX7_stand_1 : decode cX7_stand 1 = .ok (.getfield 25, 3) := by decide +kernel
theorem dX7_stand_4 : decode cX7_stand 4 = .ok (.iload_n 1, 1) := by decide +kernel
theorem dX7_stand_5 : decode cX7_stand 5 = .ok (.invokevirtual 182, 3) := by decide +kernel
theorem dX7_stand_8 : decode cX7_stand 8 = .ok (.ifnull 17, 3) := by decide +kernel
theorem dX7_stand_11 : decode cX7_stand 11 = .ok (.iload_n 2, 1) := by decide +kernel
theorem dX7_stand_12 : decode cX7_stand 12 = .ok (.invokestatic 162, 3) := by decide +kernel
theorem dX7_stand_15 : decode cX7_stand 15 = .ok (.ifCond .eq 10, 3) := by decide +kernel
theorem dX7_stand_18 : decode cX7_stand 18 = .ok (.iload_n 3, 1) := by decide +kernel
theorem dX7_stand_19 : decode cX7_stand 19 = .ok (.invokestatic 165, 3) := by decide +kernel
theorem dX7_stand_22 : decode cX7_stand 22 = .ok (.ifCond .ne 6, 3) := by decide +kernel
theorem dX7_stand_25 : decode cX7_stand 25 = .ok (.ldc 78, 2) := by decide +kernel
theorem dX7_stand_27 : decode cX7_stand 27 = .ok (.ireturn, 1) := by decide +kernel
theorem dX7_stand_28 : decode cX7_stand 28 = .ok (.aload_n 0, 1) := by decide +kernel
theorem dX7_stand_29 : decode cX7_stand 29 = .ok (.getfield 49, 3) := by decide +kernel
theorem dX7_stand_32 : decode cX7_stand 32 = .ok (.iload_n 2, 1) := by decide +kernel
theorem dX7_stand_33 : decode cX7_stand 33 = .ok (.iload_n 3, 1) := by decide +kernel
theorem dX7_stand_34 : decode cX7_stand 34 = .ok (.invokevirtual 176, 3) := by decide +kernel
theorem dX7_stand_37 : decode cX7_stand 37 = .ok (.aload_n 0, 1) := by decide +kernel
theorem dX7_stand_38 : decode cX7_stand 38 = .ok (.aload_n 0, 1) := by decide +kernel
theorem dX7_stand_39 : decode cX7_stand 39 = .ok (.getfield 25, 3) := by decide +kernel
theorem dX7_stand_42 : decode cX7_stand 42 = .ok (.iload_n 1, 1) := by decide +kernel
theorem dX7_stand_43 : decode cX7_stand 43 = .ok (.invokevirtual 231, 3) := by decide +kernel
theorem dX7_stand_46 : decode cX7_stand 46 = .ok (.ireturn, 1) := by decide +kernel
theorem dX7_brothers_0 : decode cX7_brothers 0 = .ok (.aload_n 0, 1) := by decide +kernel
theorem dX7_brothers_1 : decode cX7_brothers 1 = .ok (.getfield 25, 3) := by decide +kernel
theorem dX7_brothers_4 : decode cX7_brothers 4 = .ok (.iload_n 1, 1) := by decide +kernel
theorem dX7_brothers_5 : decode cX7_brothers 5 = .ok (.invokevirtual 182, 3) := by decide +kernel
theorem dX7_brothers_8 : decode cX7_brothers 8 = .ok (.ifnull 23, 3) := by decide +kernel
theorem dX7_brothers_11 : decode cX7_brothers 11 = .ok (.aload_n 0, 1) := by decide +kernel
theorem dX7_brothers_12 : decode cX7_brothers 12 = .ok (.getfield 25, 3) := by decide +kernel
theorem dX7_brothers_15 : decode cX7_brothers 15 = .ok (.iload_n 2, 1) := by decide +kernel
theorem dX7_brothers_16 : decode cX7_brothers 16 = .ok (.invokevirtual 182, 3) := by decide +kernel
theorem dX7_brothers_19 : decode cX7_brothers 19 = .ok (.ifnull 12, 3) := by decide +kernel
theorem dX7_brothers_22 : decode cX7_brothers 22 = .ok (.iload_n 1, 1) := by decide +kernel
theorem dX7_brothers_23 : decode cX7_brothers 23 = .ok (.iload_n 2, 1) := by decide +kernel
theorem dX7_brothers_24 : decode cX7_brothers 24 = .ok (.if_icmp .eq 7, 3) := by decide +kernel
theorem dX7_brothers_27 : decode cX7_brothers 27 = .ok (.iconst 1, 1) := by decide +kernel
theorem dX7_brothers_28 : decode cX7_brothers 28 = .ok (.goto 4, 3) := by decide +kernel
theorem dX7_brothers_31 : decode cX7_brothers 31 = .ok (.iconst 0, 1) := by decide +kernel
theorem dX7_brothers_32 : decode cX7_brothers 32 = .ok (.istore 6, 2) := by decide +kernel
theorem dX7_brothers_34 : decode cX7_brothers 34 = .ok (.iload 6, 2) := by decide +kernel
theorem dX7_brothers_36 : decode cX7_brothers 36 = .ok (.ifCond .eq 26, 3) := by decide +kernel
theorem dX7_brothers_39 : decode cX7_brothers 39 = .ok (.iload_n 3, 1) := by decide +kernel
theorem dX7_brothers_40 : decode cX7_brothers 40 = .ok (.invokestatic 162, 3) := by decide +kernel
theorem dX7_brothers_43 : decode cX7_brothers 43 = .ok (.ifCond .eq 19, 3) := by decide +kernel
theorem dX7_brothers_46 : decode cX7_brothers 46 = .ok (.iload 4, 2) := by decide +kernel
theorem dX7_brothers_48 : decode cX7_brothers 48 = .ok (.invokestatic 165, 3) := by decide +kernel
theorem dX7_brothers_51 : decode cX7_brothers 51 = .ok (.ifCond .eq 11, 3) := by decide +kernel
theorem dX7_brothers_54 : decode cX7_brothers 54 = .ok (.iload 5, 2) := by decide +kernel
theorem dX7_brothers_56 : decode cX7_brothers 56 = .ok (.invokestatic 206, 3) := by decide +kernel
theorem dX7_brothers_59 : decode cX7_brothers 59 = .ok (.ifCond .ne 6, 3) := by decide +kernel
theorem dX7_brothers_62 : decode cX7_brothers 62 = .ok (.ldc 78, 2) := by decide +kernel
theorem dX7_brothers_64 : decode cX7_brothers 64 = .ok (.ireturn, 1) := by decide +kernel
theorem dX7_brothers_65 : decode cX7_brothers 65 = .ok (.aload_n 0, 1) := by decide +kernel
theorem dX7_brothers_66 : decode cX7_brothers 66 = .ok (.getfield 49, 3) := by decide +kernel
theorem dX7_brothers_69 : decode cX7_brothers 69 = .ok (.iload_n 3, 1) := by decide +kernel
theorem dX7_brothers_70 : decode cX7_brothers 70 = .ok (.iload 4, 2) := by decide +kernel
theorem dX7_brothers_72 : decode cX7_brothers 72 = .ok (.invokevirtual 176, 3) := by decide +kernel
theorem dX7_brothers_75 : decode cX7_brothers 75 = .ok (.aload_n 0, 1) := by decide +kernel
theorem dX7_brothers_76 : decode cX7_brothers 76 = .ok (.getfield 49, 3) := by decide +kernel
theorem dX7_brothers_79 : decode cX7_brothers 79 = .ok (.aload_n 0, 1) := by decide +kernel
theorem dX7_brothers_80 : decode cX7_brothers 80 = .ok (.getfield 25, 3) := by decide +kernel
theorem dX7_brothers_83 : decode cX7_brothers 83 = .ok (.iload_n 1, 1) := by decide +kernel
theorem dX7_brothers_84 : decode cX7_brothers 84 = .ok (.iload_n 2, 1) := by decide +kernel
theorem dX7_brothers_85 : decode cX7_brothers 85 = .ok (.aload_n 0, 1) := by decide +kernel
theorem dX7_brothers_86 : decode cX7_brothers 86 = .ok (.getfield 53, 3) := by decide +kernel
theorem dX7_brothers_89 : decode cX7_brothers 89 = .ok (.invokevirtual 234, 3) := by decide +kernel
theorem dX7_brothers_92 : decode cX7_brothers 92 = .ok (.aload_n 0, 1) := by decide +kernel
theorem dX7_brothers_93 : decode cX7_brothers 93 = .ok (.getfield 49, 3) := by decide +kernel
theorem dX7_brothers_96 : decode cX7_brothers 96 = .ok (.aload_n 0, 1) := by decide +kernel
theorem dX7_brothers_97 : decode cX7_brothers 97 = .ok (.getfield 25, 3) := by decide +kernel
theorem dX7_brothers_100 : decode cX7_brothers 100 = .ok (.iload_n 2, 1) := by decide +kernel
theorem dX7_brothers_101 : decode cX7_brothers 101 = .ok (.iload_n 1, 1) := by decide +kernel
theorem dX7_brothers_102 : decode cX7_brothers 102 = .ok (.aload_n 0, 1) := by decide +kernel
theorem dX7_brothers_103 : decode cX7_brothers 103 = .ok (.getfield 57, 3) := by decide +kernel
theorem dX7_brothers_106 : decode cX7_brothers 106 = .ok (.invokevirtual 234, 3) := by decide +kernel
theorem dX7_brothers_109 : decode cX7_brothers 109 = .ok (.aload_n 0, 1) := by decide +kernel
theorem dX7_brothers_110 : decode cX7_brothers 110 = .ok (.invokevirtual 238, 3) := by decide +kernel
theorem dX7_brothers_113 : decode cX7_brothers 113 = .ok (.istore 7, 2) := by decide +kernel
theorem dX7_brothers_115 : decode cX7_brothers 115 = .ok (.iload 5, 2) := by decide +kernel
theorem dX7_brothers_117 : decode cX7_brothers 117 = .ok (.ifCond .ne 11, 3) := by decide +kernel
theorem dX7_brothers_120 : decode cX7_brothers 120 = .ok (.iload 7, 2) := by decide +kernel
theorem dX7_brothers_122 : decode cX7_brothers 122 = .ok (.bipush 30, 2) := by decide +kernel
theorem dX7_brothers_124 : decode cX7_brothers 124 = .ok (.idiv, 1) := by decide +kernel
theorem dX7_brothers_125 : decode cX7_brothers 125 = .ok (.goto 8, 3) := by decide +kernel
theorem dX7_brothers_128 : decode cX7_brothers 128 = .ok (.iload 7, 2) := by decide +kernel
theorem dX7_brothers_130 : decode cX7_brothers 130 = .ok (.bipush 30, 2) := by decide +kernel
theorem dX7_brothers_132 : decode cX7_brothers 132 = .ok (.irem, 1) := by decide +kernel
theorem dX7_brothers_133 : decode cX7_brothers 133 = .ok (.ireturn, 1) := by decide +kernel
theorem dX7_rounds_0 : decode cX7_rounds 0 = .ok (.aload_n 0, 1) := by decide +kernel
theorem dX7_rounds_1 : decode cX7_rounds 1 = .ok (.getfield 25, 3) := by decide +kernel
theorem dX7_rounds_4 : decode cX7_rounds 4 = .ok (.getfield 147, 3) := by decide +kernel
theorem dX7_rounds_7 : decode cX7_rounds 7 = .ok (.ifCond .ne 6, 3) := by decide +kernel
theorem dX7_rounds_10 : decode cX7_rounds 10 = .ok (.ldc 161, 2) := by decide +kernel
theorem dX7_rounds_12 : decode cX7_rounds 12 = .ok (.ireturn, 1) := by decide +kernel
theorem dX7_rounds_13 : decode cX7_rounds 13 = .ok (.iload_n 1, 1) := by decide +kernel
theorem dX7_rounds_14 : decode cX7_rounds 14 = .ok (.invokestatic 162, 3) := by decide +kernel
theorem dX7_rounds_17 : decode cX7_rounds 17 = .ok (.ifCond .eq 26, 3) := by decide +kernel
theorem dX7_rounds_20 : decode cX7_rounds 20 = .ok (.iload_n 2, 1) := by decide +kernel
theorem dX7_rounds_21 : decode cX7_rounds 21 = .ok (.invokestatic 165, 3) := by decide +kernel
theorem dX7_rounds_24 : decode cX7_rounds 24 = .ok (.ifCond .eq 19, 3) := by decide +kernel
theorem dX7_rounds_27 : decode cX7_rounds 27 = .ok (.iload_n 3, 1) := by decide +kernel
theorem dX7_rounds_28 : decode cX7_rounds 28 = .ok (.iconst (-1), 1) := by decide +kernel
theorem dX7_rounds_29 : decode cX7_rounds 29 = .ok (.if_icmp .eq 17, 3) := by decide +kernel
theorem dX7_rounds_32 : decode cX7_rounds 32 = .ok (.aload_n 0, 1) := by decide +kernel
theorem dX7_rounds_33 : decode cX7_rounds 33 = .ok (.getfield 25, 3) := by decide +kernel
theorem dX7_rounds_36 : decode cX7_rounds 36 = .ok (.iload_n 3, 1) := by decide +kernel
theorem dX7_rounds_37 : decode cX7_rounds 37 = .ok (.invokevirtual 182, 3) := by decide +kernel
theorem dX7_rounds_40 : decode cX7_rounds 40 = .ok (.ifnonnull 6, 3) := by decide +kernel
theorem dX7_rounds_43 : decode cX7_rounds 43 = .ok (.ldc 78, 2) := by decide +kernel
theorem dX7_rounds_45 : decode cX7_rounds 45 = .ok (.ireturn, 1) := by decide +kernel
theorem dX7_rounds_46 : decode cX7_rounds 46 = .ok (.aload_n 0, 1) := by decide +kernel
theorem dX7_rounds_47 : decode cX7_rounds 47 = .ok (.getfield 32, 3) := by decide +kernel
theorem dX7_rounds_50 : decode cX7_rounds 50 = .ok (.aload_n 0, 1) := by decide +kernel
theorem dX7_rounds_51 : decode cX7_rounds 51 = .ok (.getfield 25, 3) := by decide +kernel
theorem dX7_rounds_54 : decode cX7_rounds 54 = .ok (.invokevirtual 151, 3) := by decide +kernel
theorem dX7_rounds_57 : decode cX7_rounds 57 = .ok (.aload_n 0, 1) := by decide +kernel
theorem dX7_rounds_58 : decode cX7_rounds 58 = .ok (.getfield 49, 3) := by decide +kernel
theorem dX7_rounds_61 : decode cX7_rounds 61 = .ok (.iload_n 1, 1) := by decide +kernel
theorem dX7_rounds_62 : decode cX7_rounds 62 = .ok (.iload_n 2, 1) := by decide +kernel
theorem dX7_rounds_63 : decode cX7_rounds 63 = .ok (.invokevirtual 176, 3) := by decide +kernel
theorem dX7_rounds_66 : decode cX7_rounds 66 = .ok (.aload_n 0, 1) := by decide +kernel
theorem dX7_rounds_67 : decode cX7_rounds 67 = .ok (.invokevirtual 241, 3) := by decide +kernel
theorem dX7_rounds_70 : decode cX7_rounds 70 = .ok (.istore 4, 2) := by decide +kernel
theorem dX7_rounds_72 : decode cX7_rounds 72 = .ok (.aload_n 0, 1) := by decide +kernel
theorem dX7_rounds_73 : decode cX7_rounds 73 = .ok (.getfield 32, 3) := by decide +kernel
theorem dX7_rounds_76 : decode cX7_rounds 76 = .ok (.iload_n 3, 1) := by decide +kernel
theorem dX7_rounds_77 : decode cX7_rounds 77 = .ok (.invokevirtual 182, 3) := by decide +kernel
theorem dX7_rounds_80 : decode cX7_rounds 80 = .ok (.astore 5, 2) := by decide +kernel
theorem dX7_rounds_82 : decode cX7_rounds 82 = .ok (.iload 4, 2) := by decide +kernel
theorem dX7_rounds_84 : decode cX7_rounds 84 = .ok (.ldc 215, 2) := by decide +kernel
theorem dX7_rounds_86 : decode cX7_rounds 86 = .ok (.if_icmp .eq 8, 3) := by decide +kernel
theorem dX7_rounds_89 : decode cX7_rounds 89 = .ok (.aload 5, 2) := by decide +kernel
theorem dX7_rounds_91 : decode cX7_rounds 91 = .ok (.ifnonnull 8, 3) := by decide +kernel
theorem dX7_rounds_94 : decode cX7_rounds 94 = .ok (.iload 4, 2) := by decide +kernel
theorem dX7_rounds_96 : decode cX7_rounds 96 = .ok (.goto 8, 3) := by decide +kernel
theorem dX7_rounds_99 : decode cX7_rounds 99 = .ok (.aload 5, 2) := by decide +kernel
theorem dX7_rounds_101 : decode cX7_rounds 101 = .ok (.getfield 186, 3) := by decide +kernel
theorem dX7_rounds_104 : decode cX7_rounds 104 = .ok (.ireturn, 1) := by decide +kernel
theorem dX7_aim_0 : decode cX7_aim 0 = .ok (.aload_n 0, 1) := by decide +kernel
theorem dX7_aim_1 : decode cX7_aim 1 = .ok (.getfield 25, 3) := by decide +kernel
theorem dX7_aim_4 : decode cX7_aim 4 = .ok (.getfield 147, 3) := by decide +kernel
theorem dX7_aim_7 : decode cX7_aim 7 = .ok (.ifCond .ne 6, 3) := by decide +kernel
theorem dX7_aim_10 : decode cX7_aim 10 = .ok (.ldc 161, 2) := by decide +kernel
theorem dX7_aim_12 : decode cX7_aim 12 = .ok (.ireturn, 1) := by decide +kernel
theorem dX7_aim_13 : decode cX7_aim 13 = .ok (.iload_n 1, 1) := by decide +kernel
theorem dX7_aim_14 : decode cX7_aim 14 = .ok (.invokestatic 165, 3) := by decide +kernel
theorem dX7_aim_17 : decode cX7_aim 17 = .ok (.ifCond .eq 10, 3) := by decide +kernel
theorem dX7_aim_20 : decode cX7_aim 20 = .ok (.iload_n 2, 1) := by decide +kernel
theorem dX7_aim_21 : decode cX7_aim 21 = .ok (.invokestatic 206, 3) := by decide +kernel
theorem dX7_aim_24 : decode cX7_aim 24 = .ok (.ifCond .ne 6, 3) := by decide +kernel
theorem dX7_aim_27 : decode cX7_aim 27 = .ok (.ldc 78, 2) := by decide +kernel
theorem dX7_aim_29 : decode cX7_aim 29 = .ok (.ireturn, 1) := by decide +kernel
theorem dX7_aim_30 : decode cX7_aim 30 = .ok (.aload_n 0, 1) := by decide +kernel
theorem dX7_aim_31 : decode cX7_aim 31 = .ok (.iload_n 1, 1) := by decide +kernel
theorem dX7_aim_32 : decode cX7_aim 32 = .ok (.invokevirtual 244, 3) := by decide +kernel
theorem dX7_aim_35 : decode cX7_aim 35 = .ok (.aload_n 0, 1) := by decide +kernel
theorem dX7_aim_36 : decode cX7_aim 36 = .ok (.getfield 60, 3) := by decide +kernel
theorem dX7_aim_39 : decode cX7_aim 39 = .ok (.invokestatic 247, 3) := by decide +kernel
theorem dX7_aim_42 : decode cX7_aim 42 = .ok (.istore_n 3, 1) := by decide +kernel
theorem dX7_aim_43 : decode cX7_aim 43 = .ok (.aload_n 0, 1) := by decide +kernel
theorem dX7_aim_44 : decode cX7_aim 44 = .ok (.getfield 49, 3) := by decide +kernel
theorem dX7_aim_47 : decode cX7_aim 47 = .ok (.iload_n 3, 1) := by decide +kernel
theorem dX7_aim_48 : decode cX7_aim 48 = .ok (.iload_n 1, 1) := by decide +kernel
theorem dX7_aim_49 : decode cX7_aim 49 = .ok (.invokevirtual 176, 3) := by decide +kernel
theorem dX7_aim_52 : decode cX7_aim 52 = .ok (.iload_n 2, 1) := by decide +kernel
theorem dX7_aim_53 : decode cX7_aim 53 = .ok (.ifCond .ne 7, 3) := by decide +kernel
theorem dX7_aim_56 : decode cX7_aim 56 = .ok (.iload_n 3, 1) := by decide +kernel
theorem dX7_aim_57 : decode cX7_aim 57 = .ok (.goto 17, 3) := by decide +kernel
theorem dX7_aim_60 : decode cX7_aim 60 = .ok (.aload_n 0, 1) := by decide +kernel
theorem dX7_aim_61 : decode cX7_aim 61 = .ok (.getfield 49, 3) := by decide +kernel
theorem dX7_aim_64 : decode cX7_aim 64 = .ok (.aload_n 0, 1) := by decide +kernel
theorem dX7_aim_65 : decode cX7_aim 65 = .ok (.getfield 25, 3) := by decide +kernel
theorem dX7_aim_68 : decode cX7_aim 68 = .ok (.invokevirtual 251, 3) := by decide +kernel
theorem dX7_aim_71 : decode cX7_aim 71 = .ok (.invokestatic 255, 3) := by decide +kernel
theorem dX7_aim_74 : decode cX7_aim 74 = .ok (.ireturn, 1) := by decide +kernel
theorem dX7_throwsFor_0 : decode cX7_throwsFor 0 = .ok (.aload_n 0, 1) := by decide +kernel
theorem dX7_throwsFor_1 : decode cX7_throwsFor 1 = .ok (.getfield 25, 3) := by decide +kernel
theorem dX7_throwsFor_4 : decode cX7_throwsFor 4 = .ok (.getfield 147, 3) := by decide +kernel
theorem dX7_throwsFor_7 : decode cX7_throwsFor 7 = .ok (.ifCond .ne 6, 3) := by decide +kernel
theorem dX7_throwsFor_10 : decode cX7_throwsFor 10 = .ok (.ldc 161, 2) := by decide +kernel
theorem dX7_throwsFor_12 : decode cX7_throwsFor 12 = .ok (.ireturn, 1) := by decide +kernel
theorem dX7_throwsFor_13 : decode cX7_throwsFor 13 = .ok (.iload_n 1, 1) := by decide +kernel
theorem dX7_throwsFor_14 : decode cX7_throwsFor 14 = .ok (.invokestatic 165, 3) := by decide +kernel
theorem dX7_throwsFor_17 : decode cX7_throwsFor 17 = .ok (.ifCond .eq 8, 3) := by decide +kernel
theorem dX7_throwsFor_20 : decode cX7_throwsFor 20 = .ok (.iload_n 2, 1) := by decide +kernel
theorem dX7_throwsFor_21 : decode cX7_throwsFor 21 = .ok (.iconst (-1), 1) := by decide +kernel
theorem dX7_throwsFor_22 : decode cX7_throwsFor 22 = .ok (.if_icmp .ge 6, 3) := by decide +kernel
theorem dX7_throwsFor_25 : decode cX7_throwsFor 25 = .ok (.ldc 78, 2) := by decide +kernel
theorem dX7_throwsFor_27 : decode cX7_throwsFor 27 = .ok (.ireturn, 1) := by decide +kernel
theorem dX7_throwsFor_28 : decode cX7_throwsFor 28 = .ok (.aload_n 0, 1) := by decide +kernel
theorem dX7_throwsFor_29 : decode cX7_throwsFor 29 = .ok (.iload_n 1, 1) := by decide +kernel
theorem dX7_throwsFor_30 : decode cX7_throwsFor 30 = .ok (.invokevirtual 244, 3) := by decide +kernel
theorem dX7_throwsFor_33 : decode cX7_throwsFor 33 = .ok (.aload_n 0, 1) := by decide +kernel
theorem dX7_throwsFor_34 : decode cX7_throwsFor 34 = .ok (.iconst 1, 1) := by decide +kernel
theorem dX7_throwsFor_35 : decode cX7_throwsFor 35 = .ok (.aload_n 0, 1) := by decide +kernel
theorem dX7_throwsFor_36 : decode cX7_throwsFor 36 = .ok (.getfield 25, 3) := by decide +kernel
theorem dX7_throwsFor_39 : decode cX7_throwsFor 39 = .ok (.getfield 158, 3) := by decide +kernel
theorem dX7_throwsFor_42 : decode cX7_throwsFor 42 = .ok (.ishl, 1) := by decide +kernel
theorem dX7_throwsFor_43 : decode cX7_throwsFor 43 = .ok (.iconst 1, 1) := by decide +kernel
theorem dX7_throwsFor_44 : decode cX7_throwsFor 44 = .ok (.isub, 1) := by decide +kernel
theorem dX7_throwsFor_45 : decode cX7_throwsFor 45 = .ok (.invokevirtual 260, 3) := by decide +kernel
theorem dX7_throwsFor_48 : decode cX7_throwsFor 48 = .ok (.istore_n 3, 1) := by decide +kernel
theorem dX7_throwsFor_49 : decode cX7_throwsFor 49 = .ok (.iload_n 3, 1) := by decide +kernel
theorem dX7_throwsFor_50 : decode cX7_throwsFor 50 = .ok (.ldc 215, 2) := by decide +kernel
theorem dX7_throwsFor_52 : decode cX7_throwsFor 52 = .ok (.if_icmp .eq 8, 3) := by decide +kernel
theorem dX7_throwsFor_55 : decode cX7_throwsFor 55 = .ok (.iload_n 2, 1) := by decide +kernel
theorem dX7_throwsFor_56 : decode cX7_throwsFor 56 = .ok (.iconst (-1), 1) := by decide +kernel
theorem dX7_throwsFor_57 : decode cX7_throwsFor 57 = .ok (.if_icmp .ne 5, 3) := by decide +kernel
theorem dX7_throwsFor_60 : decode cX7_throwsFor 60 = .ok (.iload_n 3, 1) := by decide +kernel
theorem dX7_throwsFor_61 : decode cX7_throwsFor 61 = .ok (.ireturn, 1) := by decide +kernel
theorem dX7_throwsFor_62 : decode cX7_throwsFor 62 = .ok (.iload_n 2, 1) := by decide +kernel
theorem dX7_throwsFor_63 : decode cX7_throwsFor 63 = .ok (.ifCond .lt 26, 3) := by decide +kernel
theorem dX7_throwsFor_66 : decode cX7_throwsFor 66 = .ok (.iload_n 2, 1) := by decide +kernel
theorem dX7_throwsFor_67 : decode cX7_throwsFor 67 = .ok (.iload_n 3, 1) := by decide +kernel
theorem dX7_throwsFor_68 : decode cX7_throwsFor 68 = .ok (.if_icmp .ge 21, 3) := by decide +kernel
theorem dX7_throwsFor_71 : decode cX7_throwsFor 71 = .ok (.iload_n 2, 1) := by decide +kernel
theorem dX7_throwsFor_72 : decode cX7_throwsFor 72 = .ok (.aload_n 0, 1) := by decide +kernel
theorem dX7_throwsFor_73 : decode cX7_throwsFor 73 = .ok (.getfield 63, 3) := by decide +kernel
theorem dX7_throwsFor_76 : decode cX7_throwsFor 76 = .ok (.arraylength, 1) := by decide +kernel
theorem dX7_throwsFor_77 : decode cX7_throwsFor 77 = .ok (.if_icmp .ge 12, 3) := by decide +kernel
theorem dX7_throwsFor_80 : decode cX7_throwsFor 80 = .ok (.aload_n 0, 1) := by decide +kernel
theorem dX7_throwsFor_81 : decode cX7_throwsFor 81 = .ok (.getfield 63, 3) := by decide +kernel
theorem dX7_throwsFor_84 : decode cX7_throwsFor 84 = .ok (.iload_n 2, 1) := by decide +kernel
theorem dX7_throwsFor_85 : decode cX7_throwsFor 85 = .ok (.iaload, 1) := by decide +kernel
theorem dX7_throwsFor_86 : decode cX7_throwsFor 86 = .ok (.goto 5, 3) := by decide +kernel
theorem dX7_throwsFor_89 : decode cX7_throwsFor 89 = .ok (.ldc 215, 2) := by decide +kernel
theorem dX7_throwsFor_91 : decode cX7_throwsFor 91 = .ok (.ireturn, 1) := by decide +kernel
theorem dX7_cool_0 : decode cX7_cool 0 = .ok (.aload_n 0, 1) := by decide +kernel
theorem dX7_cool_1 : decode cX7_cool 1 = .ok (.getfield 25, 3) := by decide +kernel
theorem dX7_cool_4 : decode cX7_cool 4 = .ok (.iload_n 1, 1) := by decide +kernel
theorem dX7_cool_5 : decode cX7_cool 5 = .ok (.invokevirtual 182, 3) := by decide +kernel
theorem dX7_cool_8 : decode cX7_cool 8 = .ok (.ifnull 17, 3) := by decide +kernel
theorem dX7_cool_11 : decode cX7_cool 11 = .ok (.iload_n 2, 1) := by decide +kernel
theorem dX7_cool_12 : decode cX7_cool 12 = .ok (.invokestatic 162, 3) := by decide +kernel
theorem dX7_cool_15 : decode cX7_cool 15 = .ok (.ifCond .eq 10, 3) := by decide +kernel
theorem dX7_cool_18 : decode cX7_cool 18 = .ok (.iload_n 3, 1) := by decide +kernel
theorem dX7_cool_19 : decode cX7_cool 19 = .ok (.invokestatic 165, 3) := by decide +kernel
theorem dX7_cool_22 : decode cX7_cool 22 = .ok (.ifCond .ne 6, 3) := by decide +kernel
theorem dX7_cool_25 : decode cX7_cool 25 = .ok (.ldc 78, 2) := by decide +kernel
theorem dX7_cool_27 : decode cX7_cool 27 = .ok (.ireturn, 1) := by decide +kernel
theorem dX7_cool_28 : decode cX7_cool 28 = .ok (.aload_n 0, 1) := by decide +kernel
theorem dX7_cool_29 : decode cX7_cool 29 = .ok (.getfield 32, 3) := by decide +kernel
theorem dX7_cool_32 : decode cX7_cool 32 = .ok (.aload_n 0, 1) := by decide +kernel
theorem dX7_cool_33 : decode cX7_cool 33 = .ok (.getfield 25, 3) := by decide +kernel
theorem dX7_cool_36 : decode cX7_cool 36 = .ok (.invokevirtual 151, 3) := by decide +kernel
theorem dX7_cool_39 : decode cX7_cool 39 = .ok (.aload_n 0, 1) := by decide +kernel
theorem dX7_cool_40 : decode cX7_cool 40 = .ok (.getfield 49, 3) := by decide +kernel
theorem dX7_cool_43 : decode cX7_cool 43 = .ok (.iload_n 2, 1) := by decide +kernel
theorem dX7_cool_44 : decode cX7_cool 44 = .ok (.iload_n 3, 1) := by decide +kernel
theorem dX7_cool_45 : decode cX7_cool 45 = .ok (.invokevirtual 176, 3) := by decide +kernel
theorem dX7_cool_48 : decode cX7_cool 48 = .ok (.iconst 0, 1) := by decide +kernel
theorem dX7_cool_49 : decode cX7_cool 49 = .ok (.istore 4, 2) := by decide +kernel
theorem dX7_cool_51 : decode cX7_cool 51 = .ok (.iload 4, 2) := by decide +kernel
theorem dX7_cool_53 : decode cX7_cool 53 = .ok (.bipush 20, 2) := by decide +kernel
theorem dX7_cool_55 : decode cX7_cool 55 = .ok (.if_icmp .gt 36, 3) := by decide +kernel
theorem dX7_cool_58 : decode cX7_cool 58 = .ok (.aload_n 0, 1) := by decide +kernel
theorem dX7_cool_59 : decode cX7_cool 59 = .ok (.getfield 32, 3) := by decide +kernel
theorem dX7_cool_62 : decode cX7_cool 62 = .ok (.iload 4, 2) := by decide +kernel
theorem dX7_cool_64 : decode cX7_cool 64 = .ok (.putfield 216, 3) := by decide +kernel
theorem dX7_cool_67 : decode cX7_cool 67 = .ok (.aload_n 0, 1) := by decide +kernel
theorem dX7_cool_68 : decode cX7_cool 68 = .ok (.getfield 49, 3) := by decide +kernel
theorem dX7_cool_71 : decode cX7_cool 71 = .ok (.aload_n 0, 1) := by decide +kernel
theorem dX7_cool_72 : decode cX7_cool 72 = .ok (.getfield 32, 3) := by decide +kernel
theorem dX7_cool_75 : decode cX7_cool 75 = .ok (.iload_n 1, 1) := by decide +kernel
theorem dX7_cool_76 : decode cX7_cool 76 = .ok (.invokevirtual 222, 3) := by decide +kernel
theorem dX7_cool_79 : decode cX7_cool 79 = .ok (.ifCond .ne 6, 3) := by decide +kernel
theorem dX7_cool_82 : decode cX7_cool 82 = .ok (.iload 4, 2) := by decide +kernel
theorem dX7_cool_84 : decode cX7_cool 84 = .ok (.ireturn, 1) := by decide +kernel
theorem dX7_cool_85 : decode cX7_cool 85 = .ok (.iinc 4 1, 3) := by decide +kernel
theorem dX7_cool_88 : decode cX7_cool 88 = .ok (.goto (-37), 3) := by decide +kernel
theorem dX7_cool_91 : decode cX7_cool 91 = .ok (.ldc 215, 2) := by decide +kernel
theorem dX7_cool_93 : decode cX7_cool 93 = .ok (.ireturn, 1) := by decide +kernel
theorem dX7_stood_0 : decode cX7_stood 0 = .ok (.aload_n 0, 1) := by decide +kernel
theorem dX7_stood_1 : decode cX7_stood 1 = .ok (.iload_n 1, 1) := by decide +kernel
theorem dX7_stood_2 : decode cX7_stood 2 = .ok (.invokevirtual 74, 3) := by decide +kernel
theorem dX7_stood_5 : decode cX7_stood 5 = .ok (.astore 6, 2) := by decide +kernel
theorem dX7_stood_7 : decode cX7_stood 7 = .ok (.iload_n 3, 1) := by decide +kernel
theorem dX7_stood_8 : decode cX7_stood 8 = .ok (.ifCond .lt 25, 3) := by decide +kernel
theorem dX7_stood_11 : decode cX7_stood 11 = .ok (.iload_n 3, 1) := by decide +kernel
theorem dX7_stood_12 : decode cX7_stood 12 = .ok (.bipush 20, 2) := by decide +kernel
theorem dX7_stood_14 : decode cX7_stood 14 = .ok (.if_icmp .gt 19, 3) := by decide +kernel
theorem dX7_stood_17 : decode cX7_stood 17 = .ok (.iload 5, 2) := by decide +kernel
theorem dX7_stood_19 : decode cX7_stood 19 = .ok (.ifCond .lt 14, 3) := by decide +kernel
theorem dX7_stood_22 : decode cX7_stood 22 = .ok (.iload 5, 2) := by decide +kernel
theorem dX7_stood_24 : decode cX7_stood 24 = .ok (.bipush 20, 2) := by decide +kernel
theorem dX7_stood_26 : decode cX7_stood 26 = .ok (.if_icmp .gt 7, 3) := by decide +kernel
theorem dX7_stood_29 : decode cX7_stood 29 = .ok (.iconst 1, 1) := by decide +kernel
theorem dX7_stood_30 : decode cX7_stood 30 = .ok (.goto 4, 3) := by decide +kernel
theorem dX7_stood_33 : decode cX7_stood 33 = .ok (.iconst 0, 1) := by decide +kernel
theorem dX7_stood_34 : decode cX7_stood 34 = .ok (.istore 7, 2) := by decide +kernel
theorem dX7_stood_36 : decode cX7_stood 36 = .ok (.aload 6, 2) := by decide +kernel
theorem dX7_stood_38 : decode cX7_stood 38 = .ok (.ifnull 20, 3) := by decide +kernel
theorem dX7_stood_41 : decode cX7_stood 41 = .ok (.iload 7, 2) := by decide +kernel
theorem dX7_stood_43 : decode cX7_stood 43 = .ok (.ifCond .eq 15, 3) := by decide +kernel
theorem dX7_stood_46 : decode cX7_stood 46 = .ok (.aload_n 0, 1) := by decide +kernel
theorem dX7_stood_47 : decode cX7_stood 47 = .ok (.getfield 25, 3) := by decide +kernel
theorem dX7_stood_50 : decode cX7_stood 50 = .ok (.iload 4, 2) := by decide +kernel
theorem dX7_stood_52 : decode cX7_stood 52 = .ok (.invokevirtual 182, 3) := by decide +kernel
theorem dX7_stood_55 : decode cX7_stood 55 = .ok (.ifnonnull 6, 3) := by decide +kernel
theorem dX7_stood_58 : decode cX7_stood 58 = .ok (.ldc 78, 2) := by decide +kernel
theorem dX7_stood_60 : decode cX7_stood 60 = .ok (.ireturn, 1) := by decide +kernel
theorem dX7_stood_61 : decode cX7_stood 61 = .ok (.aload 6, 2) := by decide +kernel
theorem dX7_stood_63 : decode cX7_stood 63 = .ok (.invokevirtual 90, 3) := by decide +kernel
theorem dX7_stood_66 : decode cX7_stood 66 = .ok (.ifCond .eq 9, 3) := by decide +kernel
theorem dX7_stood_69 : decode cX7_stood 69 = .ok (.aload_n 0, 1) := by decide +kernel
theorem dX7_stood_70 : decode cX7_stood 70 = .ok (.iconst 1, 1) := by decide +kernel
theorem dX7_stood_71 : decode cX7_stood 71 = .ok (.invokevirtual 79, 3) := by decide +kernel
theorem dX7_stood_74 : decode cX7_stood 74 = .ok (.ireturn, 1) := by decide +kernel
theorem dX7_stood_75 : decode cX7_stood 75 = .ok (.aload 6, 2) := by decide +kernel
theorem dX7_stood_77 : decode cX7_stood 77 = .ok (.iload_n 2, 1) := by decide +kernel
theorem dX7_stood_78 : decode cX7_stood 78 = .ok (.iload_n 3, 1) := by decide +kernel
theorem dX7_stood_79 : decode cX7_stood 79 = .ok (.invokevirtual 94, 3) := by decide +kernel
theorem dX7_stood_82 : decode cX7_stood 82 = .ok (.ifCond .ne 9, 3) := by decide +kernel
theorem dX7_stood_85 : decode cX7_stood 85 = .ok (.aload_n 0, 1) := by decide +kernel
theorem dX7_stood_86 : decode cX7_stood 86 = .ok (.iconst 2, 1) := by decide +kernel
theorem dX7_stood_87 : decode cX7_stood 87 = .ok (.invokevirtual 79, 3) := by decide +kernel
theorem dX7_stood_90 : decode cX7_stood 90 = .ok (.ireturn, 1) := by decide +kernel
theorem dX7_stood_91 : decode cX7_stood 91 = .ok (.aload_n 0, 1) := by decide +kernel
theorem dX7_stood_92 : decode cX7_stood 92 = .ok (.getfield 49, 3) := by decide +kernel
theorem dX7_stood_95 : decode cX7_stood 95 = .ok (.aload 6, 2) := by decide +kernel
theorem dX7_stood_97 : decode cX7_stood 97 = .ok (.iload_n 2, 1) := by decide +kernel
theorem dX7_stood_98 : decode cX7_stood 98 = .ok (.iload_n 3, 1) := by decide +kernel
theorem dX7_stood_99 : decode cX7_stood 99 = .ok (.invokevirtual 263, 3) := by decide +kernel
theorem dX7_stood_102 : decode cX7_stood 102 = .ok (.ifCond .ne 6, 3) := by decide +kernel
theorem dX7_stood_105 : decode cX7_stood 105 = .ok (.ldc 78, 2) := by decide +kernel
theorem dX7_stood_107 : decode cX7_stood 107 = .ok (.ireturn, 1) := by decide +kernel
theorem dX7_stood_108 : decode cX7_stood 108 = .ok (.aload_n 0, 1) := by decide +kernel
theorem dX7_stood_109 : decode cX7_stood 109 = .ok (.getfield 49, 3) := by decide +kernel
theorem dX7_stood_112 : decode cX7_stood 112 = .ok (.aload_n 0, 1) := by decide +kernel
theorem dX7_stood_113 : decode cX7_stood 113 = .ok (.getfield 25, 3) := by decide +kernel
theorem dX7_stood_116 : decode cX7_stood 116 = .ok (.iload 4, 2) := by decide +kernel
theorem dX7_stood_118 : decode cX7_stood 118 = .ok (.iconst (-1), 1) := by decide +kernel
theorem dX7_stood_119 : decode cX7_stood 119 = .ok (.aload_n 0, 1) := by decide +kernel
theorem dX7_stood_120 : decode cX7_stood 120 = .ok (.getfield 53, 3) := by decide +kernel
theorem dX7_stood_123 : decode cX7_stood 123 = .ok (.invokevirtual 234, 3) := by decide +kernel
theorem dX7_stood_126 : decode cX7_stood 126 = .ok (.aload_n 0, 1) := by decide +kernel
theorem dX7_stood_127 : decode cX7_stood 127 = .ok (.aload_n 0, 1) := by decide +kernel
theorem dX7_stood_128 : decode cX7_stood 128 = .ok (.iload 5, 2) := by decide +kernel
theorem dX7_stood_130 : decode cX7_stood 130 = .ok (.invokevirtual 267, 3) := by decide +kernel
theorem dX7_stood_133 : decode cX7_stood 133 = .ok (.invokevirtual 87, 3) := by decide +kernel
theorem dX7_stood_136 : decode cX7_stood 136 = .ok (.ireturn, 1) := by decide +kernel
theorem dX7_image_0 : decode cX7_image 0 = .ok (.aload_n 0, 1) := by decide +kernel
theorem dX7_image_1 : decode cX7_image 1 = .ok (.iload_n 1, 1) := by decide +kernel
theorem dX7_image_2 : decode cX7_image 2 = .ok (.invokevirtual 270, 3) := by decide +kernel
theorem dX7_image_5 : decode cX7_image 5 = .ok (.astore_n 2, 1) := by decide +kernel
theorem dX7_image_6 : decode cX7_image 6 = .ok (.aload_n 2, 1) := by decide +kernel
theorem dX7_image_7 : decode cX7_image 7 = .ok (.ifnonnull 6, 3) := by decide +kernel
theorem dX7_image_10 : decode cX7_image 10 = .ok (.ldc 78, 2) := by decide +kernel
theorem dX7_image_12 : decode cX7_image 12 = .ok (.ireturn, 1) := by decide +kernel
theorem dX7_image_13 : decode cX7_image 13 = .ok (.aload_n 0, 1) := by decide +kernel
theorem dX7_image_14 : decode cX7_image 14 = .ok (.getfield 25, 3) := by decide +kernel
theorem dX7_image_17 : decode cX7_image 17 = .ok (.getfield 147, 3) := by decide +kernel
theorem dX7_image_20 : decode cX7_image 20 = .ok (.ifCond .ne 6, 3) := by decide +kernel
theorem dX7_image_23 : decode cX7_image 23 = .ok (.ldc 161, 2) := by decide +kernel
theorem dX7_image_25 : decode cX7_image 25 = .ok (.ireturn, 1) := by decide +kernel
theorem dX7_image_26 : decode cX7_image 26 = .ok (.aload_n 2, 1) := by decide +kernel
theorem dX7_image_27 : decode cX7_image 27 = .ok (.aload_n 0, 1) := by decide +kernel
theorem dX7_image_28 : decode cX7_image 28 = .ok (.getfield 25, 3) := by decide +kernel
theorem dX7_image_31 : decode cX7_image 31 = .ok (.invokevirtual 151, 3) := by decide +kernel
theorem dX7_image_34 : decode cX7_image 34 = .ok (.iconst 1, 1) := by decide +kernel
theorem dX7_image_35 : decode cX7_image 35 = .ok (.ireturn, 1) := by decide +kernel
theorem dX7_restore_0 : decode cX7_restore 0 = .ok (.aload_n 0, 1) := by decide +kernel
theorem dX7_restore_1 : decode cX7_restore 1 = .ok (.iload_n 1, 1) := by decide +kernel
theorem dX7_restore_2 : decode cX7_restore 2 = .ok (.invokevirtual 270, 3) := by decide +kernel
theorem dX7_restore_5 : decode cX7_restore 5 = .ok (.astore_n 2, 1) := by decide +kernel
theorem dX7_restore_6 : decode cX7_restore 6 = .ok (.aload_n 2, 1) := by decide +kernel
theorem dX7_restore_7 : decode cX7_restore 7 = .ok (.ifnonnull 6, 3) := by decide +kernel
theorem dX7_restore_10 : decode cX7_restore 10 = .ok (.ldc 78, 2) := by decide +kernel
theorem dX7_restore_12 : decode cX7_restore 12 = .ok (.ireturn, 1) := by decide +kernel
theorem dX7_restore_13 : decode cX7_restore 13 = .ok (.aload_n 2, 1) := by decide +kernel
theorem dX7_restore_14 : decode cX7_restore 14 = .ok (.getfield 147, 3) := by decide +kernel
theorem dX7_restore_17 : decode cX7_restore 17 = .ok (.ifCond .ne 6, 3) := by decide +kernel
theorem dX7_restore_20 : decode cX7_restore 20 = .ok (.ldc 161, 2) := by decide +kernel
theorem dX7_restore_22 : decode cX7_restore 22 = .ok (.ireturn, 1) := by decide +kernel
theorem dX7_restore_23 : decode cX7_restore 23 = .ok (.aload_n 0, 1) := by decide +kernel
theorem dX7_restore_24 : decode cX7_restore 24 = .ok (.getfield 25, 3) := by decide +kernel
theorem dX7_restore_27 : decode cX7_restore 27 = .ok (.aload_n 2, 1) := by decide +kernel
theorem dX7_restore_28 : decode cX7_restore 28 = .ok (.invokevirtual 151, 3) := by decide +kernel
theorem dX7_restore_31 : decode cX7_restore 31 = .ok (.aload_n 0, 1) := by decide +kernel
theorem dX7_restore_32 : decode cX7_restore 32 = .ok (.getfield 42, 3) := by decide +kernel
theorem dX7_restore_35 : decode cX7_restore 35 = .ok (.iconst 0, 1) := by decide +kernel
theorem dX7_restore_36 : decode cX7_restore 36 = .ok (.putfield 155, 3) := by decide +kernel
theorem dX7_restore_39 : decode cX7_restore 39 = .ok (.iconst 1, 1) := by decide +kernel
theorem dX7_restore_40 : decode cX7_restore 40 = .ok (.ireturn, 1) := by decide +kernel
theorem dX7_kind_0 : decode cX7_kind 0 = .ok (.aload_n 0, 1) := by decide +kernel
theorem dX7_kind_1 : decode cX7_kind 1 = .ok (.getfield 25, 3) := by decide +kernel
theorem dX7_kind_4 : decode cX7_kind 4 = .ok (.iload_n 1, 1) := by decide +kernel
theorem dX7_kind_5 : decode cX7_kind 5 = .ok (.invokevirtual 182, 3) := by decide +kernel
theorem dX7_kind_8 : decode cX7_kind 8 = .ok (.astore_n 2, 1) := by decide +kernel
theorem dX7_kind_9 : decode cX7_kind 9 = .ok (.aload_n 2, 1) := by decide +kernel
theorem dX7_kind_10 : decode cX7_kind 10 = .ok (.ifnonnull 8, 3) := by decide +kernel
theorem dX7_kind_13 : decode cX7_kind 13 = .ok (.ldc 78, 2) := by decide +kernel
theorem dX7_kind_15 : decode cX7_kind 15 = .ok (.goto 7, 3) := by decide +kernel
theorem dX7_kind_18 : decode cX7_kind 18 = .ok (.aload_n 2, 1) := by decide +kernel
theorem dX7_kind_19 : decode cX7_kind 19 = .ok (.getfield 274, 3) := by decide +kernel
theorem dX7_kind_22 : decode cX7_kind 22 = .ok (.ireturn, 1) := by decide +kernel
theorem dX7_as_0 : decode cX7_as 0 = .ok (.aload_n 0, 1) := by decide +kernel
theorem dX7_as_1 : decode cX7_as 1 = .ok (.getfield 25, 3) := by decide +kernel
theorem dX7_as_4 : decode cX7_as 4 = .ok (.iload_n 1, 1) := by decide +kernel
theorem dX7_as_5 : decode cX7_as 5 = .ok (.invokevirtual 182, 3) := by decide +kernel
theorem dX7_as_8 : decode cX7_as 8 = .ok (.astore_n 3, 1) := by decide +kernel
theorem dX7_as_9 : decode cX7_as 9 = .ok (.aload_n 3, 1) := by decide +kernel
theorem dX7_as_10 : decode cX7_as 10 = .ok (.ifnull 12, 3) := by decide +kernel
theorem dX7_as_13 : decode cX7_as 13 = .ok (.iload_n 2, 1) := by decide +kernel
theorem dX7_as_14 : decode cX7_as 14 = .ok (.ifCond .lt 8, 3) := by decide +kernel
theorem dX7_as_17 : decode cX7_as 17 = .ok (.iload_n 2, 1) := by decide +kernel
theorem dX7_as_18 : decode cX7_as 18 = .ok (.iconst 5, 1) := by decide +kernel
theorem dX7_as_19 : decode cX7_as 19 = .ok (.if_icmp .le 6, 3) := by decide +kernel
theorem dX7_as_22 : decode cX7_as 22 = .ok (.ldc 78, 2) := by decide +kernel
theorem dX7_as_24 : decode cX7_as 24 = .ok (.ireturn, 1) := by decide +kernel
theorem dX7_as_25 : decode cX7_as 25 = .ok (.aload_n 3, 1) := by decide +kernel
theorem dX7_as_26 : decode cX7_as 26 = .ok (.iload_n 2, 1) := by decide +kernel
theorem dX7_as_27 : decode cX7_as 27 = .ok (.invokevirtual 277, 3) := by decide +kernel
theorem dX7_as_30 : decode cX7_as 30 = .ok (.ifCond .eq 11, 3) := by decide +kernel
theorem dX7_as_33 : decode cX7_as 33 = .ok (.aload_n 0, 1) := by decide +kernel
theorem dX7_as_34 : decode cX7_as 34 = .ok (.iload_n 1, 1) := by decide +kernel
theorem dX7_as_35 : decode cX7_as 35 = .ok (.invokevirtual 87, 3) := by decide +kernel
theorem dX7_as_38 : decode cX7_as 38 = .ok (.goto 8, 3) := by decide +kernel
theorem dX7_as_41 : decode cX7_as 41 = .ok (.aload_n 0, 1) := by decide +kernel
theorem dX7_as_42 : decode cX7_as 42 = .ok (.iconst 3, 1) := by decide +kernel
theorem dX7_as_43 : decode cX7_as 43 = .ok (.invokevirtual 79, 3) := by decide +kernel
theorem dX7_as_46 : decode cX7_as 46 = .ok (.ireturn, 1) := by decide +kernel
theorem dX7_ask_0 : decode cX7_ask 0 = .ok (.aload_n 0, 1) := by decide +kernel
theorem dX7_ask_1 : decode cX7_ask 1 = .ok (.getfield 25, 3) := by decide +kernel
theorem dX7_ask_4 : decode cX7_ask 4 = .ok (.iload_n 1, 1) := by decide +kernel
theorem dX7_ask_5 : decode cX7_ask 5 = .ok (.invokevirtual 182, 3) := by decide +kernel
theorem dX7_ask_8 : decode cX7_ask 8 = .ok (.astore_n 3, 1) := by decide +kernel
theorem dX7_ask_9 : decode cX7_ask 9 = .ok (.aload_n 3, 1) := by decide +kernel
theorem dX7_ask_10 : decode cX7_ask 10 = .ok (.ifnull 10, 3) := by decide +kernel
theorem dX7_ask_13 : decode cX7_ask 13 = .ok (.iload_n 2, 1) := by decide +kernel
theorem dX7_ask_14 : decode cX7_ask 14 = .ok (.invokestatic 206, 3) := by decide +kernel
theorem dX7_ask_17 : decode cX7_ask 17 = .ok (.ifCond .ne 6, 3) := by decide +kernel
theorem dX7_ask_20 : decode cX7_ask 20 = .ok (.ldc 78, 2) := by decide +kernel
theorem dX7_ask_22 : decode cX7_ask 22 = .ok (.ireturn, 1) := by decide +kernel
theorem dX7_ask_23 : decode cX7_ask 23 = .ok (.aload_n 0, 1) := by decide +kernel
theorem dX7_ask_24 : decode cX7_ask 24 = .ok (.getfield 69, 3) := by decide +kernel
theorem dX7_ask_27 : decode cX7_ask 27 = .ok (.iconst 0, 1) := by decide +kernel
theorem dX7_ask_28 : decode cX7_ask 28 = .ok (.putfield 280, 3) := by decide +kernel
theorem dX7_ask_31 : decode cX7_ask 31 = .ok (.iload_n 2, 1) := by decide +kernel
theorem dX7_ask_32 : decode cX7_ask 32 = .ok (.ifCond .ne 14, 3) := by decide +kernel
theorem dX7_ask_35 : decode cX7_ask 35 = .ok (.aload_n 0, 1) := by decide +kernel
theorem dX7_ask_36 : decode cX7_ask 36 = .ok (.getfield 69, 3) := by decide +kernel
theorem dX7_ask_39 : decode cX7_ask 39 = .ok (.aload_n 3, 1) := by decide +kernel
theorem dX7_ask_40 : decode cX7_ask 40 = .ok (.invokevirtual 283, 3) := by decide +kernel
theorem dX7_ask_43 : decode cX7_ask 43 = .ok (.goto 11, 3) := by decide +kernel
theorem dX7_ask_46 : decode cX7_ask 46 = .ok (.aload_n 0, 1) := by decide +kernel
theorem dX7_ask_47 : decode cX7_ask 47 = .ok (.getfield 69, 3) := by decide +kernel
theorem dX7_ask_50 : decode cX7_ask 50 = .ok (.aload_n 3, 1) := by decide +kernel
theorem dX7_ask_51 : decode cX7_ask 51 = .ok (.invokevirtual 287, 3) := by decide +kernel
theorem dX7_ask_54 : decode cX7_ask 54 = .ok (.ireturn, 1) := by decide +kernel
theorem dX7_trace_0 : decode cX7_trace 0 = .ok (.aload_n 0, 1) := by decide +kernel
theorem dX7_trace_1 : decode cX7_trace 1 = .ok (.getfield 69, 3) := by decide +kernel
theorem dX7_trace_4 : decode cX7_trace 4 = .ok (.iload_n 1, 1) := by decide +kernel
theorem dX7_trace_5 : decode cX7_trace 5 = .ok (.invokevirtual 290, 3) := by decide +kernel
theorem dX7_trace_8 : decode cX7_trace 8 = .ok (.ireturn, 1) := by decide +kernel
theorem dX7_count_0 : decode cX7_count 0 = .ok (.iload_n 1, 1) := by decide +kernel
theorem dX7_count_1 : decode cX7_count 1 = .ok (.tableswitch 99 0 6 #[43, 48, 56, 67, 75, 83, 91], 43) := by decide +kernel
theorem dX7_count_44 : decode cX7_count 44 = .ok (.aload_n 0, 1) := by decide +kernel
theorem dX7_count_45 : decode cX7_count 45 = .ok (.invokevirtual 293, 3) := by decide +kernel
theorem dX7_count_48 : decode cX7_count 48 = .ok (.ireturn, 1) := by decide +kernel
theorem dX7_count_49 : decode cX7_count 49 = .ok (.aload_n 0, 1) := by decide +kernel
theorem dX7_count_50 : decode cX7_count 50 = .ok (.getfield 25, 3) := by decide +kernel
theorem dX7_count_53 : decode cX7_count 53 = .ok (.getfield 158, 3) := by decide +kernel
theorem dX7_count_56 : decode cX7_count 56 = .ok (.ireturn, 1) := by decide +kernel
theorem dX7_count_57 : decode cX7_count 57 = .ok (.aload_n 0, 1) := by decide +kernel
theorem dX7_count_58 : decode cX7_count 58 = .ok (.getfield 25, 3) := by decide +kernel
theorem dX7_count_61 : decode cX7_count 61 = .ok (.getfield 296, 3) := by decide +kernel
theorem dX7_count_64 : decode cX7_count 64 = .ok (.invokestatic 255, 3) := by decide +kernel
theorem dX7_count_67 : decode cX7_count 67 = .ok (.ireturn, 1) := by decide +kernel
theorem dX7_count_68 : decode cX7_count 68 = .ok (.aload_n 0, 1) := by decide +kernel
theorem dX7_count_69 : decode cX7_count 69 = .ok (.getfield 25, 3) := by decide +kernel
theorem dX7_count_72 : decode cX7_count 72 = .ok (.getfield 216, 3) := by decide +kernel
theorem dX7_count_75 : decode cX7_count 75 = .ok (.ireturn, 1) := by decide +kernel
theorem dX7_count_76 : decode cX7_count 76 = .ok (.aload_n 0, 1) := by decide +kernel
theorem dX7_count_77 : decode cX7_count 77 = .ok (.getfield 42, 3) := by decide +kernel
theorem dX7_count_80 : decode cX7_count 80 = .ok (.getfield 155, 3) := by decide +kernel
theorem dX7_count_83 : decode cX7_count 83 = .ok (.ireturn, 1) := by decide +kernel
theorem dX7_count_84 : decode cX7_count 84 = .ok (.aload_n 0, 1) := by decide +kernel
theorem dX7_count_85 : decode cX7_count 85 = .ok (.getfield 25, 3) := by decide +kernel
theorem dX7_count_88 : decode cX7_count 88 = .ok (.invokevirtual 299, 3) := by decide +kernel
theorem dX7_count_91 : decode cX7_count 91 = .ok (.ireturn, 1) := by decide +kernel
theorem dX7_count_92 : decode cX7_count 92 = .ok (.aload_n 0, 1) := by decide +kernel
theorem dX7_count_93 : decode cX7_count 93 = .ok (.getfield 18, 3) := by decide +kernel
theorem dX7_count_96 : decode cX7_count 96 = .ok (.getfield 127, 3) := by decide +kernel
theorem dX7_count_99 : decode cX7_count 99 = .ok (.ireturn, 1) := by decide +kernel
theorem dX7_count_100 : decode cX7_count 100 = .ok (.ldc 78, 2) := by decide +kernel
theorem dX7_count_102 : decode cX7_count 102 = .ok (.ireturn, 1) := by decide +kernel
theorem dX7_status_0 : decode cX7_status 0 = .ok (.aload_n 0, 1) := by decide +kernel
theorem dX7_status_1 : decode cX7_status 1 = .ok (.getfield 302, 3) := by decide +kernel
theorem dX7_status_4 : decode cX7_status 4 = .ok (.ireturn, 1) := by decide +kernel
theorem dX7_isCell_0 : decode cX7_isCell 0 = .ok (.iload_n 0, 1) := by decide +kernel
theorem dX7_isCell_1 : decode cX7_isCell 1 = .ok (.ifCond .lt 13, 3) := by decide +kernel
theorem dX7_isCell_4 : decode cX7_isCell 4 = .ok (.iload_n 0, 1) := by decide +kernel
theorem dX7_isCell_5 : decode cX7_isCell 5 = .ok (.bipush 30, 2) := by decide +kernel
theorem dX7_isCell_7 : decode cX7_isCell 7 = .ok (.if_icmp .ge 7, 3) := by decide +kernel
theorem dX7_isCell_10 : decode cX7_isCell 10 = .ok (.iconst 1, 1) := by decide +kernel
theorem dX7_isCell_11 : decode cX7_isCell 11 = .ok (.goto 4, 3) := by decide +kernel
theorem dX7_isCell_14 : decode cX7_isCell 14 = .ok (.iconst 0, 1) := by decide +kernel
theorem dX7_isCell_15 : decode cX7_isCell 15 = .ok (.ireturn, 1) := by decide +kernel
theorem dX7_isSpread_0 : decode cX7_isSpread 0 = .ok (.iload_n 0, 1) := by decide +kernel
theorem dX7_isSpread_1 : decode cX7_isSpread 1 = .ok (.ifCond .lt 12, 3) := by decide +kernel
theorem dX7_isSpread_4 : decode cX7_isSpread 4 = .ok (.iload_n 0, 1) := by decide +kernel
theorem dX7_isSpread_5 : decode cX7_isSpread 5 = .ok (.iconst 2, 1) := by decide +kernel
theorem dX7_isSpread_6 : decode cX7_isSpread 6 = .ok (.if_icmp .gt 7, 3) := by decide +kernel
theorem dX7_isSpread_9 : decode cX7_isSpread 9 = .ok (.iconst 1, 1) := by decide +kernel
theorem dX7_isSpread_10 : decode cX7_isSpread 10 = .ok (.goto 4, 3) := by decide +kernel
theorem dX7_isSpread_13 : decode cX7_isSpread 13 = .ok (.iconst 0, 1) := by decide +kernel
theorem dX7_isSpread_14 : decode cX7_isSpread 14 = .ok (.ireturn, 1) := by decide +kernel
theorem dX7_isEither_0 : decode cX7_isEither 0 = .ok (.iload_n 0, 1) := by decide +kernel
theorem dX7_isEither_1 : decode cX7_isEither 1 = .ok (.ifCond .eq 8, 3) := by decide +kernel
theorem dX7_isEither_4 : decode cX7_isEither 4 = .ok (.iload_n 0, 1) := by decide +kernel
theorem dX7_isEither_5 : decode cX7_isEither 5 = .ok (.iconst 1, 1) := by decide +kernel
theorem dX7_isEither_6 : decode cX7_isEither 6 = .ok (.if_icmp .ne 7, 3) := by decide +kernel
theorem dX7_isEither_9 : decode cX7_isEither 9 = .ok (.iconst 1, 1) := by decide +kernel
theorem dX7_isEither_10 : decode cX7_isEither 10 = .ok (.goto 4, 3) := by decide +kernel
theorem dX7_isEither_13 : decode cX7_isEither 13 = .ok (.iconst 0, 1) := by decide +kernel
theorem dX7_isEither_14 : decode cX7_isEither 14 = .ok (.ireturn, 1) := by decide +kernel
theorem dX7_far_0 : decode cX7_far 0 = .ok (.iload_n 0, 1) := by decide +kernel
theorem dX7_far_1 : decode cX7_far 1 = .ok (.bipush 6, 2) := by decide +kernel
theorem dX7_far_3 : decode cX7_far 3 = .ok (.irem, 1) := by decide +kernel
theorem dX7_far_4 : decode cX7_far 4 = .ok (.iload_n 1, 1) := by decide +kernel
theorem dX7_far_5 : decode cX7_far 5 = .ok (.bipush 6, 2) := by decide +kernel
theorem dX7_far_7 : decode cX7_far 7 = .ok (.irem, 1) := by decide +kernel
theorem dX7_far_8 : decode cX7_far 8 = .ok (.isub, 1) := by decide +kernel
theorem dX7_far_9 : decode cX7_far 9 = .ok (.invokestatic 305, 3) := by decide +kernel
theorem dX7_far_12 : decode cX7_far 12 = .ok (.iload_n 0, 1) := by decide +kernel
theorem dX7_far_13 : decode cX7_far 13 = .ok (.bipush 6, 2) := by decide +kernel
theorem dX7_far_15 : decode cX7_far 15 = .ok (.idiv, 1) := by decide +kernel
theorem dX7_far_16 : decode cX7_far 16 = .ok (.iload_n 1, 1) := by decide +kernel
theorem dX7_far_17 : decode cX7_far 17 = .ok (.bipush 6, 2) := by decide +kernel
theorem dX7_far_19 : decode cX7_far 19 = .ok (.idiv, 1) := by decide +kernel
theorem dX7_far_20 : decode cX7_far 20 = .ok (.isub, 1) := by decide +kernel
theorem dX7_far_21 : decode cX7_far 21 = .ok (.invokestatic 305, 3) := by decide +kernel
theorem dX7_far_24 : decode cX7_far 24 = .ok (.iadd, 1) := by decide +kernel
theorem dX7_far_25 : decode cX7_far 25 = .ok (.ireturn, 1) := by decide +kernel
theorem dX7_found_0 : decode cX7_found 0 = .ok (.aload_n 0, 1) := by decide +kernel
theorem dX7_found_1 : decode cX7_found 1 = .ok (.iload_n 1, 1) := by decide +kernel
theorem dX7_found_2 : decode cX7_found 2 = .ok (.putfield 302, 3) := by decide +kernel
theorem dX7_found_5 : decode cX7_found 5 = .ok (.ldc_w 310, 3) := by decide +kernel
theorem dX7_found_8 : decode cX7_found 8 = .ok (.iload_n 1, 1) := by decide +kernel
theorem dX7_found_9 : decode cX7_found 9 = .ok (.isub, 1) := by decide +kernel
theorem dX7_found_10 : decode cX7_found 10 = .ok (.ireturn, 1) := by decide +kernel
theorem dX7_nothingFound_0 : decode cX7_nothingFound 0 = .ok (.aload_n 0, 1) := by decide +kernel
theorem dX7_nothingFound_1 : decode cX7_nothingFound 1 = .ok (.iconst 0, 1) := by decide +kernel
theorem dX7_nothingFound_2 : decode cX7_nothingFound 2 = .ok (.putfield 302, 3) := by decide +kernel
theorem dX7_nothingFound_5 : decode cX7_nothingFound 5 = .ok (.iload_n 1, 1) := by decide +kernel
theorem dX7_nothingFound_6 : decode cX7_nothingFound 6 = .ok (.ireturn, 1) := by decide +kernel
theorem dX7_rowAt_0 : decode cX7_rowAt 0 = .ok (.iload_n 1, 1) := by decide +kernel
theorem dX7_rowAt_1 : decode cX7_rowAt 1 = .ok (.ifCond .lt 21, 3) := by decide +kernel
theorem dX7_rowAt_4 : decode cX7_rowAt 4 = .ok (.iload_n 1, 1) := by decide +kernel
theorem dX7_rowAt_5 : decode cX7_rowAt 5 = .ok (.aload_n 0, 1) := by decide +kernel
theorem dX7_rowAt_6 : decode cX7_rowAt 6 = .ok (.getfield 11, 3) := by decide +kernel
theorem dX7_rowAt_9 : decode cX7_rowAt 9 = .ok (.arraylength, 1) := by decide +kernel
theorem dX7_rowAt_10 : decode cX7_rowAt 10 = .ok (.if_icmp .ge 12, 3) := by decide +kernel
theorem dX7_rowAt_13 : decode cX7_rowAt 13 = .ok (.aload_n 0, 1) := by decide +kernel
theorem dX7_rowAt_14 : decode cX7_rowAt 14 = .ok (.getfield 11, 3) := by decide +kernel
theorem dX7_rowAt_17 : decode cX7_rowAt 17 = .ok (.iload_n 1, 1) := by decide +kernel
theorem dX7_rowAt_18 : decode cX7_rowAt 18 = .ok (.aaload, 1) := by decide +kernel
theorem dX7_rowAt_19 : decode cX7_rowAt 19 = .ok (.goto 4, 3) := by decide +kernel
theorem dX7_rowAt_22 : decode cX7_rowAt 22 = .ok (.aconst_null, 1) := by decide +kernel
theorem dX7_rowAt_23 : decode cX7_rowAt 23 = .ok (.areturn, 1) := by decide +kernel
theorem dX7_imageAt_0 : decode cX7_imageAt 0 = .ok (.iload_n 1, 1) := by decide +kernel
theorem dX7_imageAt_1 : decode cX7_imageAt 1 = .ok (.ifCond .lt 21, 3) := by decide +kernel
theorem dX7_imageAt_4 : decode cX7_imageAt 4 = .ok (.iload_n 1, 1) := by decide +kernel
theorem dX7_imageAt_5 : decode cX7_imageAt 5 = .ok (.aload_n 0, 1) := by decide +kernel
theorem dX7_imageAt_6 : decode cX7_imageAt 6 = .ok (.getfield 35, 3) := by decide +kernel
theorem dX7_imageAt_9 : decode cX7_imageAt 9 = .ok (.arraylength, 1) := by decide +kernel
theorem dX7_imageAt_10 : decode cX7_imageAt 10 = .ok (.if_icmp .ge 12, 3) := by decide +kernel
theorem dX7_imageAt_13 : decode cX7_imageAt 13 = .ok (.aload_n 0, 1) := by decide +kernel
theorem dX7_imageAt_14 : decode cX7_imageAt 14 = .ok (.getfield 35, 3) := by decide +kernel
theorem dX7_imageAt_17 : decode cX7_imageAt 17 = .ok (.iload_n 1, 1) := by decide +kernel
theorem dX7_imageAt_18 : decode cX7_imageAt 18 = .ok (.aaload, 1) := by decide +kernel
theorem dX7_imageAt_19 : decode cX7_imageAt 19 = .ok (.goto 4, 3) := by decide +kernel
theorem dX7_imageAt_22 : decode cX7_imageAt 22 = .ok (.aconst_null, 1) := by decide +kernel
theorem dX7_imageAt_23 : decode cX7_imageAt 23 = .ok (.areturn, 1) := by decide +kernel
theorem dX7_countRows_0 : decode cX7_countRows 0 = .ok (.iconst 0, 1) := by decide +kernel
theorem dX7_countRows_1 : decode cX7_countRows 1 = .ok (.istore_n 1, 1) := by decide +kernel
theorem dX7_countRows_2 : decode cX7_countRows 2 = .ok (.iconst 0, 1) := by decide +kernel
theorem dX7_countRows_3 : decode cX7_countRows 3 = .ok (.istore_n 2, 1) := by decide +kernel
theorem dX7_countRows_4 : decode cX7_countRows 4 = .ok (.iload_n 2, 1) := by decide +kernel
theorem dX7_countRows_5 : decode cX7_countRows 5 = .ok (.aload_n 0, 1) := by decide +kernel
theorem dX7_countRows_6 : decode cX7_countRows 6 = .ok (.getfield 11, 3) := by decide +kernel
theorem dX7_countRows_9 : decode cX7_countRows 9 = .ok (.arraylength, 1) := by decide +kernel
theorem dX7_countRows_10 : decode cX7_countRows 10 = .ok (.if_icmp .ge 29, 3) := by decide +kernel
theorem dX7_countRows_13 : decode cX7_countRows 13 = .ok (.aload_n 0, 1) := by decide +kernel
theorem dX7_countRows_14 : decode cX7_countRows 14 = .ok (.iload_n 2, 1) := by decide +kernel
theorem dX7_countRows_15 : decode cX7_countRows 15 = .ok (.invokevirtual 74, 3) := by decide +kernel
theorem dX7_countRows_18 : decode cX7_countRows 18 = .ok (.astore_n 3, 1) := by decide +kernel
theorem dX7_countRows_19 : decode cX7_countRows 19 = .ok (.aload_n 3, 1) := by decide +kernel
theorem dX7_countRows_20 : decode cX7_countRows 20 = .ok (.ifnull 13, 3) := by decide +kernel
theorem dX7_countRows_23 : decode cX7_countRows 23 = .ok (.aload_n 3, 1) := by decide +kernel
theorem dX7_countRows_24 : decode cX7_countRows 24 = .ok (.invokevirtual 90, 3) := by decide +kernel
theorem dX7_countRows_27 : decode cX7_countRows 27 = .ok (.ifCond .ne 6, 3) := by decide +kernel
theorem dX7_countRows_30 : decode cX7_countRows 30 = .ok (.iinc 1 1, 3) := by decide +kernel
theorem dX7_countRows_33 : decode cX7_countRows 33 = .ok (.iinc 2 1, 3) := by decide +kernel
theorem dX7_countRows_36 : decode cX7_countRows 36 = .ok (.goto (-32), 3) := by decide +kernel
theorem dX7_countRows_39 : decode cX7_countRows 39 = .ok (.iload_n 1, 1) := by decide +kernel
theorem dX7_countRows_40 : decode cX7_countRows 40 = .ok (.ireturn, 1) := by decide +kernel
theorem dX7_throwPennies_0 : decode cX7_throwPennies 0 = .ok (.iload_n 2, 1) := by decide +kernel
theorem dX7_throwPennies_1 : decode cX7_throwPennies 1 = .ok (.i2l, 1) := by decide +kernel
theorem dX7_throwPennies_2 : decode cX7_throwPennies 2 = .ok (.lstore_n 3, 1) := by decide +kernel
theorem dX7_throwPennies_3 : decode cX7_throwPennies 3 = .ok (.iconst 0, 1) := by decide +kernel
theorem dX7_throwPennies_4 : decode cX7_throwPennies 4 = .ok (.istore 5, 2) := by decide +kernel
theorem dX7_throwPennies_6 : decode cX7_throwPennies 6 = .ok (.iconst 0, 1) := by decide +kernel
theorem dX7_throwPennies_7 : decode cX7_throwPennies 7 = .ok (.istore 6, 2) := by decide +kernel
theorem dX7_throwPennies_9 : decode cX7_throwPennies 9 = .ok (.iload 6, 2) := by decide +kernel
theorem dX7_throwPennies_11 : decode cX7_throwPennies 11 = .ok (.iload_n 1, 1) := by decide +kernel
theorem dX7_throwPennies_12 : decode cX7_throwPennies 12 = .ok (.if_icmp .ge 62, 3) := by decide +kernel
theorem dX7_throwPennies_15 : decode cX7_throwPennies 15 = .ok (.lload_n 3, 1) := by decide +kernel
theorem dX7_throwPennies_16 : decode cX7_throwPennies 16 = .ok (.ldc2_w 311, 3) := by decide +kernel
theorem dX7_throwPennies_19 : decode cX7_throwPennies 19 = .ok (.lmul, 1) := by decide +kernel
theorem dX7_throwPennies_20 : decode cX7_throwPennies 20 = .ok (.ldc2_w 313, 3) := by decide +kernel
theorem dX7_throwPennies_23 : decode cX7_throwPennies 23 = .ok (.lrem, 1) := by decide +kernel
theorem dX7_throwPennies_24 : decode cX7_throwPennies 24 = .ok (.lstore_n 3, 1) := by decide +kernel
theorem dX7_throwPennies_25 : decode cX7_throwPennies 25 = .ok (.aload_n 0, 1) := by decide +kernel
theorem dX7_throwPennies_26 : decode cX7_throwPennies 26 = .ok (.getfield 25, 3) := by decide +kernel
theorem dX7_throwPennies_29 : decode cX7_throwPennies 29 = .ok (.aload_n 0, 1) := by decide +kernel
theorem dX7_throwPennies_30 : decode cX7_throwPennies 30 = .ok (.getfield 25, 3) := by decide +kernel
theorem dX7_throwPennies_33 : decode cX7_throwPennies 33 = .ok (.aload_n 0, 1) := by decide +kernel
theorem dX7_throwPennies_34 : decode cX7_throwPennies 34 = .ok (.getfield 49, 3) := by decide +kernel
theorem dX7_throwPennies_37 : decode cX7_throwPennies 37 = .ok (.lload_n 3, 1) := by decide +kernel
theorem dX7_throwPennies_38 : decode cX7_throwPennies 38 = .ok (.invokevirtual 315, 3) := by decide +kernel
theorem dX7_throwPennies_41 : decode cX7_throwPennies 41 = .ok (.invokevirtual 212, 3) := by decide +kernel
theorem dX7_throwPennies_44 : decode cX7_throwPennies 44 = .ok (.invokevirtual 182, 3) := by decide +kernel
theorem dX7_throwPennies_47 : decode cX7_throwPennies 47 = .ok (.astore 7, 2) := by decide +kernel
theorem dX7_throwPennies_49 : decode cX7_throwPennies 49 = .ok (.aload 7, 2) := by decide +kernel
theorem dX7_throwPennies_51 : decode cX7_throwPennies 51 = .ok (.ifnull 17, 3) := by decide +kernel
theorem dX7_throwPennies_54 : decode cX7_throwPennies 54 = .ok (.aload 7, 2) := by decide +kernel
theorem dX7_throwPennies_56 : decode cX7_throwPennies 56 = .ok (.dup, 1) := by decide +kernel
theorem dX7_throwPennies_57 : decode cX7_throwPennies 57 = .ok (.getfield 197, 3) := by decide +kernel
theorem dX7_throwPennies_60 : decode cX7_throwPennies 60 = .ok (.iconst 1, 1) := by decide +kernel
theorem dX7_throwPennies_61 : decode cX7_throwPennies 61 = .ok (.iadd, 1) := by decide +kernel
theorem dX7_throwPennies_62 : decode cX7_throwPennies 62 = .ok (.putfield 197, 3) := by decide +kernel
theorem dX7_throwPennies_65 : decode cX7_throwPennies 65 = .ok (.iinc 5 1, 3) := by decide +kernel
theorem dX7_throwPennies_68 : decode cX7_throwPennies 68 = .ok (.iinc 6 1, 3) := by decide +kernel
theorem dX7_throwPennies_71 : decode cX7_throwPennies 71 = .ok (.goto (-62), 3) := by decide +kernel
theorem dX7_throwPennies_74 : decode cX7_throwPennies 74 = .ok (.iload 5, 2) := by decide +kernel
theorem dX7_throwPennies_76 : decode cX7_throwPennies 76 = .ok (.ireturn, 1) := by decide +kernel
theorem dX7_fractionPart_0 : decode cX7_fractionPart 0 = .ok (.iload_n 0, 1) := by decide +kernel
theorem dX7_fractionPart_1 : decode cX7_fractionPart 1 = .ok (.iload_n 1, 1) := by decide +kernel
theorem dX7_fractionPart_2 : decode cX7_fractionPart 2 = .ok (.invokestatic 319, 3) := by decide +kernel
theorem dX7_fractionPart_5 : decode cX7_fractionPart 5 = .ok (.istore_n 3, 1) := by decide +kernel
theorem dX7_fractionPart_6 : decode cX7_fractionPart 6 = .ok (.iload_n 3, 1) := by decide +kernel
theorem dX7_fractionPart_7 : decode cX7_fractionPart 7 = .ok (.ifCond .ne 5, 3) := by decide +kernel
theorem dX7_fractionPart_10 : decode cX7_fractionPart 10 = .ok (.iconst 0, 1) := by decide +kernel
theorem dX7_fractionPart_11 : decode cX7_fractionPart 11 = .ok (.ireturn, 1) := by decide +kernel
theorem dX7_fractionPart_12 : decode cX7_fractionPart 12 = .ok (.iload_n 2, 1) := by decide +kernel
theorem dX7_fractionPart_13 : decode cX7_fractionPart 13 = .ok (.ifCond .ne 9, 3) := by decide +kernel
theorem dX7_fractionPart_16 : decode cX7_fractionPart 16 = .ok (.iload_n 0, 1) := by decide +kernel
theorem dX7_fractionPart_17 : decode cX7_fractionPart 17 = .ok (.iload_n 3, 1) := by decide +kernel
theorem dX7_fractionPart_18 : decode cX7_fractionPart 18 = .ok (.idiv, 1) := by decide +kernel
theorem dX7_fractionPart_19 : decode cX7_fractionPart 19 = .ok (.goto 6, 3) := by decide +kernel
theorem dX7_fractionPart_22 : decode cX7_fractionPart 22 = .ok (.iload_n 1, 1) := by decide +kernel
theorem dX7_fractionPart_23 : decode cX7_fractionPart 23 = .ok (.iload_n 3, 1) := by decide +kernel
theorem dX7_fractionPart_24 : decode cX7_fractionPart 24 = .ok (.idiv, 1) := by decide +kernel
theorem dX7_fractionPart_25 : decode cX7_fractionPart 25 = .ok (.ireturn, 1) := by decide +kernel
theorem dX7_commonDivisor_0 : decode cX7_commonDivisor 0 = .ok (.iload_n 0, 1) := by decide +kernel
theorem dX7_commonDivisor_1 : decode cX7_commonDivisor 1 = .ok (.istore_n 2, 1) := by decide +kernel
theorem dX7_commonDivisor_2 : decode cX7_commonDivisor 2 = .ok (.iload_n 1, 1) := by decide +kernel
theorem dX7_commonDivisor_3 : decode cX7_commonDivisor 3 = .ok (.istore_n 3, 1) := by decide +kernel
theorem dX7_commonDivisor_4 : decode cX7_commonDivisor 4 = .ok (.iconst 0, 1) := by decide +kernel
theorem dX7_commonDivisor_5 : decode cX7_commonDivisor 5 = .ok (.istore 4, 2) := by decide +kernel
theorem dX7_commonDivisor_7 : decode cX7_commonDivisor 7 = .ok (.iload 4, 2) := by decide +kernel
theorem dX7_commonDivisor_9 : decode cX7_commonDivisor 9 = .ok (.bipush 64, 2) := by decide +kernel
theorem dX7_commonDivisor_11 : decode cX7_commonDivisor 11 = .ok (.if_icmp .ge 23, 3) := by decide +kernel
theorem dX7_commonDivisor_14 : decode cX7_commonDivisor 14 = .ok (.iload_n 3, 1) := by decide +kernel
theorem dX7_commonDivisor_15 : decode cX7_commonDivisor 15 = .ok (.ifCond .eq 19, 3) := by decide +kernel
theorem dX7_commonDivisor_18 : decode cX7_commonDivisor 18 = .ok (.iload_n 2, 1) := by decide +kernel
theorem dX7_commonDivisor_19 : decode cX7_commonDivisor 19 = .ok (.iload_n 3, 1) := by decide +kernel
theorem dX7_commonDivisor_20 : decode cX7_commonDivisor 20 = .ok (.irem, 1) := by decide +kernel
theorem dX7_commonDivisor_21 : decode cX7_commonDivisor 21 = .ok (.istore 5, 2) := by decide +kernel
theorem dX7_commonDivisor_23 : decode cX7_commonDivisor 23 = .ok (.iload_n 3, 1) := by decide +kernel
theorem dX7_commonDivisor_24 : decode cX7_commonDivisor 24 = .ok (.istore_n 2, 1) := by decide +kernel
theorem dX7_commonDivisor_25 : decode cX7_commonDivisor 25 = .ok (.iload 5, 2) := by decide +kernel
theorem dX7_commonDivisor_27 : decode cX7_commonDivisor 27 = .ok (.istore_n 3, 1) := by decide +kernel
theorem dX7_commonDivisor_28 : decode cX7_commonDivisor 28 = .ok (.iinc 4 1, 3) := by decide +kernel
theorem dX7_commonDivisor_31 : decode cX7_commonDivisor 31 = .ok (.goto (-24), 3) := by decide +kernel
theorem dX7_commonDivisor_34 : decode cX7_commonDivisor 34 = .ok (.iload_n 2, 1) := by decide +kernel
theorem dX7_commonDivisor_35 : decode cX7_commonDivisor 35 = .ok (.ireturn, 1) := by decide +kernel
theorem dX7_bestCell_0 : decode cX7_bestCell 0 = .ok (.aload_n 0, 1) := by decide +kernel
theorem dX7_bestCell_1 : decode cX7_bestCell 1 = .ok (.getfield 49, 3) := by decide +kernel
theorem dX7_bestCell_4 : decode cX7_bestCell 4 = .ok (.aload_n 1, 1) := by decide +kernel
theorem dX7_bestCell_5 : decode cX7_bestCell 5 = .ok (.iload_n 2, 1) := by decide +kernel
theorem dX7_bestCell_6 : decode cX7_bestCell 6 = .ok (.iconst (-1), 1) := by decide +kernel
theorem dX7_bestCell_7 : decode cX7_bestCell 7 = .ok (.aload_n 0, 1) := by decide +kernel
theorem dX7_bestCell_8 : decode cX7_bestCell 8 = .ok (.getfield 53, 3) := by decide +kernel
theorem dX7_bestCell_11 : decode cX7_bestCell 11 = .ok (.invokevirtual 234, 3) := by decide +kernel
theorem dX7_bestCell_14 : decode cX7_bestCell 14 = .ok (.aload_n 0, 1) := by decide +kernel
theorem dX7_bestCell_15 : decode cX7_bestCell 15 = .ok (.getfield 53, 3) := by decide +kernel
theorem dX7_bestCell_18 : decode cX7_bestCell 18 = .ok (.invokestatic 247, 3) := by decide +kernel
theorem dX7_bestCell_21 : decode cX7_bestCell 21 = .ok (.ireturn, 1) := by decide +kernel
theorem dX7_largest_0 : decode cX7_largest 0 = .ok (.iconst 0, 1) := by decide +kernel
theorem dX7_largest_1 : decode cX7_largest 1 = .ok (.istore_n 1, 1) := by decide +kernel
theorem dX7_largest_2 : decode cX7_largest 2 = .ok (.iconst (-1), 1) := by decide +kernel
theorem dX7_largest_3 : decode cX7_largest 3 = .ok (.istore_n 2, 1) := by decide +kernel
theorem dX7_largest_4 : decode cX7_largest 4 = .ok (.iconst 0, 1) := by decide +kernel
theorem dX7_largest_5 : decode cX7_largest 5 = .ok (.istore_n 3, 1) := by decide +kernel
theorem dX7_largest_6 : decode cX7_largest 6 = .ok (.iload_n 3, 1) := by decide +kernel
theorem dX7_largest_7 : decode cX7_largest 7 = .ok (.aload_n 0, 1) := by decide +kernel
theorem dX7_largest_8 : decode cX7_largest 8 = .ok (.arraylength, 1) := by decide +kernel
theorem dX7_largest_9 : decode cX7_largest 9 = .ok (.if_icmp .ge 28, 3) := by decide +kernel
theorem dX7_largest_12 : decode cX7_largest 12 = .ok (.aload_n 0, 1) := by decide +kernel
theorem dX7_largest_13 : decode cX7_largest 13 = .ok (.iload_n 3, 1) := by decide +kernel
theorem dX7_largest_14 : decode cX7_largest 14 = .ok (.iaload, 1) := by decide +kernel
theorem dX7_largest_15 : decode cX7_largest 15 = .ok (.invokestatic 255, 3) := by decide +kernel
theorem dX7_largest_18 : decode cX7_largest 18 = .ok (.istore 4, 2) := by decide +kernel
theorem dX7_largest_20 : decode cX7_largest 20 = .ok (.iload 4, 2) := by decide +kernel
theorem dX7_largest_22 : decode cX7_largest 22 = .ok (.iload_n 2, 1) := by decide +kernel
theorem dX7_largest_23 : decode cX7_largest 23 = .ok (.if_icmp .le 8, 3) := by decide +kernel
theorem dX7_largest_26 : decode cX7_largest 26 = .ok (.iload 4, 2) := by decide +kernel
theorem dX7_largest_28 : decode cX7_largest 28 = .ok (.istore_n 2, 1) := by decide +kernel
theorem dX7_largest_29 : decode cX7_largest 29 = .ok (.iload_n 3, 1) := by decide +kernel
theorem dX7_largest_30 : decode cX7_largest 30 = .ok (.istore_n 1, 1) := by decide +kernel
theorem dX7_largest_31 : decode cX7_largest 31 = .ok (.iinc 3 1, 3) := by decide +kernel
theorem dX7_largest_34 : decode cX7_largest 34 = .ok (.goto (-28), 3) := by decide +kernel
theorem dX7_largest_37 : decode cX7_largest 37 = .ok (.iload_n 1, 1) := by decide +kernel
theorem dX7_largest_38 : decode cX7_largest 38 = .ok (.ireturn, 1) := by decide +kernel
theorem dX7_bestPair_0 : decode cX7_bestPair 0 = .ok (.iconst 0, 1) := by decide +kernel
theorem dX7_bestPair_1 : decode cX7_bestPair 1 = .ok (.istore_n 1, 1) := by decide +kernel
theorem dX7_bestPair_2 : decode cX7_bestPair 2 = .ok (.iconst (-1), 1) := by decide +kernel
theorem dX7_bestPair_3 : decode cX7_bestPair 3 = .ok (.istore_n 2, 1) := by decide +kernel
theorem dX7_bestPair_4 : decode cX7_bestPair 4 = .ok (.iconst 0, 1) := by decide +kernel
theorem dX7_bestPair_5 : decode cX7_bestPair 5 = .ok (.istore_n 3, 1) := by decide +kernel
theorem dX7_bestPair_6 : decode cX7_bestPair 6 = .ok (.iload_n 3, 1) := by decide +kernel
theorem dX7_bestPair_7 : decode cX7_bestPair 7 = .ok (.aload_n 0, 1) := by decide +kernel
theorem dX7_bestPair_8 : decode cX7_bestPair 8 = .ok (.getfield 53, 3) := by decide +kernel
theorem dX7_bestPair_11 : decode cX7_bestPair 11 = .ok (.arraylength, 1) := by decide +kernel
theorem dX7_bestPair_12 : decode cX7_bestPair 12 = .ok (.if_icmp .ge 64, 3) := by decide +kernel
theorem dX7_bestPair_15 : decode cX7_bestPair 15 = .ok (.iconst 0, 1) := by decide +kernel
theorem dX7_bestPair_16 : decode cX7_bestPair 16 = .ok (.istore 4, 2) := by decide +kernel
theorem dX7_bestPair_18 : decode cX7_bestPair 18 = .ok (.iload 4, 2) := by decide +kernel
theorem dX7_bestPair_20 : decode cX7_bestPair 20 = .ok (.aload_n 0, 1) := by decide +kernel
theorem dX7_bestPair_21 : decode cX7_bestPair 21 = .ok (.getfield 57, 3) := by decide +kernel
theorem dX7_bestPair_24 : decode cX7_bestPair 24 = .ok (.arraylength, 1) := by decide +kernel
theorem dX7_bestPair_25 : decode cX7_bestPair 25 = .ok (.if_icmp .ge 45, 3) := by decide +kernel
theorem dX7_bestPair_28 : decode cX7_bestPair 28 = .ok (.aload_n 0, 1) := by decide +kernel
theorem dX7_bestPair_29 : decode cX7_bestPair 29 = .ok (.getfield 53, 3) := by decide +kernel
theorem dX7_bestPair_32 : decode cX7_bestPair 32 = .ok (.iload_n 3, 1) := by decide +kernel
theorem dX7_bestPair_33 : decode cX7_bestPair 33 = .ok (.iaload, 1) := by decide +kernel
theorem dX7_bestPair_34 : decode cX7_bestPair 34 = .ok (.aload_n 0, 1) := by decide +kernel
theorem dX7_bestPair_35 : decode cX7_bestPair 35 = .ok (.getfield 57, 3) := by decide +kernel
theorem dX7_bestPair_38 : decode cX7_bestPair 38 = .ok (.iload 4, 2) := by decide +kernel
theorem dX7_bestPair_40 : decode cX7_bestPair 40 = .ok (.iaload, 1) := by decide +kernel
theorem dX7_bestPair_41 : decode cX7_bestPair 41 = .ok (.ior, 1) := by decide +kernel
theorem dX7_bestPair_42 : decode cX7_bestPair 42 = .ok (.invokestatic 255, 3) := by decide +kernel
theorem dX7_bestPair_45 : decode cX7_bestPair 45 = .ok (.istore 5, 2) := by decide +kernel
theorem dX7_bestPair_47 : decode cX7_bestPair 47 = .ok (.iload 5, 2) := by decide +kernel
theorem dX7_bestPair_49 : decode cX7_bestPair 49 = .ok (.iload_n 2, 1) := by decide +kernel
theorem dX7_bestPair_50 : decode cX7_bestPair 50 = .ok (.if_icmp .le 14, 3) := by decide +kernel
theorem dX7_bestPair_53 : decode cX7_bestPair 53 = .ok (.iload 5, 2) := by decide +kernel
theorem dX7_bestPair_55 : decode cX7_bestPair 55 = .ok (.istore_n 2, 1) := by decide +kernel
theorem dX7_bestPair_56 : decode cX7_bestPair 56 = .ok (.iload_n 3, 1) := by decide +kernel
theorem dX7_bestPair_57 : decode cX7_bestPair 57 = .ok (.bipush 30, 2) := by decide +kernel
theorem dX7_bestPair_59 : decode cX7_bestPair 59 = .ok (.imul, 1) := by decide +kernel
theorem dX7_bestPair_60 : decode cX7_bestPair 60 = .ok (.iload 4, 2) := by decide +kernel
theorem dX7_bestPair_62 : decode cX7_bestPair 62 = .ok (.iadd, 1) := by decide +kernel
theorem dX7_bestPair_63 : decode cX7_bestPair 63 = .ok (.istore_n 1, 1) := by decide +kernel
theorem dX7_bestPair_64 : decode cX7_bestPair 64 = .ok (.iinc 4 1, 3) := by decide +kernel
theorem dX7_bestPair_67 : decode cX7_bestPair 67 = .ok (.goto (-49), 3) := by decide +kernel
theorem dX7_bestPair_70 : decode cX7_bestPair 70 = .ok (.iinc 3 1, 3) := by decide +kernel
theorem dX7_bestPair_73 : decode cX7_bestPair 73 = .ok (.goto (-67), 3) := by decide +kernel
theorem dX7_bestPair_76 : decode cX7_bestPair 76 = .ok (.iload_n 1, 1) := by decide +kernel
theorem dX7_bestPair_77 : decode cX7_bestPair 77 = .ok (.ireturn, 1) := by decide +kernel
theorem dX7_settle_0 : decode cX7_settle 0 = .ok (.iconst 1, 1) := by decide +kernel
theorem dX7_settle_1 : decode cX7_settle 1 = .ok (.istore_n 1, 1) := by decide +kernel
theorem dX7_settle_2 : decode cX7_settle 2 = .ok (.iload_n 1, 1) := by decide +kernel
theorem dX7_settle_3 : decode cX7_settle 3 = .ok (.bipush 20, 2) := by decide +kernel
theorem dX7_settle_5 : decode cX7_settle 5 = .ok (.if_icmp .gt 84, 3) := by decide +kernel
theorem dX7_settle_8 : decode cX7_settle 8 = .ok (.iconst 0, 1) := by decide +kernel
theorem dX7_settle_9 : decode cX7_settle 9 = .ok (.istore_n 2, 1) := by decide +kernel
theorem dX7_settle_10 : decode cX7_settle 10 = .ok (.iconst 0, 1) := by decide +kernel
theorem dX7_settle_11 : decode cX7_settle 11 = .ok (.istore_n 3, 1) := by decide +kernel
theorem dX7_settle_12 : decode cX7_settle 12 = .ok (.iload_n 3, 1) := by decide +kernel
theorem dX7_settle_13 : decode cX7_settle 13 = .ok (.iconst 5, 1) := by decide +kernel
theorem dX7_settle_14 : decode cX7_settle 14 = .ok (.if_icmp .ge 63, 3) := by decide +kernel
theorem dX7_settle_17 : decode cX7_settle 17 = .ok (.aload_n 0, 1) := by decide +kernel
theorem dX7_settle_18 : decode cX7_settle 18 = .ok (.getfield 32, 3) := by decide +kernel
theorem dX7_settle_21 : decode cX7_settle 21 = .ok (.iload_n 3, 1) := by decide +kernel
theorem dX7_settle_22 : decode cX7_settle 22 = .ok (.invokevirtual 182, 3) := by decide +kernel
theorem dX7_settle_25 : decode cX7_settle 25 = .ok (.astore 4, 2) := by decide +kernel
theorem dX7_settle_27 : decode cX7_settle 27 = .ok (.aload 4, 2) := by decide +kernel
theorem dX7_settle_29 : decode cX7_settle 29 = .ok (.ifnonnull 7, 3) := by decide +kernel
theorem dX7_settle_32 : decode cX7_settle 32 = .ok (.iconst (-1), 1) := by decide +kernel
theorem dX7_settle_33 : decode cX7_settle 33 = .ok (.goto 12, 3) := by decide +kernel
theorem dX7_settle_36 : decode cX7_settle 36 = .ok (.aload_n 0, 1) := by decide +kernel
theorem dX7_settle_37 : decode cX7_settle 37 = .ok (.aload_n 0, 1) := by decide +kernel
theorem dX7_settle_38 : decode cX7_settle 38 = .ok (.getfield 32, 3) := by decide +kernel
theorem dX7_settle_41 : decode cX7_settle 41 = .ok (.iload_n 3, 1) := by decide +kernel
theorem dX7_settle_42 : decode cX7_settle 42 = .ok (.invokevirtual 231, 3) := by decide +kernel
theorem dX7_settle_45 : decode cX7_settle 45 = .ok (.istore 5, 2) := by decide +kernel
theorem dX7_settle_47 : decode cX7_settle 47 = .ok (.aload 4, 2) := by decide +kernel
theorem dX7_settle_49 : decode cX7_settle 49 = .ok (.ifnull 22, 3) := by decide +kernel
theorem dX7_settle_52 : decode cX7_settle 52 = .ok (.aload 4, 2) := by decide +kernel
theorem dX7_settle_54 : decode cX7_settle 54 = .ok (.getfield 186, 3) := by decide +kernel
theorem dX7_settle_57 : decode cX7_settle 57 = .ok (.iload 5, 2) := by decide +kernel
theorem dX7_settle_59 : decode cX7_settle 59 = .ok (.if_icmp .eq 12, 3) := by decide +kernel
theorem dX7_settle_62 : decode cX7_settle 62 = .ok (.aload 4, 2) := by decide +kernel
theorem dX7_settle_64 : decode cX7_settle 64 = .ok (.iload 5, 2) := by decide +kernel
theorem dX7_settle_66 : decode cX7_settle 66 = .ok (.putfield 186, 3) := by decide +kernel
theorem dX7_settle_69 : decode cX7_settle 69 = .ok (.iconst 1, 1) := by decide +kernel
theorem dX7_settle_70 : decode cX7_settle 70 = .ok (.istore_n 2, 1) := by decide +kernel
theorem dX7_settle_71 : decode cX7_settle 71 = .ok (.iinc 3 1, 3) := by decide +kernel
theorem dX7_settle_74 : decode cX7_settle 74 = .ok (.goto (-62), 3) := by decide +kernel
theorem dX7_settle_77 : decode cX7_settle 77 = .ok (.iload_n 2, 1) := by decide +kernel
theorem dX7_settle_78 : decode cX7_settle 78 = .ok (.ifCond .ne 5, 3) := by decide +kernel
theorem dX7_settle_81 : decode cX7_settle 81 = .ok (.iload_n 1, 1) := by decide +kernel
theorem dX7_settle_82 : decode cX7_settle 82 = .ok (.ireturn, 1) := by decide +kernel
theorem dX7_settle_83 : decode cX7_settle 83 = .ok (.iinc 1 1, 3) := by decide +kernel
theorem dX7_settle_86 : decode cX7_settle 86 = .ok (.goto (-84), 3) := by decide +kernel
theorem dX7_settle_89 : decode cX7_settle 89 = .ok (.ldc 215, 2) := by decide +kernel
theorem dX7_settle_91 : decode cX7_settle 91 = .ok (.ireturn, 1) := by decide +kernel
theorem dX7_tellPleased_0 : decode cX7_tellPleased 0 = .ok (.iconst 0, 1) := by decide +kernel
theorem dX7_tellPleased_1 : decode cX7_tellPleased 1 = .ok (.istore_n 2, 1) := by decide +kernel
theorem dX7_tellPleased_2 : decode cX7_tellPleased 2 = .ok (.iload_n 2, 1) := by decide +kernel
theorem dX7_tellPleased_3 : decode cX7_tellPleased 3 = .ok (.aload_n 0, 1) := by decide +kernel
theorem dX7_tellPleased_4 : decode cX7_tellPleased 4 = .ok (.getfield 60, 3) := by decide +kernel
theorem dX7_tellPleased_7 : decode cX7_tellPleased 7 = .ok (.arraylength, 1) := by decide +kernel
theorem dX7_tellPleased_8 : decode cX7_tellPleased 8 = .ok (.if_icmp .ge 35, 3) := by decide +kernel
theorem dX7_tellPleased_11 : decode cX7_tellPleased 11 = .ok (.aload_n 0, 1) := by decide +kernel
theorem dX7_tellPleased_12 : decode cX7_tellPleased 12 = .ok (.getfield 49, 3) := by decide +kernel
theorem dX7_tellPleased_15 : decode cX7_tellPleased 15 = .ok (.iload_n 2, 1) := by decide +kernel
theorem dX7_tellPleased_16 : decode cX7_tellPleased 16 = .ok (.iload_n 1, 1) := by decide +kernel
theorem dX7_tellPleased_17 : decode cX7_tellPleased 17 = .ok (.invokevirtual 176, 3) := by decide +kernel
theorem dX7_tellPleased_20 : decode cX7_tellPleased 20 = .ok (.aload_n 0, 1) := by decide +kernel
theorem dX7_tellPleased_21 : decode cX7_tellPleased 21 = .ok (.getfield 60, 3) := by decide +kernel
theorem dX7_tellPleased_24 : decode cX7_tellPleased 24 = .ok (.iload_n 2, 1) := by decide +kernel
theorem dX7_tellPleased_25 : decode cX7_tellPleased 25 = .ok (.aload_n 0, 1) := by decide +kernel
theorem dX7_tellPleased_26 : decode cX7_tellPleased 26 = .ok (.getfield 49, 3) := by decide +kernel
theorem dX7_tellPleased_29 : decode cX7_tellPleased 29 = .ok (.aload_n 0, 1) := by decide +kernel
theorem dX7_tellPleased_30 : decode cX7_tellPleased 30 = .ok (.getfield 25, 3) := by decide +kernel
theorem dX7_tellPleased_33 : decode cX7_tellPleased 33 = .ok (.invokevirtual 251, 3) := by decide +kernel
theorem dX7_tellPleased_36 : decode cX7_tellPleased 36 = .ok (.iastore, 1) := by decide +kernel
theorem dX7_tellPleased_37 : decode cX7_tellPleased 37 = .ok (.iinc 2 1, 3) := by decide +kernel
theorem dX7_tellPleased_40 : decode cX7_tellPleased 40 = .ok (.goto (-38), 3) := by decide +kernel
theorem dX7_tellPleased_43 : decode cX7_tellPleased 43 = .ok (.return_, 1) := by decide +kernel
theorem dX7_fewestThrows_0 : decode cX7_fewestThrows 0 = .ok (.iload_n 1, 1) := by decide +kernel
theorem dX7_fewestThrows_1 : decode cX7_fewestThrows 1 = .ok (.ifCond .ne 5, 3) := by decide +kernel
theorem dX7_fewestThrows_4 : decode cX7_fewestThrows 4 = .ok (.iconst 0, 1) := by decide +kernel
theorem dX7_fewestThrows_5 : decode cX7_fewestThrows 5 = .ok (.ireturn, 1) := by decide +kernel
theorem dX7_fewestThrows_6 : decode cX7_fewestThrows 6 = .ok (.aload_n 0, 1) := by decide +kernel
theorem dX7_fewestThrows_7 : decode cX7_fewestThrows 7 = .ok (.iconst 0, 1) := by decide +kernel
theorem dX7_fewestThrows_8 : decode cX7_fewestThrows 8 = .ok (.iconst 0, 1) := by decide +kernel
theorem dX7_fewestThrows_9 : decode cX7_fewestThrows 9 = .ok (.iconst 0, 1) := by decide +kernel
theorem dX7_fewestThrows_10 : decode cX7_fewestThrows 10 = .ok (.iload_n 1, 1) := by decide +kernel
theorem dX7_fewestThrows_11 : decode cX7_fewestThrows 11 = .ok (.invokevirtual 322, 3) := by decide +kernel
theorem dX7_fewestThrows_14 : decode cX7_fewestThrows 14 = .ok (.ifCond .eq 5, 3) := by decide +kernel
theorem dX7_fewestThrows_17 : decode cX7_fewestThrows 17 = .ok (.iconst 1, 1) := by decide +kernel
theorem dX7_fewestThrows_18 : decode cX7_fewestThrows 18 = .ok (.ireturn, 1) := by decide +kernel
theorem dX7_fewestThrows_19 : decode cX7_fewestThrows 19 = .ok (.aload_n 0, 1) := by decide +kernel
theorem dX7_fewestThrows_20 : decode cX7_fewestThrows 20 = .ok (.iconst 0, 1) := by decide +kernel
theorem dX7_fewestThrows_21 : decode cX7_fewestThrows 21 = .ok (.iconst 0, 1) := by decide +kernel
theorem dX7_fewestThrows_22 : decode cX7_fewestThrows 22 = .ok (.iconst 0, 1) := by decide +kernel
theorem dX7_fewestThrows_23 : decode cX7_fewestThrows 23 = .ok (.iload_n 1, 1) := by decide +kernel
theorem dX7_fewestThrows_24 : decode cX7_fewestThrows 24 = .ok (.invokevirtual 326, 3) := by decide +kernel
theorem dX7_fewestThrows_27 : decode cX7_fewestThrows 27 = .ok (.ifCond .eq 5, 3) := by decide +kernel
theorem dX7_fewestThrows_30 : decode cX7_fewestThrows 30 = .ok (.iconst 2, 1) := by decide +kernel
theorem dX7_fewestThrows_31 : decode cX7_fewestThrows 31 = .ok (.ireturn, 1) := by decide +kernel
theorem dX7_fewestThrows_32 : decode cX7_fewestThrows 32 = .ok (.aload_n 0, 1) := by decide +kernel
theorem dX7_fewestThrows_33 : decode cX7_fewestThrows 33 = .ok (.iload_n 1, 1) := by decide +kernel
theorem dX7_fewestThrows_34 : decode cX7_fewestThrows 34 = .ok (.invokevirtual 329, 3) := by decide +kernel
theorem dX7_fewestThrows_37 : decode cX7_fewestThrows 37 = .ok (.ifCond .eq 7, 3) := by decide +kernel
theorem dX7_fewestThrows_40 : decode cX7_fewestThrows 40 = .ok (.iconst 3, 1) := by decide +kernel
theorem dX7_fewestThrows_41 : decode cX7_fewestThrows 41 = .ok (.goto 5, 3) := by decide +kernel
theorem dX7_fewestThrows_44 : decode cX7_fewestThrows 44 = .ok (.ldc 215, 2) := by decide +kernel
theorem dX7_fewestThrows_46 : decode cX7_fewestThrows 46 = .ok (.ireturn, 1) := by decide +kernel
theorem dX7_chooseOne_0 : decode cX7_chooseOne 0 = .ok (.iload_n 2, 1) := by decide +kernel
theorem dX7_chooseOne_1 : decode cX7_chooseOne 1 = .ok (.iconst 0, 1) := by decide +kernel
theorem dX7_chooseOne_2 : decode cX7_chooseOne 2 = .ok (.invokestatic 332, 3) := by decide +kernel
theorem dX7_chooseOne_5 : decode cX7_chooseOne 5 = .ok (.istore 5, 2) := by decide +kernel
theorem dX7_chooseOne_7 : decode cX7_chooseOne 7 = .ok (.iload 5, 2) := by decide +kernel
theorem dX7_chooseOne_9 : decode cX7_chooseOne 9 = .ok (.aload_n 0, 1) := by decide +kernel
theorem dX7_chooseOne_10 : decode cX7_chooseOne 10 = .ok (.getfield 60, 3) := by decide +kernel
theorem dX7_chooseOne_13 : decode cX7_chooseOne 13 = .ok (.arraylength, 1) := by decide +kernel
theorem dX7_chooseOne_14 : decode cX7_chooseOne 14 = .ok (.if_icmp .ge 32, 3) := by decide +kernel
theorem dX7_chooseOne_17 : decode cX7_chooseOne 17 = .ok (.iload_n 3, 1) := by decide +kernel
theorem dX7_chooseOne_18 : decode cX7_chooseOne 18 = .ok (.aload_n 0, 1) := by decide +kernel
theorem dX7_chooseOne_19 : decode cX7_chooseOne 19 = .ok (.getfield 60, 3) := by decide +kernel
theorem dX7_chooseOne_22 : decode cX7_chooseOne 22 = .ok (.iload 5, 2) := by decide +kernel
theorem dX7_chooseOne_24 : decode cX7_chooseOne 24 = .ok (.iaload, 1) := by decide +kernel
theorem dX7_chooseOne_25 : decode cX7_chooseOne 25 = .ok (.ior, 1) := by decide +kernel
theorem dX7_chooseOne_26 : decode cX7_chooseOne 26 = .ok (.iload 4, 2) := by decide +kernel
theorem dX7_chooseOne_28 : decode cX7_chooseOne 28 = .ok (.if_icmp .ne 12, 3) := by decide +kernel
theorem dX7_chooseOne_31 : decode cX7_chooseOne 31 = .ok (.aload_n 0, 1) := by decide +kernel
theorem dX7_chooseOne_32 : decode cX7_chooseOne 32 = .ok (.iload_n 1, 1) := by decide +kernel
theorem dX7_chooseOne_33 : decode cX7_chooseOne 33 = .ok (.iload 5, 2) := by decide +kernel
theorem dX7_chooseOne_35 : decode cX7_chooseOne 35 = .ok (.invokevirtual 335, 3) := by decide +kernel
theorem dX7_chooseOne_38 : decode cX7_chooseOne 38 = .ok (.iconst 1, 1) := by decide +kernel
theorem dX7_chooseOne_39 : decode cX7_chooseOne 39 = .ok (.ireturn, 1) := by decide +kernel
theorem dX7_chooseOne_40 : decode cX7_chooseOne 40 = .ok (.iinc 5 1, 3) := by decide +kernel
theorem dX7_chooseOne_43 : decode cX7_chooseOne 43 = .ok (.goto (-36), 3) := by decide +kernel
theorem dX7_chooseOne_46 : decode cX7_chooseOne 46 = .ok (.iconst 0, 1) := by decide +kernel
theorem dX7_chooseOne_47 : decode cX7_chooseOne 47 = .ok (.ireturn, 1) := by decide +kernel
theorem dX7_chooseTwo_0 : decode cX7_chooseTwo 0 = .ok (.iload_n 2, 1) := by decide +kernel
theorem dX7_chooseTwo_1 : decode cX7_chooseTwo 1 = .ok (.iconst 0, 1) := by decide +kernel
theorem dX7_chooseTwo_2 : decode cX7_chooseTwo 2 = .ok (.invokestatic 332, 3) := by decide +kernel
theorem dX7_chooseTwo_5 : decode cX7_chooseTwo 5 = .ok (.istore 5, 2) := by decide +kernel
theorem dX7_chooseTwo_7 : decode cX7_chooseTwo 7 = .ok (.iload 5, 2) := by decide +kernel
theorem dX7_chooseTwo_9 : decode cX7_chooseTwo 9 = .ok (.aload_n 0, 1) := by decide +kernel
theorem dX7_chooseTwo_10 : decode cX7_chooseTwo 10 = .ok (.getfield 60, 3) := by decide +kernel
theorem dX7_chooseTwo_13 : decode cX7_chooseTwo 13 = .ok (.arraylength, 1) := by decide +kernel
theorem dX7_chooseTwo_14 : decode cX7_chooseTwo 14 = .ok (.if_icmp .ge 43, 3) := by decide +kernel
theorem dX7_chooseTwo_17 : decode cX7_chooseTwo 17 = .ok (.aload_n 0, 1) := by decide +kernel
theorem dX7_chooseTwo_18 : decode cX7_chooseTwo 18 = .ok (.iload_n 1, 1) := by decide +kernel
theorem dX7_chooseTwo_19 : decode cX7_chooseTwo 19 = .ok (.iconst 1, 1) := by decide +kernel
theorem dX7_chooseTwo_20 : decode cX7_chooseTwo 20 = .ok (.iadd, 1) := by decide +kernel
theorem dX7_chooseTwo_21 : decode cX7_chooseTwo 21 = .ok (.iload 5, 2) := by decide +kernel
theorem dX7_chooseTwo_23 : decode cX7_chooseTwo 23 = .ok (.iconst 1, 1) := by decide +kernel
theorem dX7_chooseTwo_24 : decode cX7_chooseTwo 24 = .ok (.iadd, 1) := by decide +kernel
theorem dX7_chooseTwo_25 : decode cX7_chooseTwo 25 = .ok (.iload_n 3, 1) := by decide +kernel
theorem dX7_chooseTwo_26 : decode cX7_chooseTwo 26 = .ok (.aload_n 0, 1) := by decide +kernel
theorem dX7_chooseTwo_27 : decode cX7_chooseTwo 27 = .ok (.getfield 60, 3) := by decide +kernel
theorem dX7_chooseTwo_30 : decode cX7_chooseTwo 30 = .ok (.iload 5, 2) := by decide +kernel
theorem dX7_chooseTwo_32 : decode cX7_chooseTwo 32 = .ok (.iaload, 1) := by decide +kernel
theorem dX7_chooseTwo_33 : decode cX7_chooseTwo 33 = .ok (.ior, 1) := by decide +kernel
theorem dX7_chooseTwo_34 : decode cX7_chooseTwo 34 = .ok (.iload 4, 2) := by decide +kernel
theorem dX7_chooseTwo_36 : decode cX7_chooseTwo 36 = .ok (.invokevirtual 322, 3) := by decide +kernel
theorem dX7_chooseTwo_39 : decode cX7_chooseTwo 39 = .ok (.ifCond .eq 12, 3) := by decide +kernel
theorem dX7_chooseTwo_42 : decode cX7_chooseTwo 42 = .ok (.aload_n 0, 1) := by decide +kernel
theorem dX7_chooseTwo_43 : decode cX7_chooseTwo 43 = .ok (.iload_n 1, 1) := by decide +kernel
theorem dX7_chooseTwo_44 : decode cX7_chooseTwo 44 = .ok (.iload 5, 2) := by decide +kernel
theorem dX7_chooseTwo_46 : decode cX7_chooseTwo 46 = .ok (.invokevirtual 335, 3) := by decide +kernel
theorem dX7_chooseTwo_49 : decode cX7_chooseTwo 49 = .ok (.iconst 1, 1) := by decide +kernel
theorem dX7_chooseTwo_50 : decode cX7_chooseTwo 50 = .ok (.ireturn, 1) := by decide +kernel
theorem dX7_chooseTwo_51 : decode cX7_chooseTwo 51 = .ok (.iinc 5 1, 3) := by decide +kernel
theorem dX7_chooseTwo_54 : decode cX7_chooseTwo 54 = .ok (.goto (-47), 3) := by decide +kernel
theorem dX7_chooseTwo_57 : decode cX7_chooseTwo 57 = .ok (.iconst 0, 1) := by decide +kernel
theorem dX7_chooseTwo_58 : decode cX7_chooseTwo 58 = .ok (.ireturn, 1) := by decide +kernel
theorem dX7_chooseThree_0 : decode cX7_chooseThree 0 = .ok (.iconst 0, 1) := by decide +kernel
theorem dX7_chooseThree_1 : decode cX7_chooseThree 1 = .ok (.istore_n 2, 1) := by decide +kernel
theorem dX7_chooseThree_2 : decode cX7_chooseThree 2 = .ok (.iload_n 2, 1) := by decide +kernel
theorem dX7_chooseThree_3 : decode cX7_chooseThree 3 = .ok (.aload_n 0, 1) := by decide +kernel
theorem dX7_chooseThree_4 : decode cX7_chooseThree 4 = .ok (.getfield 60, 3) := by decide +kernel
theorem dX7_chooseThree_7 : decode cX7_chooseThree 7 = .ok (.arraylength, 1) := by decide +kernel
theorem dX7_chooseThree_8 : decode cX7_chooseThree 8 = .ok (.if_icmp .ge 35, 3) := by decide +kernel
theorem dX7_chooseThree_11 : decode cX7_chooseThree 11 = .ok (.aload_n 0, 1) := by decide +kernel
theorem dX7_chooseThree_12 : decode cX7_chooseThree 12 = .ok (.iconst 1, 1) := by decide +kernel
theorem dX7_chooseThree_13 : decode cX7_chooseThree 13 = .ok (.iload_n 2, 1) := by decide +kernel
theorem dX7_chooseThree_14 : decode cX7_chooseThree 14 = .ok (.iconst 1, 1) := by decide +kernel
theorem dX7_chooseThree_15 : decode cX7_chooseThree 15 = .ok (.iadd, 1) := by decide +kernel
theorem dX7_chooseThree_16 : decode cX7_chooseThree 16 = .ok (.aload_n 0, 1) := by decide +kernel
theorem dX7_chooseThree_17 : decode cX7_chooseThree 17 = .ok (.getfield 60, 3) := by decide +kernel
theorem dX7_chooseThree_20 : decode cX7_chooseThree 20 = .ok (.iload_n 2, 1) := by decide +kernel
theorem dX7_chooseThree_21 : decode cX7_chooseThree 21 = .ok (.iaload, 1) := by decide +kernel
theorem dX7_chooseThree_22 : decode cX7_chooseThree 22 = .ok (.iload_n 1, 1) := by decide +kernel
theorem dX7_chooseThree_23 : decode cX7_chooseThree 23 = .ok (.invokevirtual 326, 3) := by decide +kernel
theorem dX7_chooseThree_26 : decode cX7_chooseThree 26 = .ok (.ifCond .eq 11, 3) := by decide +kernel
theorem dX7_chooseThree_29 : decode cX7_chooseThree 29 = .ok (.aload_n 0, 1) := by decide +kernel
theorem dX7_chooseThree_30 : decode cX7_chooseThree 30 = .ok (.iconst 0, 1) := by decide +kernel
theorem dX7_chooseThree_31 : decode cX7_chooseThree 31 = .ok (.iload_n 2, 1) := by decide +kernel
theorem dX7_chooseThree_32 : decode cX7_chooseThree 32 = .ok (.invokevirtual 335, 3) := by decide +kernel
theorem dX7_chooseThree_35 : decode cX7_chooseThree 35 = .ok (.iconst 1, 1) := by decide +kernel
theorem dX7_chooseThree_36 : decode cX7_chooseThree 36 = .ok (.ireturn, 1) := by decide +kernel
theorem dX7_chooseThree_37 : decode cX7_chooseThree 37 = .ok (.iinc 2 1, 3) := by decide +kernel
theorem dX7_chooseThree_40 : decode cX7_chooseThree 40 = .ok (.goto (-38), 3) := by decide +kernel
theorem dX7_chooseThree_43 : decode cX7_chooseThree 43 = .ok (.iconst 0, 1) := by decide +kernel
theorem dX7_chooseThree_44 : decode cX7_chooseThree 44 = .ok (.ireturn, 1) := by decide +kernel
theorem dX7_choose_0 : decode cX7_choose 0 = .ok (.iload_n 1, 1) := by decide +kernel
theorem dX7_choose_1 : decode cX7_choose 1 = .ok (.ifCond .lt 19, 3) := by decide +kernel
theorem dX7_choose_4 : decode cX7_choose 4 = .ok (.iload_n 1, 1) := by decide +kernel
theorem dX7_choose_5 : decode cX7_choose 5 = .ok (.aload_n 0, 1) := by decide +kernel
theorem dX7_choose_6 : decode cX7_choose 6 = .ok (.getfield 63, 3) := by decide +kernel
theorem dX7_choose_9 : decode cX7_choose 9 = .ok (.arraylength, 1) := by decide +kernel
theorem dX7_choose_10 : decode cX7_choose 10 = .ok (.if_icmp .ge 10, 3) := by decide +kernel
theorem dX7_choose_13 : decode cX7_choose 13 = .ok (.aload_n 0, 1) := by decide +kernel
theorem dX7_choose_14 : decode cX7_choose 14 = .ok (.getfield 63, 3) := by decide +kernel
theorem dX7_choose_17 : decode cX7_choose 17 = .ok (.iload_n 1, 1) := by decide +kernel
theorem dX7_choose_18 : decode cX7_choose 18 = .ok (.iload_n 2, 1) := by decide +kernel
theorem dX7_choose_19 : decode cX7_choose 19 = .ok (.iastore, 1) := by decide +kernel
theorem dX7_choose_20 : decode cX7_choose 20 = .ok (.return_, 1) := by decide +kernel
theorem dX7_cellsWith_0 : decode cX7_cellsWith 0 = .ok (.iconst 0, 1) := by decide +kernel
theorem dX7_cellsWith_1 : decode cX7_cellsWith 1 = .ok (.istore_n 2, 1) := by decide +kernel
theorem dX7_cellsWith_2 : decode cX7_cellsWith 2 = .ok (.iconst 0, 1) := by decide +kernel
theorem dX7_cellsWith_3 : decode cX7_cellsWith 3 = .ok (.istore_n 3, 1) := by decide +kernel
theorem dX7_cellsWith_4 : decode cX7_cellsWith 4 = .ok (.iload_n 3, 1) := by decide +kernel
theorem dX7_cellsWith_5 : decode cX7_cellsWith 5 = .ok (.aload_n 0, 1) := by decide +kernel
theorem dX7_cellsWith_6 : decode cX7_cellsWith 6 = .ok (.getfield 53, 3) := by decide +kernel
theorem dX7_cellsWith_9 : decode cX7_cellsWith 9 = .ok (.arraylength, 1) := by decide +kernel
theorem dX7_cellsWith_10 : decode cX7_cellsWith 10 = .ok (.if_icmp .ge 28, 3) := by decide +kernel
theorem dX7_cellsWith_13 : decode cX7_cellsWith 13 = .ok (.aload_n 0, 1) := by decide +kernel
theorem dX7_cellsWith_14 : decode cX7_cellsWith 14 = .ok (.getfield 53, 3) := by decide +kernel
theorem dX7_cellsWith_17 : decode cX7_cellsWith 17 = .ok (.iload_n 3, 1) := by decide +kernel
theorem dX7_cellsWith_18 : decode cX7_cellsWith 18 = .ok (.iaload, 1) := by decide +kernel
theorem dX7_cellsWith_19 : decode cX7_cellsWith 19 = .ok (.invokestatic 255, 3) := by decide +kernel
theorem dX7_cellsWith_22 : decode cX7_cellsWith 22 = .ok (.iload_n 1, 1) := by decide +kernel
theorem dX7_cellsWith_23 : decode cX7_cellsWith 23 = .ok (.if_icmp .ne 9, 3) := by decide +kernel
theorem dX7_cellsWith_26 : decode cX7_cellsWith 26 = .ok (.iload_n 2, 1) := by decide +kernel
theorem dX7_cellsWith_27 : decode cX7_cellsWith 27 = .ok (.iconst 1, 1) := by decide +kernel
theorem dX7_cellsWith_28 : decode cX7_cellsWith 28 = .ok (.iload_n 3, 1) := by decide +kernel
theorem dX7_cellsWith_29 : decode cX7_cellsWith 29 = .ok (.ishl, 1) := by decide +kernel
theorem dX7_cellsWith_30 : decode cX7_cellsWith 30 = .ok (.ior, 1) := by decide +kernel
theorem dX7_cellsWith_31 : decode cX7_cellsWith 31 = .ok (.istore_n 2, 1) := by decide +kernel
theorem dX7_cellsWith_32 : decode cX7_cellsWith 32 = .ok (.iinc 3 1, 3) := by decide +kernel
theorem dX7_cellsWith_35 : decode cX7_cellsWith 35 = .ok (.goto (-31), 3) := by decide +kernel
theorem dX7_cellsWith_38 : decode cX7_cellsWith 38 = .ok (.iload_n 2, 1) := by decide +kernel
theorem dX7_cellsWith_39 : decode cX7_cellsWith 39 = .ok (.ireturn, 1) := by decide +kernel
