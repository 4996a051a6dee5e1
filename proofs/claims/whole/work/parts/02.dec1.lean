theorem dX0_init_0 : decode cX0_init 0 = .ok (.aload_n 0, 1) := by decide +kernel
theorem dX0_init_1 : decode cX0_init 1 = .ok (.invokespecial 5, 3) := by decide +kernel
theorem dX0_init_4 : decode cX0_init 4 = .ok (.aload_n 0, 1) := by decide +kernel
theorem dX0_init_5 : decode cX0_init 5 = .ok (.bipush 14, 2) := by decide +kernel
theorem dX0_init_7 : decode cX0_init 7 = .ok (.newarray .int, 2) := by decide +kernel
theorem dX0_init_9 : decode cX0_init 9 = .ok (.putfield 11, 3) := by decide +kernel
theorem dX0_init_12 : decode cX0_init 12 = .ok (.aload_n 0, 1) := by decide +kernel
theorem dX0_init_13 : decode cX0_init 13 = .ok (.bipush 8, 2) := by decide +kernel
theorem dX0_init_15 : decode cX0_init 15 = .ok (.bipush 14, 2) := by decide +kernel
theorem dX0_init_17 : decode cX0_init 17 = .ok (.multianewarray 15 2, 4) := by decide +kernel
theorem dX0_init_21 : decode cX0_init 21 = .ok (.putfield 17, 3) := by decide +kernel
theorem dX0_init_24 : decode cX0_init 24 = .ok (.aload_n 0, 1) := by decide +kernel
theorem dX0_init_25 : decode cX0_init 25 = .ok (.iconst 2, 1) := by decide +kernel
theorem dX0_init_26 : decode cX0_init 26 = .ok (.bipush 14, 2) := by decide +kernel
theorem dX0_init_28 : decode cX0_init 28 = .ok (.multianewarray 15 2, 4) := by decide +kernel
theorem dX0_init_32 : decode cX0_init 32 = .ok (.putfield 20, 3) := by decide +kernel
theorem dX0_init_35 : decode cX0_init 35 = .ok (.aload_n 0, 1) := by decide +kernel
theorem dX0_init_36 : decode cX0_init 36 = .ok (.iconst 2, 1) := by decide +kernel
theorem dX0_init_37 : decode cX0_init 37 = .ok (.newarray .boolean, 2) := by decide +kernel
theorem dX0_init_39 : decode cX0_init 39 = .ok (.putfield 23, 3) := by decide +kernel
theorem dX0_init_42 : decode cX0_init 42 = .ok (.return_, 1) := by decide +kernel
theorem dX0_begin_0 : decode cX0_begin 0 = .ok (.aload_n 0, 1) := by decide +kernel
theorem dX0_begin_1 : decode cX0_begin 1 = .ok (.getfield 11, 3) := by decide +kernel
theorem dX0_begin_4 : decode cX0_begin 4 = .ok (.iconst 0, 1) := by decide +kernel
theorem dX0_begin_5 : decode cX0_begin 5 = .ok (.invokestatic 27, 3) := by decide +kernel
theorem dX0_begin_8 : decode cX0_begin 8 = .ok (.iconst 0, 1) := by decide +kernel
theorem dX0_begin_9 : decode cX0_begin 9 = .ok (.istore_n 1, 1) := by decide +kernel
theorem dX0_begin_10 : decode cX0_begin 10 = .ok (.iload_n 1, 1) := by decide +kernel
theorem dX0_begin_11 : decode cX0_begin 11 = .ok (.iconst 2, 1) := by decide +kernel
theorem dX0_begin_12 : decode cX0_begin 12 = .ok (.if_icmp .ge 16, 3) := by decide +kernel
theorem dX0_begin_15 : decode cX0_begin 15 = .ok (.aload_n 0, 1) := by decide +kernel
theorem dX0_begin_16 : decode cX0_begin 16 = .ok (.getfield 23, 3) := by decide +kernel
theorem dX0_begin_19 : decode cX0_begin 19 = .ok (.iload_n 1, 1) := by decide +kernel
theorem dX0_begin_20 : decode cX0_begin 20 = .ok (.iconst 0, 1) := by decide +kernel
theorem dX0_begin_21 : decode cX0_begin 21 = .ok (.bastore, 1) := by decide +kernel
theorem dX0_begin_22 : decode cX0_begin 22 = .ok (.iinc 1 1, 3) := by decide +kernel
theorem dX0_begin_25 : decode cX0_begin 25 = .ok (.goto (-15), 3) := by decide +kernel
theorem dX0_begin_28 : decode cX0_begin 28 = .ok (.aload_n 0, 1) := by decide +kernel
theorem dX0_begin_29 : decode cX0_begin 29 = .ok (.iconst 0, 1) := by decide +kernel
theorem dX0_begin_30 : decode cX0_begin 30 = .ok (.putfield 33, 3) := by decide +kernel
theorem dX0_begin_33 : decode cX0_begin 33 = .ok (.return_, 1) := by decide +kernel
theorem dX0_today_0 : decode cX0_today 0 = .ok (.aload_n 0, 1) := by decide +kernel
theorem dX0_today_1 : decode cX0_today 1 = .ok (.getfield 11, 3) := by decide +kernel
theorem dX0_today_4 : decode cX0_today 4 = .ok (.iconst 0, 1) := by decide +kernel
theorem dX0_today_5 : decode cX0_today 5 = .ok (.iaload, 1) := by decide +kernel
theorem dX0_today_6 : decode cX0_today 6 = .ok (.ireturn, 1) := by decide +kernel
theorem dX0_paid_0 : decode cX0_paid 0 = .ok (.aload_n 0, 1) := by decide +kernel
theorem dX0_paid_1 : decode cX0_paid 1 = .ok (.getfield 11, 3) := by decide +kernel
theorem dX0_paid_4 : decode cX0_paid 4 = .ok (.iconst 1, 1) := by decide +kernel
theorem dX0_paid_5 : decode cX0_paid 5 = .ok (.iaload, 1) := by decide +kernel
theorem dX0_paid_6 : decode cX0_paid 6 = .ok (.ireturn, 1) := by decide +kernel
theorem dX0_areOver_0 : decode cX0_areOver 0 = .ok (.aload_n 0, 1) := by decide +kernel
theorem dX0_areOver_1 : decode cX0_areOver 1 = .ok (.getfield 11, 3) := by decide +kernel
theorem dX0_areOver_4 : decode cX0_areOver 4 = .ok (.iconst 0, 1) := by decide +kernel
theorem dX0_areOver_5 : decode cX0_areOver 5 = .ok (.iaload, 1) := by decide +kernel
theorem dX0_areOver_6 : decode cX0_areOver 6 = .ok (.bipush 99, 2) := by decide +kernel
theorem dX0_areOver_8 : decode cX0_areOver 8 = .ok (.if_icmp .lt 7, 3) := by decide +kernel
theorem dX0_areOver_11 : decode cX0_areOver 11 = .ok (.iconst 1, 1) := by decide +kernel
theorem dX0_areOver_12 : decode cX0_areOver 12 = .ok (.goto 4, 3) := by decide +kernel
theorem dX0_areOver_15 : decode cX0_areOver 15 = .ok (.iconst 0, 1) := by decide +kernel
theorem dX0_areOver_16 : decode cX0_areOver 16 = .ok (.ireturn, 1) := by decide +kernel
theorem dX0_fateOf_0 : decode cX0_fateOf 0 = .ok (.iload_n 1, 1) := by decide +kernel
theorem dX0_fateOf_1 : decode cX0_fateOf 1 = .ok (.ifCond .lt 20, 3) := by decide +kernel
theorem dX0_fateOf_4 : decode cX0_fateOf 4 = .ok (.iload_n 1, 1) := by decide +kernel
theorem dX0_fateOf_5 : decode cX0_fateOf 5 = .ok (.bipush 6, 2) := by decide +kernel
theorem dX0_fateOf_7 : decode cX0_fateOf 7 = .ok (.if_icmp .ge 14, 3) := by decide +kernel
theorem dX0_fateOf_10 : decode cX0_fateOf 10 = .ok (.aload_n 0, 1) := by decide +kernel
theorem dX0_fateOf_11 : decode cX0_fateOf 11 = .ok (.getfield 11, 3) := by decide +kernel
theorem dX0_fateOf_14 : decode cX0_fateOf 14 = .ok (.iconst 2, 1) := by decide +kernel
theorem dX0_fateOf_15 : decode cX0_fateOf 15 = .ok (.iload_n 1, 1) := by decide +kernel
theorem dX0_fateOf_16 : decode cX0_fateOf 16 = .ok (.iadd, 1) := by decide +kernel
theorem dX0_fateOf_17 : decode cX0_fateOf 17 = .ok (.iaload, 1) := by decide +kernel
theorem dX0_fateOf_18 : decode cX0_fateOf 18 = .ok (.goto 4, 3) := by decide +kernel
theorem dX0_fateOf_21 : decode cX0_fateOf 21 = .ok (.iconst 0, 1) := by decide +kernel
theorem dX0_fateOf_22 : decode cX0_fateOf 22 = .ok (.ireturn, 1) := by decide +kernel
theorem dX0_usesOf_0 : decode cX0_usesOf 0 = .ok (.iload_n 1, 1) := by decide +kernel
theorem dX0_usesOf_1 : decode cX0_usesOf 1 = .ok (.ifCond .lt 21, 3) := by decide +kernel
theorem dX0_usesOf_4 : decode cX0_usesOf 4 = .ok (.iload_n 1, 1) := by decide +kernel
theorem dX0_usesOf_5 : decode cX0_usesOf 5 = .ok (.bipush 6, 2) := by decide +kernel
theorem dX0_usesOf_7 : decode cX0_usesOf 7 = .ok (.if_icmp .ge 15, 3) := by decide +kernel
theorem dX0_usesOf_10 : decode cX0_usesOf 10 = .ok (.aload_n 0, 1) := by decide +kernel
theorem dX0_usesOf_11 : decode cX0_usesOf 11 = .ok (.getfield 11, 3) := by decide +kernel
theorem dX0_usesOf_14 : decode cX0_usesOf 14 = .ok (.bipush 8, 2) := by decide +kernel
theorem dX0_usesOf_16 : decode cX0_usesOf 16 = .ok (.iload_n 1, 1) := by decide +kernel
theorem dX0_usesOf_17 : decode cX0_usesOf 17 = .ok (.iadd, 1) := by decide +kernel
theorem dX0_usesOf_18 : decode cX0_usesOf 18 = .ok (.iaload, 1) := by decide +kernel
theorem dX0_usesOf_19 : decode cX0_usesOf 19 = .ok (.goto 4, 3) := by decide +kernel
theorem dX0_usesOf_22 : decode cX0_usesOf 22 = .ok (.iconst 0, 1) := by decide +kernel
theorem dX0_usesOf_23 : decode cX0_usesOf 23 = .ok (.ireturn, 1) := by decide +kernel
theorem dX0_use_0 : decode cX0_use 0 = .ok (.iload_n 1, 1) := by decide +kernel
theorem dX0_use_1 : decode cX0_use 1 = .ok (.ifCond .lt 22, 3) := by decide +kernel
theorem dX0_use_4 : decode cX0_use 4 = .ok (.iload_n 1, 1) := by decide +kernel
theorem dX0_use_5 : decode cX0_use 5 = .ok (.bipush 6, 2) := by decide +kernel
theorem dX0_use_7 : decode cX0_use 7 = .ok (.if_icmp .ge 16, 3) := by decide +kernel
theorem dX0_use_10 : decode cX0_use 10 = .ok (.aload_n 0, 1) := by decide +kernel
theorem dX0_use_11 : decode cX0_use 11 = .ok (.getfield 11, 3) := by decide +kernel
theorem dX0_use_14 : decode cX0_use 14 = .ok (.bipush 8, 2) := by decide +kernel
theorem dX0_use_16 : decode cX0_use 16 = .ok (.iload_n 1, 1) := by decide +kernel
theorem dX0_use_17 : decode cX0_use 17 = .ok (.iadd, 1) := by decide +kernel
theorem dX0_use_18 : decode cX0_use 18 = .ok (.dup2, 1) := by decide +kernel
theorem dX0_use_19 : decode cX0_use 19 = .ok (.iaload, 1) := by decide +kernel
theorem dX0_use_20 : decode cX0_use 20 = .ok (.iconst 1, 1) := by decide +kernel
theorem dX0_use_21 : decode cX0_use 21 = .ok (.iadd, 1) := by decide +kernel
theorem dX0_use_22 : decode cX0_use 22 = .ok (.iastore, 1) := by decide +kernel
theorem dX0_use_23 : decode cX0_use 23 = .ok (.return_, 1) := by decide +kernel
theorem dX0_settle_0 : decode cX0_settle 0 = .ok (.iload_n 1, 1) := by decide +kernel
theorem dX0_settle_1 : decode cX0_settle 1 = .ok (.ifCond .lt 18, 3) := by decide +kernel
theorem dX0_settle_4 : decode cX0_settle 4 = .ok (.iload_n 1, 1) := by decide +kernel
theorem dX0_settle_5 : decode cX0_settle 5 = .ok (.bipush 6, 2) := by decide +kernel
theorem dX0_settle_7 : decode cX0_settle 7 = .ok (.if_icmp .ge 12, 3) := by decide +kernel
theorem dX0_settle_10 : decode cX0_settle 10 = .ok (.aload_n 0, 1) := by decide +kernel
theorem dX0_settle_11 : decode cX0_settle 11 = .ok (.getfield 11, 3) := by decide +kernel
theorem dX0_settle_14 : decode cX0_settle 14 = .ok (.iconst 2, 1) := by decide +kernel
theorem dX0_settle_15 : decode cX0_settle 15 = .ok (.iload_n 1, 1) := by decide +kernel
theorem dX0_settle_16 : decode cX0_settle 16 = .ok (.iadd, 1) := by decide +kernel
theorem dX0_settle_17 : decode cX0_settle 17 = .ok (.iload_n 2, 1) := by decide +kernel
theorem dX0_settle_18 : decode cX0_settle 18 = .ok (.iastore, 1) := by decide +kernel
theorem dX0_settle_19 : decode cX0_settle 19 = .ok (.aload_n 0, 1) := by decide +kernel
theorem dX0_settle_20 : decode cX0_settle 20 = .ok (.getfield 11, 3) := by decide +kernel
theorem dX0_settle_23 : decode cX0_settle 23 = .ok (.iconst 1, 1) := by decide +kernel
theorem dX0_settle_24 : decode cX0_settle 24 = .ok (.dup2, 1) := by decide +kernel
theorem dX0_settle_25 : decode cX0_settle 25 = .ok (.iaload, 1) := by decide +kernel
theorem dX0_settle_26 : decode cX0_settle 26 = .ok (.iload_n 3, 1) := by decide +kernel
theorem dX0_settle_27 : decode cX0_settle 27 = .ok (.iadd, 1) := by decide +kernel
theorem dX0_settle_28 : decode cX0_settle 28 = .ok (.iastore, 1) := by decide +kernel
theorem dX0_settle_29 : decode cX0_settle 29 = .ok (.aload_n 0, 1) := by decide +kernel
theorem dX0_settle_30 : decode cX0_settle 30 = .ok (.getfield 11, 3) := by decide +kernel
theorem dX0_settle_33 : decode cX0_settle 33 = .ok (.iconst 0, 1) := by decide +kernel
theorem dX0_settle_34 : decode cX0_settle 34 = .ok (.dup2, 1) := by decide +kernel
theorem dX0_settle_35 : decode cX0_settle 35 = .ok (.iaload, 1) := by decide +kernel
theorem dX0_settle_36 : decode cX0_settle 36 = .ok (.iconst 1, 1) := by decide +kernel
theorem dX0_settle_37 : decode cX0_settle 37 = .ok (.iadd, 1) := by decide +kernel
theorem dX0_settle_38 : decode cX0_settle 38 = .ok (.iastore, 1) := by decide +kernel
theorem dX0_settle_39 : decode cX0_settle 39 = .ok (.iload_n 3, 1) := by decide +kernel
theorem dX0_settle_40 : decode cX0_settle 40 = .ok (.ireturn, 1) := by decide +kernel
theorem dX0_pass_0 : decode cX0_pass 0 = .ok (.aload_n 0, 1) := by decide +kernel
theorem dX0_pass_1 : decode cX0_pass 1 = .ok (.getfield 11, 3) := by decide +kernel
theorem dX0_pass_4 : decode cX0_pass 4 = .ok (.iconst 0, 1) := by decide +kernel
theorem dX0_pass_5 : decode cX0_pass 5 = .ok (.dup2, 1) := by decide +kernel
theorem dX0_pass_6 : decode cX0_pass 6 = .ok (.iaload, 1) := by decide +kernel
theorem dX0_pass_7 : decode cX0_pass 7 = .ok (.iconst 1, 1) := by decide +kernel
theorem dX0_pass_8 : decode cX0_pass 8 = .ok (.iadd, 1) := by decide +kernel
theorem dX0_pass_9 : decode cX0_pass 9 = .ok (.iastore, 1) := by decide +kernel
theorem dX0_pass_10 : decode cX0_pass 10 = .ok (.aload_n 0, 1) := by decide +kernel
theorem dX0_pass_11 : decode cX0_pass 11 = .ok (.getfield 11, 3) := by decide +kernel
theorem dX0_pass_14 : decode cX0_pass 14 = .ok (.iconst 0, 1) := by decide +kernel
theorem dX0_pass_15 : decode cX0_pass 15 = .ok (.iaload, 1) := by decide +kernel
theorem dX0_pass_16 : decode cX0_pass 16 = .ok (.ireturn, 1) := by decide +kernel
theorem dX0_remember_0 : decode cX0_remember 0 = .ok (.aload_n 0, 1) := by decide +kernel
theorem dX0_remember_1 : decode cX0_remember 1 = .ok (.getfield 37, 3) := by decide +kernel
theorem dX0_remember_4 : decode cX0_remember 4 = .ok (.ifCond .lt 12, 3) := by decide +kernel
theorem dX0_remember_7 : decode cX0_remember 7 = .ok (.aload_n 0, 1) := by decide +kernel
theorem dX0_remember_8 : decode cX0_remember 8 = .ok (.getfield 37, 3) := by decide +kernel
theorem dX0_remember_11 : decode cX0_remember 11 = .ok (.bipush 8, 2) := by decide +kernel
theorem dX0_remember_13 : decode cX0_remember 13 = .ok (.if_icmp .lt 8, 3) := by decide +kernel
theorem dX0_remember_16 : decode cX0_remember 16 = .ok (.aload_n 0, 1) := by decide +kernel
theorem dX0_remember_17 : decode cX0_remember 17 = .ok (.iconst 0, 1) := by decide +kernel
theorem dX0_remember_18 : decode cX0_remember 18 = .ok (.putfield 37, 3) := by decide +kernel
theorem dX0_remember_21 : decode cX0_remember 21 = .ok (.aload_n 0, 1) := by decide +kernel
theorem dX0_remember_22 : decode cX0_remember 22 = .ok (.getfield 11, 3) := by decide +kernel
theorem dX0_remember_25 : decode cX0_remember 25 = .ok (.iconst 0, 1) := by decide +kernel
theorem dX0_remember_26 : decode cX0_remember 26 = .ok (.aload_n 0, 1) := by decide +kernel
theorem dX0_remember_27 : decode cX0_remember 27 = .ok (.getfield 17, 3) := by decide +kernel
theorem dX0_remember_30 : decode cX0_remember 30 = .ok (.aload_n 0, 1) := by decide +kernel
theorem dX0_remember_31 : decode cX0_remember 31 = .ok (.getfield 37, 3) := by decide +kernel
theorem dX0_remember_34 : decode cX0_remember 34 = .ok (.aaload, 1) := by decide +kernel
theorem dX0_remember_35 : decode cX0_remember 35 = .ok (.iconst 0, 1) := by decide +kernel
theorem dX0_remember_36 : decode cX0_remember 36 = .ok (.bipush 14, 2) := by decide +kernel
theorem dX0_remember_38 : decode cX0_remember 38 = .ok (.invokestatic 40, 3) := by decide +kernel
theorem dX0_remember_41 : decode cX0_remember 41 = .ok (.aload_n 0, 1) := by decide +kernel
theorem dX0_remember_42 : decode cX0_remember 42 = .ok (.aload_n 0, 1) := by decide +kernel
theorem dX0_remember_43 : decode cX0_remember 43 = .ok (.getfield 37, 3) := by decide +kernel
theorem dX0_remember_46 : decode cX0_remember 46 = .ok (.bipush 7, 2) := by decide +kernel
theorem dX0_remember_48 : decode cX0_remember 48 = .ok (.if_icmp .ne 7, 3) := by decide +kernel
theorem dX0_remember_51 : decode cX0_remember 51 = .ok (.iconst 0, 1) := by decide +kernel
theorem dX0_remember_52 : decode cX0_remember 52 = .ok (.goto 9, 3) := by decide +kernel
theorem dX0_remember_55 : decode cX0_remember 55 = .ok (.aload_n 0, 1) := by decide +kernel
theorem dX0_remember_56 : decode cX0_remember 56 = .ok (.getfield 37, 3) := by decide +kernel
theorem dX0_remember_59 : decode cX0_remember 59 = .ok (.iconst 1, 1) := by decide +kernel
theorem dX0_remember_60 : decode cX0_remember 60 = .ok (.iadd, 1) := by decide +kernel
theorem dX0_remember_61 : decode cX0_remember 61 = .ok (.putfield 37, 3) := by decide +kernel
theorem dX0_remember_64 : decode cX0_remember 64 = .ok (.aload_n 0, 1) := by decide +kernel
theorem dX0_remember_65 : decode cX0_remember 65 = .ok (.aload_n 0, 1) := by decide +kernel
theorem dX0_remember_66 : decode cX0_remember 66 = .ok (.getfield 33, 3) := by decide +kernel
theorem dX0_remember_69 : decode cX0_remember 69 = .ok (.iconst 1, 1) := by decide +kernel
theorem dX0_remember_70 : decode cX0_remember 70 = .ok (.iadd, 1) := by decide +kernel
theorem dX0_remember_71 : decode cX0_remember 71 = .ok (.bipush 8, 2) := by decide +kernel
theorem dX0_remember_73 : decode cX0_remember 73 = .ok (.invokestatic 46, 3) := by decide +kernel
theorem dX0_remember_76 : decode cX0_remember 76 = .ok (.putfield 33, 3) := by decide +kernel
theorem dX0_remember_79 : decode cX0_remember 79 = .ok (.return_, 1) := by decide +kernel
theorem dX0_takeBack_0 : decode cX0_takeBack 0 = .ok (.aload_n 0, 1) := by decide +kernel
theorem dX0_takeBack_1 : decode cX0_takeBack 1 = .ok (.aload_n 0, 1) := by decide +kernel
theorem dX0_takeBack_2 : decode cX0_takeBack 2 = .ok (.getfield 37, 3) := by decide +kernel
theorem dX0_takeBack_5 : decode cX0_takeBack 5 = .ok (.ifCond .le 12, 3) := by decide +kernel
theorem dX0_takeBack_8 : decode cX0_takeBack 8 = .ok (.aload_n 0, 1) := by decide +kernel
theorem dX0_takeBack_9 : decode cX0_takeBack 9 = .ok (.getfield 37, 3) := by decide +kernel
theorem dX0_takeBack_12 : decode cX0_takeBack 12 = .ok (.bipush 8, 2) := by decide +kernel
theorem dX0_takeBack_14 : decode cX0_takeBack 14 = .ok (.if_icmp .lt 8, 3) := by decide +kernel
theorem dX0_takeBack_17 : decode cX0_takeBack 17 = .ok (.bipush 7, 2) := by decide +kernel
theorem dX0_takeBack_19 : decode cX0_takeBack 19 = .ok (.goto 9, 3) := by decide +kernel
theorem dX0_takeBack_22 : decode cX0_takeBack 22 = .ok (.aload_n 0, 1) := by decide +kernel
theorem dX0_takeBack_23 : decode cX0_takeBack 23 = .ok (.getfield 37, 3) := by decide +kernel
theorem dX0_takeBack_26 : decode cX0_takeBack 26 = .ok (.iconst 1, 1) := by decide +kernel
theorem dX0_takeBack_27 : decode cX0_takeBack 27 = .ok (.isub, 1) := by decide +kernel
theorem dX0_takeBack_28 : decode cX0_takeBack 28 = .ok (.putfield 37, 3) := by decide +kernel
theorem dX0_takeBack_31 : decode cX0_takeBack 31 = .ok (.aload_n 0, 1) := by decide +kernel
theorem dX0_takeBack_32 : decode cX0_takeBack 32 = .ok (.getfield 17, 3) := by decide +kernel
theorem dX0_takeBack_35 : decode cX0_takeBack 35 = .ok (.aload_n 0, 1) := by decide +kernel
theorem dX0_takeBack_36 : decode cX0_takeBack 36 = .ok (.getfield 37, 3) := by decide +kernel
theorem dX0_takeBack_39 : decode cX0_takeBack 39 = .ok (.aaload, 1) := by decide +kernel
theorem dX0_takeBack_40 : decode cX0_takeBack 40 = .ok (.iconst 0, 1) := by decide +kernel
theorem dX0_takeBack_41 : decode cX0_takeBack 41 = .ok (.aload_n 0, 1) := by decide +kernel
theorem dX0_takeBack_42 : decode cX0_takeBack 42 = .ok (.getfield 11, 3) := by decide +kernel
theorem dX0_takeBack_45 : decode cX0_takeBack 45 = .ok (.iconst 0, 1) := by decide +kernel
theorem dX0_takeBack_46 : decode cX0_takeBack 46 = .ok (.bipush 14, 2) := by decide +kernel
theorem dX0_takeBack_48 : decode cX0_takeBack 48 = .ok (.invokestatic 40, 3) := by decide +kernel
theorem dX0_takeBack_51 : decode cX0_takeBack 51 = .ok (.aload_n 0, 1) := by decide +kernel
theorem dX0_takeBack_52 : decode cX0_takeBack 52 = .ok (.dup, 1) := by decide +kernel
theorem dX0_takeBack_53 : decode cX0_takeBack 53 = .ok (.getfield 33, 3) := by decide +kernel
theorem dX0_takeBack_56 : decode cX0_takeBack 56 = .ok (.iconst 1, 1) := by decide +kernel
theorem dX0_takeBack_57 : decode cX0_takeBack 57 = .ok (.isub, 1) := by decide +kernel
theorem dX0_takeBack_58 : decode cX0_takeBack 58 = .ok (.putfield 33, 3) := by decide +kernel
theorem dX0_takeBack_61 : decode cX0_takeBack 61 = .ok (.aload_n 0, 1) := by decide +kernel
theorem dX0_takeBack_62 : decode cX0_takeBack 62 = .ok (.getfield 33, 3) := by decide +kernel
theorem dX0_takeBack_65 : decode cX0_takeBack 65 = .ok (.ireturn, 1) := by decide +kernel
theorem dX0_isStored_0 : decode cX0_isStored 0 = .ok (.iload_n 1, 1) := by decide +kernel
theorem dX0_isStored_1 : decode cX0_isStored 1 = .ok (.ifCond .lt 21, 3) := by decide +kernel
theorem dX0_isStored_4 : decode cX0_isStored 4 = .ok (.iload_n 1, 1) := by decide +kernel
theorem dX0_isStored_5 : decode cX0_isStored 5 = .ok (.iconst 2, 1) := by decide +kernel
theorem dX0_isStored_6 : decode cX0_isStored 6 = .ok (.if_icmp .ge 16, 3) := by decide +kernel
theorem dX0_isStored_9 : decode cX0_isStored 9 = .ok (.aload_n 0, 1) := by decide +kernel
theorem dX0_isStored_10 : decode cX0_isStored 10 = .ok (.getfield 23, 3) := by decide +kernel
theorem dX0_isStored_13 : decode cX0_isStored 13 = .ok (.iload_n 1, 1) := by decide +kernel
theorem dX0_isStored_14 : decode cX0_isStored 14 = .ok (.baload, 1) := by decide +kernel
theorem dX0_isStored_15 : decode cX0_isStored 15 = .ok (.ifCond .eq 7, 3) := by decide +kernel
theorem dX0_isStored_18 : decode cX0_isStored 18 = .ok (.iconst 1, 1) := by decide +kernel
theorem dX0_isStored_19 : decode cX0_isStored 19 = .ok (.goto 4, 3) := by decide +kernel
theorem dX0_isStored_22 : decode cX0_isStored 22 = .ok (.iconst 0, 1) := by decide +kernel
theorem dX0_isStored_23 : decode cX0_isStored 23 = .ok (.ireturn, 1) := by decide +kernel
theorem dX0_store_0 : decode cX0_store 0 = .ok (.iload_n 1, 1) := by decide +kernel
theorem dX0_store_1 : decode cX0_store 1 = .ok (.ifCond .lt 32, 3) := by decide +kernel
theorem dX0_store_4 : decode cX0_store 4 = .ok (.iload_n 1, 1) := by decide +kernel
theorem dX0_store_5 : decode cX0_store 5 = .ok (.iconst 2, 1) := by decide +kernel
theorem dX0_store_6 : decode cX0_store 6 = .ok (.if_icmp .ge 27, 3) := by decide +kernel
theorem dX0_store_9 : decode cX0_store 9 = .ok (.aload_n 0, 1) := by decide +kernel
theorem dX0_store_10 : decode cX0_store 10 = .ok (.getfield 11, 3) := by decide +kernel
theorem dX0_store_13 : decode cX0_store 13 = .ok (.iconst 0, 1) := by decide +kernel
theorem dX0_store_14 : decode cX0_store 14 = .ok (.aload_n 0, 1) := by decide +kernel
theorem dX0_store_15 : decode cX0_store 15 = .ok (.getfield 20, 3) := by decide +kernel
theorem dX0_store_18 : decode cX0_store 18 = .ok (.iload_n 1, 1) := by decide +kernel
theorem dX0_store_19 : decode cX0_store 19 = .ok (.aaload, 1) := by decide +kernel
theorem dX0_store_20 : decode cX0_store 20 = .ok (.iconst 0, 1) := by decide +kernel
theorem dX0_store_21 : decode cX0_store 21 = .ok (.bipush 14, 2) := by decide +kernel
theorem dX0_store_23 : decode cX0_store 23 = .ok (.invokestatic 40, 3) := by decide +kernel
theorem dX0_store_26 : decode cX0_store 26 = .ok (.aload_n 0, 1) := by decide +kernel
theorem dX0_store_27 : decode cX0_store 27 = .ok (.getfield 23, 3) := by decide +kernel
theorem dX0_store_30 : decode cX0_store 30 = .ok (.iload_n 1, 1) := by decide +kernel
theorem dX0_store_31 : decode cX0_store 31 = .ok (.iconst 1, 1) := by decide +kernel
theorem dX0_store_32 : decode cX0_store 32 = .ok (.bastore, 1) := by decide +kernel
theorem dX0_store_33 : decode cX0_store 33 = .ok (.aload_n 0, 1) := by decide +kernel
theorem dX0_store_34 : decode cX0_store 34 = .ok (.getfield 11, 3) := by decide +kernel
theorem dX0_store_37 : decode cX0_store 37 = .ok (.iconst 0, 1) := by decide +kernel
theorem dX0_store_38 : decode cX0_store 38 = .ok (.iaload, 1) := by decide +kernel
theorem dX0_store_39 : decode cX0_store 39 = .ok (.ireturn, 1) := by decide +kernel
theorem dX0_restore_0 : decode cX0_restore 0 = .ok (.aload_n 0, 1) := by decide +kernel
theorem dX0_restore_1 : decode cX0_restore 1 = .ok (.iload_n 1, 1) := by decide +kernel
theorem dX0_restore_2 : decode cX0_restore 2 = .ok (.invokevirtual 52, 3) := by decide +kernel
theorem dX0_restore_5 : decode cX0_restore 5 = .ok (.ifCond .eq 25, 3) := by decide +kernel
theorem dX0_restore_8 : decode cX0_restore 8 = .ok (.aload_n 0, 1) := by decide +kernel
theorem dX0_restore_9 : decode cX0_restore 9 = .ok (.getfield 20, 3) := by decide +kernel
theorem dX0_restore_12 : decode cX0_restore 12 = .ok (.iload_n 1, 1) := by decide +kernel
theorem dX0_restore_13 : decode cX0_restore 13 = .ok (.aaload, 1) := by decide +kernel
theorem dX0_restore_14 : decode cX0_restore 14 = .ok (.iconst 0, 1) := by decide +kernel
theorem dX0_restore_15 : decode cX0_restore 15 = .ok (.aload_n 0, 1) := by decide +kernel
theorem dX0_restore_16 : decode cX0_restore 16 = .ok (.getfield 11, 3) := by decide +kernel
theorem dX0_restore_19 : decode cX0_restore 19 = .ok (.iconst 0, 1) := by decide +kernel
theorem dX0_restore_20 : decode cX0_restore 20 = .ok (.bipush 14, 2) := by decide +kernel
theorem dX0_restore_22 : decode cX0_restore 22 = .ok (.invokestatic 40, 3) := by decide +kernel
theorem dX0_restore_25 : decode cX0_restore 25 = .ok (.aload_n 0, 1) := by decide +kernel
theorem dX0_restore_26 : decode cX0_restore 26 = .ok (.iconst 0, 1) := by decide +kernel
theorem dX0_restore_27 : decode cX0_restore 27 = .ok (.putfield 33, 3) := by decide +kernel
theorem dX0_restore_30 : decode cX0_restore 30 = .ok (.aload_n 0, 1) := by decide +kernel
theorem dX0_restore_31 : decode cX0_restore 31 = .ok (.getfield 11, 3) := by decide +kernel
theorem dX0_restore_34 : decode cX0_restore 34 = .ok (.iconst 0, 1) := by decide +kernel
theorem dX0_restore_35 : decode cX0_restore 35 = .ok (.iaload, 1) := by decide +kernel
theorem dX0_restore_36 : decode cX0_restore 36 = .ok (.ireturn, 1) := by decide +kernel
theorem dX1_init_0 : decode cX1_init 0 = .ok (.aload_n 0, 1) := by decide +kernel
theorem dX1_init_1 : decode cX1_init 1 = .ok (.invokespecial 3, 3) := by decide +kernel
theorem dX1_init_4 : decode cX1_init 4 = .ok (.aload_n 0, 1) := by decide +kernel
theorem dX1_init_5 : decode cX1_init 5 = .ok (.aload_n 1, 1) := by decide +kernel
theorem dX1_init_6 : decode cX1_init 6 = .ok (.putfield 9, 3) := by decide +kernel
theorem dX1_init_9 : decode cX1_init 9 = .ok (.return_, 1) := by decide +kernel
theorem dX1_ask_0 : decode cX1_ask 0 = .ok (.aload_n 0, 1) := by decide +kernel
theorem dX1_ask_1 : decode cX1_ask 1 = .ok (.iload_n 1, 1) := by decide +kernel
theorem dX1_ask_2 : decode cX1_ask 2 = .ok (.invokevirtual 15, 3) := by decide +kernel
theorem dX1_ask_5 : decode cX1_ask 5 = .ok (.aload_n 0, 1) := by decide +kernel
theorem dX1_ask_6 : decode cX1_ask 6 = .ok (.iload_n 1, 1) := by decide +kernel
theorem dX1_ask_7 : decode cX1_ask 7 = .ok (.iload_n 2, 1) := by decide +kernel
theorem dX1_ask_8 : decode cX1_ask 8 = .ok (.invokevirtual 19, 3) := by decide +kernel
theorem dX1_ask_11 : decode cX1_ask 11 = .ok (.return_, 1) := by decide +kernel
theorem dX1_askForAll_0 : decode cX1_askForAll 0 = .ok (.aload_n 0, 1) := by decide +kernel
theorem dX1_askForAll_1 : decode cX1_askForAll 1 = .ok (.iload_n 1, 1) := by decide +kernel
theorem dX1_askForAll_2 : decode cX1_askForAll 2 = .ok (.invokevirtual 15, 3) := by decide +kernel
theorem dX1_askForAll_5 : decode cX1_askForAll 5 = .ok (.iconst 0, 1) := by decide +kernel
theorem dX1_askForAll_6 : decode cX1_askForAll 6 = .ok (.istore_n 2, 1) := by decide +kernel
theorem dX1_askForAll_7 : decode cX1_askForAll 7 = .ok (.iload_n 2, 1) := by decide +kernel
theorem dX1_askForAll_8 : decode cX1_askForAll 8 = .ok (.aload_n 0, 1) := by decide +kernel
theorem dX1_askForAll_9 : decode cX1_askForAll 9 = .ok (.getfield 9, 3) := by decide +kernel
theorem dX1_askForAll_12 : decode cX1_askForAll 12 = .ok (.getfield 23, 3) := by decide +kernel
theorem dX1_askForAll_15 : decode cX1_askForAll 15 = .ok (.if_icmp .ge 15, 3) := by decide +kernel
theorem dX1_askForAll_18 : decode cX1_askForAll 18 = .ok (.aload_n 0, 1) := by decide +kernel
theorem dX1_askForAll_19 : decode cX1_askForAll 19 = .ok (.iload_n 1, 1) := by decide +kernel
theorem dX1_askForAll_20 : decode cX1_askForAll 20 = .ok (.iload_n 2, 1) := by decide +kernel
theorem dX1_askForAll_21 : decode cX1_askForAll 21 = .ok (.invokevirtual 19, 3) := by decide +kernel
theorem dX1_askForAll_24 : decode cX1_askForAll 24 = .ok (.iinc 2 1, 3) := by decide +kernel
theorem dX1_askForAll_27 : decode cX1_askForAll 27 = .ok (.goto (-20), 3) := by decide +kernel
theorem dX1_askForAll_30 : decode cX1_askForAll 30 = .ok (.return_, 1) := by decide +kernel
theorem dX1_begin_0 : decode cX1_begin 0 = .ok (.aload_n 0, 1) := by decide +kernel
theorem dX1_begin_1 : decode cX1_begin 1 = .ok (.aload_n 0, 1) := by decide +kernel
theorem dX1_begin_2 : decode cX1_begin 2 = .ok (.getfield 9, 3) := by decide +kernel
theorem dX1_begin_5 : decode cX1_begin 5 = .ok (.getfield 29, 3) := by decide +kernel
theorem dX1_begin_8 : decode cX1_begin 8 = .ok (.iload_n 1, 1) := by decide +kernel
theorem dX1_begin_9 : decode cX1_begin 9 = .ok (.invokestatic 33, 3) := by decide +kernel
theorem dX1_begin_12 : decode cX1_begin 12 = .ok (.bipush 12, 2) := by decide +kernel
theorem dX1_begin_14 : decode cX1_begin 14 = .ok (.invokestatic 37, 3) := by decide +kernel
theorem dX1_begin_17 : decode cX1_begin 17 = .ok (.putfield 43, 3) := by decide +kernel
theorem dX1_begin_20 : decode cX1_begin 20 = .ok (.aload_n 0, 1) := by decide +kernel
theorem dX1_begin_21 : decode cX1_begin 21 = .ok (.iconst (-1), 1) := by decide +kernel
theorem dX1_begin_22 : decode cX1_begin 22 = .ok (.putfield 46, 3) := by decide +kernel
theorem dX1_begin_25 : decode cX1_begin 25 = .ok (.aload_n 0, 1) := by decide +kernel
theorem dX1_begin_26 : decode cX1_begin 26 = .ok (.iconst 0, 1) := by decide +kernel
theorem dX1_begin_27 : decode cX1_begin 27 = .ok (.putfield 49, 3) := by decide +kernel
theorem dX1_begin_30 : decode cX1_begin 30 = .ok (.aload_n 0, 1) := by decide +kernel
theorem dX1_begin_31 : decode cX1_begin 31 = .ok (.iconst 0, 1) := by decide +kernel
theorem dX1_begin_32 : decode cX1_begin 32 = .ok (.putfield 53, 3) := by decide +kernel
theorem dX1_begin_35 : decode cX1_begin 35 = .ok (.return_, 1) := by decide +kernel
theorem dX1_hear_0 : decode cX1_hear 0 = .ok (.aload_n 0, 1) := by decide +kernel
theorem dX1_hear_1 : decode cX1_hear 1 = .ok (.getfield 9, 3) := by decide +kernel
theorem dX1_hear_4 : decode cX1_hear 4 = .ok (.iload_n 2, 1) := by decide +kernel
theorem dX1_hear_5 : decode cX1_hear 5 = .ok (.invokevirtual 56, 3) := by decide +kernel
theorem dX1_hear_8 : decode cX1_hear 8 = .ok (.ifCond .eq 11, 3) := by decide +kernel
theorem dX1_hear_11 : decode cX1_hear 11 = .ok (.aload_n 0, 1) := by decide +kernel
theorem dX1_hear_12 : decode cX1_hear 12 = .ok (.iconst 1, 1) := by decide +kernel
theorem dX1_hear_13 : decode cX1_hear 13 = .ok (.putfield 49, 3) := by decide +kernel
theorem dX1_hear_16 : decode cX1_hear 16 = .ok (.goto 8, 3) := by decide +kernel
theorem dX1_hear_19 : decode cX1_hear 19 = .ok (.aload_n 0, 1) := by decide +kernel
theorem dX1_hear_20 : decode cX1_hear 20 = .ok (.iconst 1, 1) := by decide +kernel
theorem dX1_hear_21 : decode cX1_hear 21 = .ok (.putfield 53, 3) := by decide +kernel
theorem dX1_hear_24 : decode cX1_hear 24 = .ok (.aload_n 0, 1) := by decide +kernel
theorem dX1_hear_25 : decode cX1_hear 25 = .ok (.getfield 9, 3) := by decide +kernel
theorem dX1_hear_28 : decode cX1_hear 28 = .ok (.iload_n 2, 1) := by decide +kernel
theorem dX1_hear_29 : decode cX1_hear 29 = .ok (.invokevirtual 60, 3) := by decide +kernel
theorem dX1_hear_32 : decode cX1_hear 32 = .ok (.ifCond .ne 25, 3) := by decide +kernel
theorem dX1_hear_35 : decode cX1_hear 35 = .ok (.aload_n 0, 1) := by decide +kernel
theorem dX1_hear_36 : decode cX1_hear 36 = .ok (.aload_n 0, 1) := by decide +kernel
theorem dX1_hear_37 : decode cX1_hear 37 = .ok (.getfield 9, 3) := by decide +kernel
theorem dX1_hear_40 : decode cX1_hear 40 = .ok (.aload_n 0, 1) := by decide +kernel
theorem dX1_hear_41 : decode cX1_hear 41 = .ok (.getfield 9, 3) := by decide +kernel
theorem dX1_hear_44 : decode cX1_hear 44 = .ok (.getfield 63, 3) := by decide +kernel
theorem dX1_hear_47 : decode cX1_hear 47 = .ok (.iload_n 1, 1) := by decide +kernel
theorem dX1_hear_48 : decode cX1_hear 48 = .ok (.invokestatic 33, 3) := by decide +kernel
theorem dX1_hear_51 : decode cX1_hear 51 = .ok (.invokevirtual 66, 3) := by decide +kernel
theorem dX1_hear_54 : decode cX1_hear 54 = .ok (.putfield 46, 3) := by decide +kernel
theorem dX1_hear_57 : decode cX1_hear 57 = .ok (.return_, 1) := by decide +kernel
theorem dX1_allows_0 : decode cX1_allows 0 = .ok (.aload_n 0, 1) := by decide +kernel
theorem dX1_allows_1 : decode cX1_allows 1 = .ok (.getfield 9, 3) := by decide +kernel
theorem dX1_allows_4 : decode cX1_allows 4 = .ok (.iload_n 1, 1) := by decide +kernel
theorem dX1_allows_5 : decode cX1_allows 5 = .ok (.iload_n 2, 1) := by decide +kernel
theorem dX1_allows_6 : decode cX1_allows 6 = .ok (.invokevirtual 70, 3) := by decide +kernel
theorem dX1_allows_9 : decode cX1_allows 9 = .ok (.ifCond .ne 5, 3) := by decide +kernel
theorem dX1_allows_12 : decode cX1_allows 12 = .ok (.iconst 0, 1) := by decide +kernel
theorem dX1_allows_13 : decode cX1_allows 13 = .ok (.ireturn, 1) := by decide +kernel
theorem dX1_allows_14 : decode cX1_allows 14 = .ok (.iload_n 3, 1) := by decide +kernel
theorem dX1_allows_15 : decode cX1_allows 15 = .ok (.ifCond .eq 32, 3) := by decide +kernel
theorem dX1_allows_18 : decode cX1_allows 18 = .ok (.aload_n 0, 1) := by decide +kernel
theorem dX1_allows_19 : decode cX1_allows 19 = .ok (.getfield 46, 3) := by decide +kernel
theorem dX1_allows_22 : decode cX1_allows 22 = .ok (.iconst (-1), 1) := by decide +kernel
theorem dX1_allows_23 : decode cX1_allows 23 = .ok (.if_icmp .eq 18, 3) := by decide +kernel
theorem dX1_allows_26 : decode cX1_allows 26 = .ok (.aload_n 0, 1) := by decide +kernel
theorem dX1_allows_27 : decode cX1_allows 27 = .ok (.getfield 9, 3) := by decide +kernel
theorem dX1_allows_30 : decode cX1_allows 30 = .ok (.iload_n 1, 1) := by decide +kernel
theorem dX1_allows_31 : decode cX1_allows 31 = .ok (.aload_n 0, 1) := by decide +kernel
theorem dX1_allows_32 : decode cX1_allows 32 = .ok (.getfield 46, 3) := by decide +kernel
theorem dX1_allows_35 : decode cX1_allows 35 = .ok (.invokevirtual 74, 3) := by decide +kernel
theorem dX1_allows_38 : decode cX1_allows 38 = .ok (.ifCond .eq 7, 3) := by decide +kernel
theorem dX1_allows_41 : decode cX1_allows 41 = .ok (.iconst 1, 1) := by decide +kernel
theorem dX1_allows_42 : decode cX1_allows 42 = .ok (.goto 4, 3) := by decide +kernel
theorem dX1_allows_45 : decode cX1_allows 45 = .ok (.iconst 0, 1) := by decide +kernel
theorem dX1_allows_46 : decode cX1_allows 46 = .ok (.ireturn, 1) := by decide +kernel
theorem dX1_allows_47 : decode cX1_allows 47 = .ok (.aload_n 0, 1) := by decide +kernel
theorem dX1_allows_48 : decode cX1_allows 48 = .ok (.getfield 49, 3) := by decide +kernel
theorem dX1_allows_51 : decode cX1_allows 51 = .ok (.ifCond .eq 25, 3) := by decide +kernel
theorem dX1_allows_54 : decode cX1_allows 54 = .ok (.aload_n 0, 1) := by decide +kernel
theorem dX1_allows_55 : decode cX1_allows 55 = .ok (.getfield 53, 3) := by decide +kernel
theorem dX1_allows_58 : decode cX1_allows 58 = .ok (.ifCond .eq 18, 3) := by decide +kernel
theorem dX1_allows_61 : decode cX1_allows 61 = .ok (.aload_n 0, 1) := by decide +kernel
theorem dX1_allows_62 : decode cX1_allows 62 = .ok (.getfield 9, 3) := by decide +kernel
theorem dX1_allows_65 : decode cX1_allows 65 = .ok (.getfield 77, 3) := by decide +kernel
theorem dX1_allows_68 : decode cX1_allows 68 = .ok (.iload_n 1, 1) := by decide +kernel
theorem dX1_allows_69 : decode cX1_allows 69 = .ok (.invokestatic 33, 3) := by decide +kernel
theorem dX1_allows_72 : decode cX1_allows 72 = .ok (.iconst 1, 1) := by decide +kernel
theorem dX1_allows_73 : decode cX1_allows 73 = .ok (.if_icmp .eq 7, 3) := by decide +kernel
theorem dX1_allows_76 : decode cX1_allows 76 = .ok (.iconst 1, 1) := by decide +kernel
theorem dX1_allows_77 : decode cX1_allows 77 = .ok (.goto 4, 3) := by decide +kernel
theorem dX1_allows_80 : decode cX1_allows 80 = .ok (.iconst 0, 1) := by decide +kernel
theorem dX1_allows_81 : decode cX1_allows 81 = .ok (.ireturn, 1) := by decide +kernel
theorem dX1_countOf_0 : decode cX1_countOf 0 = .ok (.aload_n 0, 1) := by decide +kernel
theorem dX1_countOf_1 : decode cX1_countOf 1 = .ok (.getfield 9, 3) := by decide +kernel
theorem dX1_countOf_4 : decode cX1_countOf 4 = .ok (.getfield 80, 3) := by decide +kernel
theorem dX1_countOf_7 : decode cX1_countOf 7 = .ok (.iload_n 1, 1) := by decide +kernel
theorem dX1_countOf_8 : decode cX1_countOf 8 = .ok (.invokestatic 33, 3) := by decide +kernel
theorem dX1_countOf_11 : decode cX1_countOf 11 = .ok (.istore_n 3, 1) := by decide +kernel
theorem dX1_countOf_12 : decode cX1_countOf 12 = .ok (.aload_n 0, 1) := by decide +kernel
theorem dX1_countOf_13 : decode cX1_countOf 13 = .ok (.getfield 49, 3) := by decide +kernel
theorem dX1_countOf_16 : decode cX1_countOf 16 = .ok (.ifCond .eq 28, 3) := by decide +kernel
theorem dX1_countOf_19 : decode cX1_countOf 19 = .ok (.iload_n 2, 1) := by decide +kernel
theorem dX1_countOf_20 : decode cX1_countOf 20 = .ok (.ifCond .ne 24, 3) := by decide +kernel
theorem dX1_countOf_23 : decode cX1_countOf 23 = .ok (.aload_n 0, 1) := by decide +kernel
theorem dX1_countOf_24 : decode cX1_countOf 24 = .ok (.getfield 9, 3) := by decide +kernel
theorem dX1_countOf_27 : decode cX1_countOf 27 = .ok (.getfield 77, 3) := by decide +kernel
theorem dX1_countOf_30 : decode cX1_countOf 30 = .ok (.iload_n 1, 1) := by decide +kernel
theorem dX1_countOf_31 : decode cX1_countOf 31 = .ok (.invokestatic 33, 3) := by decide +kernel
theorem dX1_countOf_34 : decode cX1_countOf 34 = .ok (.iconst 1, 1) := by decide +kernel
theorem dX1_countOf_35 : decode cX1_countOf 35 = .ok (.if_icmp .ne 9, 3) := by decide +kernel
theorem dX1_countOf_38 : decode cX1_countOf 38 = .ok (.iload_n 3, 1) := by decide +kernel
theorem dX1_countOf_39 : decode cX1_countOf 39 = .ok (.iconst 1, 1) := by decide +kernel
theorem dX1_countOf_40 : decode cX1_countOf 40 = .ok (.isub, 1) := by decide +kernel
theorem dX1_countOf_41 : decode cX1_countOf 41 = .ok (.goto 4, 3) := by decide +kernel
theorem dX1_countOf_44 : decode cX1_countOf 44 = .ok (.iload_n 3, 1) := by decide +kernel
theorem dX1_countOf_45 : decode cX1_countOf 45 = .ok (.ireturn, 1) := by decide +kernel
theorem dX2_init_0 : decode cX2_init 0 = .ok (.aload_n 0, 1) := by decide +kernel
theorem dX2_init_1 : decode cX2_init 1 = .ok (.invokespecial 3, 3) := by decide +kernel
theorem dX2_init_4 : decode cX2_init 4 = .ok (.aload_n 0, 1) := by decide +kernel
theorem dX2_init_5 : decode cX2_init 5 = .ok (.bipush 7, 2) := by decide +kernel
theorem dX2_init_7 : decode cX2_init 7 = .ok (.bipush 26, 2) := by decide +kernel
theorem dX2_init_9 : decode cX2_init 9 = .ok (.multianewarray 9 2, 4) := by decide +kernel
theorem dX2_init_13 : decode cX2_init 13 = .ok (.putfield 11, 3) := by decide +kernel
theorem dX2_init_16 : decode cX2_init 16 = .ok (.aload_n 0, 1) := by decide +kernel
theorem dX2_init_17 : decode cX2_init 17 = .ok (.bipush 7, 2) := by decide +kernel
theorem dX2_init_19 : decode cX2_init 19 = .ok (.bipush 26, 2) := by decide +kernel
theorem dX2_init_21 : decode cX2_init 21 = .ok (.multianewarray 9 2, 4) := by decide +kernel
theorem dX2_init_25 : decode cX2_init 25 = .ok (.putfield 16, 3) := by decide +kernel
theorem dX2_init_28 : decode cX2_init 28 = .ok (.aload_n 0, 1) := by decide +kernel
theorem dX2_init_29 : decode cX2_init 29 = .ok (.new 19, 3) := by decide +kernel
theorem dX2_init_32 : decode cX2_init 32 = .ok (.dup, 1) := by decide +kernel
theorem dX2_init_33 : decode cX2_init 33 = .ok (.invokespecial 21, 3) := by decide +kernel
theorem dX2_init_36 : decode cX2_init 36 = .ok (.putfield 22, 3) := by decide +kernel
theorem dX2_init_39 : decode cX2_init 39 = .ok (.aload_n 0, 1) := by decide +kernel
theorem dX2_init_40 : decode cX2_init 40 = .ok (.aload_n 1, 1) := by decide +kernel
theorem dX2_init_41 : decode cX2_init 41 = .ok (.putfield 26, 3) := by decide +kernel
theorem dX2_init_44 : decode cX2_init 44 = .ok (.aload_n 0, 1) := by decide +kernel
theorem dX2_init_45 : decode cX2_init 45 = .ok (.aload_n 2, 1) := by decide +kernel
theorem dX2_init_46 : decode cX2_init 46 = .ok (.putfield 30, 3) := by decide +kernel
theorem dX2_init_49 : decode cX2_init 49 = .ok (.aload_n 0, 1) := by decide +kernel
theorem dX2_init_50 : decode cX2_init 50 = .ok (.aload_n 3, 1) := by decide +kernel
theorem dX2_init_51 : decode cX2_init 51 = .ok (.putfield 34, 3) := by decide +kernel
theorem dX2_init_54 : decode cX2_init 54 = .ok (.return_, 1) := by decide +kernel
theorem dX2_fewestWords_0 : decode cX2_fewestWords 0 = .ok (.aload_n 0, 1) := by decide +kernel
theorem dX2_fewestWords_1 : decode cX2_fewestWords 1 = .ok (.iconst 0, 1) := by decide +kernel
theorem dX2_fewestWords_2 : decode cX2_fewestWords 2 = .ok (.invokevirtual 37, 3) := by decide +kernel
theorem dX2_fewestWords_5 : decode cX2_fewestWords 5 = .ok (.iconst 1, 1) := by decide +kernel
theorem dX2_fewestWords_6 : decode cX2_fewestWords 6 = .ok (.istore_n 1, 1) := by decide +kernel
theorem dX2_fewestWords_7 : decode cX2_fewestWords 7 = .ok (.iload_n 1, 1) := by decide +kernel
theorem dX2_fewestWords_8 : decode cX2_fewestWords 8 = .ok (.iconst 4, 1) := by decide +kernel
theorem dX2_fewestWords_9 : decode cX2_fewestWords 9 = .ok (.if_icmp .gt 33, 3) := by decide +kernel
theorem dX2_fewestWords_12 : decode cX2_fewestWords 12 = .ok (.aload_n 0, 1) := by decide +kernel
theorem dX2_fewestWords_13 : decode cX2_fewestWords 13 = .ok (.iload_n 1, 1) := by decide +kernel
theorem dX2_fewestWords_14 : decode cX2_fewestWords 14 = .ok (.invokevirtual 41, 3) := by decide +kernel
theorem dX2_fewestWords_17 : decode cX2_fewestWords 17 = .ok (.aload_n 0, 1) := by decide +kernel
theorem dX2_fewestWords_18 : decode cX2_fewestWords 18 = .ok (.iload_n 1, 1) := by decide +kernel
theorem dX2_fewestWords_19 : decode cX2_fewestWords 19 = .ok (.iconst 0, 1) := by decide +kernel
theorem dX2_fewestWords_20 : decode cX2_fewestWords 20 = .ok (.aload_n 0, 1) := by decide +kernel
theorem dX2_fewestWords_21 : decode cX2_fewestWords 21 = .ok (.getfield 30, 3) := by decide +kernel
theorem dX2_fewestWords_24 : decode cX2_fewestWords 24 = .ok (.getfield 45, 3) := by decide +kernel
theorem dX2_fewestWords_27 : decode cX2_fewestWords 27 = .ok (.invokevirtual 51, 3) := by decide +kernel
theorem dX2_fewestWords_30 : decode cX2_fewestWords 30 = .ok (.iconst (-1), 1) := by decide +kernel
theorem dX2_fewestWords_31 : decode cX2_fewestWords 31 = .ok (.if_icmp .eq 5, 3) := by decide +kernel
theorem dX2_fewestWords_34 : decode cX2_fewestWords 34 = .ok (.iload_n 1, 1) := by decide +kernel
theorem dX2_fewestWords_35 : decode cX2_fewestWords 35 = .ok (.ireturn, 1) := by decide +kernel
theorem dX2_fewestWords_36 : decode cX2_fewestWords 36 = .ok (.iinc 1 1, 3) := by decide +kernel
theorem dX2_fewestWords_39 : decode cX2_fewestWords 39 = .ok (.goto (-32), 3) := by decide +kernel
theorem dX2_fewestWords_42 : decode cX2_fewestWords 42 = .ok (.iconst (-1), 1) := by decide +kernel
theorem dX2_fewestWords_43 : decode cX2_fewestWords 43 = .ok (.ireturn, 1) := by decide +kernel
theorem dX2_linesOf_0 : decode cX2_linesOf 0 = .ok (.aload_n 0, 1) := by decide +kernel
theorem dX2_linesOf_1 : decode cX2_linesOf 1 = .ok (.iconst 0, 1) := by decide +kernel
theorem dX2_linesOf_2 : decode cX2_linesOf 2 = .ok (.invokevirtual 37, 3) := by decide +kernel
theorem dX2_linesOf_5 : decode cX2_linesOf 5 = .ok (.iconst 1, 1) := by decide +kernel
theorem dX2_linesOf_6 : decode cX2_linesOf 6 = .ok (.istore_n 2, 1) := by decide +kernel
theorem dX2_linesOf_7 : decode cX2_linesOf 7 = .ok (.iload_n 2, 1) := by decide +kernel
theorem dX2_linesOf_8 : decode cX2_linesOf 8 = .ok (.iload_n 1, 1) := by decide +kernel
theorem dX2_linesOf_9 : decode cX2_linesOf 9 = .ok (.if_icmp .gt 14, 3) := by decide +kernel
theorem dX2_linesOf_12 : decode cX2_linesOf 12 = .ok (.aload_n 0, 1) := by decide +kernel
theorem dX2_linesOf_13 : decode cX2_linesOf 13 = .ok (.iload_n 2, 1) := by decide +kernel
theorem dX2_linesOf_14 : decode cX2_linesOf 14 = .ok (.invokevirtual 41, 3) := by decide +kernel
theorem dX2_linesOf_17 : decode cX2_linesOf 17 = .ok (.iinc 2 1, 3) := by decide +kernel
theorem dX2_linesOf_20 : decode cX2_linesOf 20 = .ok (.goto (-13), 3) := by decide +kernel
theorem dX2_linesOf_23 : decode cX2_linesOf 23 = .ok (.aload_n 0, 1) := by decide +kernel
theorem dX2_linesOf_24 : decode cX2_linesOf 24 = .ok (.iload_n 1, 1) := by decide +kernel
theorem dX2_linesOf_25 : decode cX2_linesOf 25 = .ok (.iconst 0, 1) := by decide +kernel
theorem dX2_linesOf_26 : decode cX2_linesOf 26 = .ok (.aload_n 0, 1) := by decide +kernel
theorem dX2_linesOf_27 : decode cX2_linesOf 27 = .ok (.getfield 30, 3) := by decide +kernel
theorem dX2_linesOf_30 : decode cX2_linesOf 30 = .ok (.getfield 45, 3) := by decide +kernel
theorem dX2_linesOf_33 : decode cX2_linesOf 33 = .ok (.invokevirtual 55, 3) := by decide +kernel
theorem dX2_linesOf_36 : decode cX2_linesOf 36 = .ok (.ireturn, 1) := by decide +kernel
theorem dX2_fewestChanges_0 : decode cX2_fewestChanges 0 = .ok (.aload_n 0, 1) := by decide +kernel
theorem dX2_fewestChanges_1 : decode cX2_fewestChanges 1 = .ok (.getfield 34, 3) := by decide +kernel
theorem dX2_fewestChanges_4 : decode cX2_fewestChanges 4 = .ok (.getfield 58, 3) := by decide +kernel
theorem dX2_fewestChanges_7 : decode cX2_fewestChanges 7 = .ok (.ifCond .ne 5, 3) := by decide +kernel
theorem dX2_fewestChanges_10 : decode cX2_fewestChanges 10 = .ok (.iconst (-1), 1) := by decide +kernel
theorem dX2_fewestChanges_11 : decode cX2_fewestChanges 11 = .ok (.ireturn, 1) := by decide +kernel
theorem dX2_fewestChanges_12 : decode cX2_fewestChanges 12 = .ok (.aload_n 0, 1) := by decide +kernel
theorem dX2_fewestChanges_13 : decode cX2_fewestChanges 13 = .ok (.iconst 1, 1) := by decide +kernel
theorem dX2_fewestChanges_14 : decode cX2_fewestChanges 14 = .ok (.invokevirtual 37, 3) := by decide +kernel
theorem dX2_fewestChanges_17 : decode cX2_fewestChanges 17 = .ok (.iconst 1, 1) := by decide +kernel
theorem dX2_fewestChanges_18 : decode cX2_fewestChanges 18 = .ok (.istore_n 1, 1) := by decide +kernel
theorem dX2_fewestChanges_19 : decode cX2_fewestChanges 19 = .ok (.iload_n 1, 1) := by decide +kernel
theorem dX2_fewestChanges_20 : decode cX2_fewestChanges 20 = .ok (.aload_n 0, 1) := by decide +kernel
theorem dX2_fewestChanges_21 : decode cX2_fewestChanges 21 = .ok (.getfield 34, 3) := by decide +kernel
theorem dX2_fewestChanges_24 : decode cX2_fewestChanges 24 = .ok (.getfield 58, 3) := by decide +kernel
theorem dX2_fewestChanges_27 : decode cX2_fewestChanges 27 = .ok (.if_icmp .gt 14, 3) := by decide +kernel
theorem dX2_fewestChanges_30 : decode cX2_fewestChanges 30 = .ok (.aload_n 0, 1) := by decide +kernel
theorem dX2_fewestChanges_31 : decode cX2_fewestChanges 31 = .ok (.iload_n 1, 1) := by decide +kernel
theorem dX2_fewestChanges_32 : decode cX2_fewestChanges 32 = .ok (.invokevirtual 41, 3) := by decide +kernel
theorem dX2_fewestChanges_35 : decode cX2_fewestChanges 35 = .ok (.iinc 1 1, 3) := by decide +kernel
theorem dX2_fewestChanges_38 : decode cX2_fewestChanges 38 = .ok (.goto (-19), 3) := by decide +kernel
theorem dX2_fewestChanges_41 : decode cX2_fewestChanges 41 = .ok (.aload_n 0, 1) := by decide +kernel
theorem dX2_fewestChanges_42 : decode cX2_fewestChanges 42 = .ok (.aload_n 0, 1) := by decide +kernel
theorem dX2_fewestChanges_43 : decode cX2_fewestChanges 43 = .ok (.getfield 34, 3) := by decide +kernel
theorem dX2_fewestChanges_46 : decode cX2_fewestChanges 46 = .ok (.getfield 58, 3) := by decide +kernel
theorem dX2_fewestChanges_49 : decode cX2_fewestChanges 49 = .ok (.iconst 0, 1) := by decide +kernel
theorem dX2_fewestChanges_50 : decode cX2_fewestChanges 50 = .ok (.aload_n 0, 1) := by decide +kernel
theorem dX2_fewestChanges_51 : decode cX2_fewestChanges 51 = .ok (.getfield 30, 3) := by decide +kernel
theorem dX2_fewestChanges_54 : decode cX2_fewestChanges 54 = .ok (.getfield 45, 3) := by decide +kernel
theorem dX2_fewestChanges_57 : decode cX2_fewestChanges 57 = .ok (.invokevirtual 51, 3) := by decide +kernel
theorem dX2_fewestChanges_60 : decode cX2_fewestChanges 60 = .ok (.ireturn, 1) := by decide +kernel
theorem dX2_findFirst_0 : decode cX2_findFirst 0 = .ok (.aload_n 0, 1) := by decide +kernel
theorem dX2_findFirst_1 : decode cX2_findFirst 1 = .ok (.getfield 22, 3) := by decide +kernel
theorem dX2_findFirst_4 : decode cX2_findFirst 4 = .ok (.invokevirtual 61, 3) := by decide +kernel
theorem dX2_findFirst_7 : decode cX2_findFirst 7 = .ok (.pop, 1) := by decide +kernel
theorem dX2_findFirst_8 : decode cX2_findFirst 8 = .ok (.iconst 0, 1) := by decide +kernel
theorem dX2_findFirst_9 : decode cX2_findFirst 9 = .ok (.istore_n 2, 1) := by decide +kernel
theorem dX2_findFirst_10 : decode cX2_findFirst 10 = .ok (.aload_n 0, 1) := by decide +kernel
theorem dX2_findFirst_11 : decode cX2_findFirst 11 = .ok (.getfield 30, 3) := by decide +kernel
theorem dX2_findFirst_14 : decode cX2_findFirst 14 = .ok (.getfield 45, 3) := by decide +kernel
theorem dX2_findFirst_17 : decode cX2_findFirst 17 = .ok (.istore_n 3, 1) := by decide +kernel
theorem dX2_findFirst_18 : decode cX2_findFirst 18 = .ok (.iload_n 1, 1) := by decide +kernel
theorem dX2_findFirst_19 : decode cX2_findFirst 19 = .ok (.istore 4, 2) := by decide +kernel
theorem dX2_findFirst_21 : decode cX2_findFirst 21 = .ok (.iload 4, 2) := by decide +kernel
theorem dX2_findFirst_23 : decode cX2_findFirst 23 = .ok (.iconst 1, 1) := by decide +kernel
theorem dX2_findFirst_24 : decode cX2_findFirst 24 = .ok (.if_icmp .lt 74, 3) := by decide +kernel
theorem dX2_findFirst_27 : decode cX2_findFirst 27 = .ok (.aload_n 0, 1) := by decide +kernel
theorem dX2_findFirst_28 : decode cX2_findFirst 28 = .ok (.iload 4, 2) := by decide +kernel
theorem dX2_findFirst_30 : decode cX2_findFirst 30 = .ok (.iload_n 2, 1) := by decide +kernel
theorem dX2_findFirst_31 : decode cX2_findFirst 31 = .ok (.iload_n 3, 1) := by decide +kernel
theorem dX2_findFirst_32 : decode cX2_findFirst 32 = .ok (.invokevirtual 65, 3) := by decide +kernel
theorem dX2_findFirst_35 : decode cX2_findFirst 35 = .ok (.istore 5, 2) := by decide +kernel
theorem dX2_findFirst_37 : decode cX2_findFirst 37 = .ok (.iload 5, 2) := by decide +kernel
theorem dX2_findFirst_39 : decode cX2_findFirst 39 = .ok (.iconst (-1), 1) := by decide +kernel
theorem dX2_findFirst_40 : decode cX2_findFirst 40 = .ok (.if_icmp .ne 4, 3) := by decide +kernel
theorem dX2_findFirst_43 : decode cX2_findFirst 43 = .ok (.return_, 1) := by decide +kernel
theorem dX2_findFirst_44 : decode cX2_findFirst 44 = .ok (.aload_n 0, 1) := by decide +kernel
theorem dX2_findFirst_45 : decode cX2_findFirst 45 = .ok (.getfield 22, 3) := by decide +kernel
theorem dX2_findFirst_48 : decode cX2_findFirst 48 = .ok (.iload 5, 2) := by decide +kernel
theorem dX2_findFirst_50 : decode cX2_findFirst 50 = .ok (.invokevirtual 68, 3) := by decide +kernel
theorem dX2_findFirst_53 : decode cX2_findFirst 53 = .ok (.pop, 1) := by decide +kernel
theorem dX2_findFirst_54 : decode cX2_findFirst 54 = .ok (.iload_n 3, 1) := by decide +kernel
theorem dX2_findFirst_55 : decode cX2_findFirst 55 = .ok (.aload_n 0, 1) := by decide +kernel
theorem dX2_findFirst_56 : decode cX2_findFirst 56 = .ok (.getfield 30, 3) := by decide +kernel
theorem dX2_findFirst_59 : decode cX2_findFirst 59 = .ok (.iload 5, 2) := by decide +kernel
theorem dX2_findFirst_61 : decode cX2_findFirst 61 = .ok (.iload 4, 2) := by decide +kernel
theorem dX2_findFirst_63 : decode cX2_findFirst 63 = .ok (.iconst 1, 1) := by decide +kernel
theorem dX2_findFirst_64 : decode cX2_findFirst 64 = .ok (.if_icmp .ne 7, 3) := by decide +kernel
theorem dX2_findFirst_67 : decode cX2_findFirst 67 = .ok (.iconst 1, 1) := by decide +kernel
theorem dX2_findFirst_68 : decode cX2_findFirst 68 = .ok (.goto 4, 3) := by decide +kernel
theorem dX2_findFirst_71 : decode cX2_findFirst 71 = .ok (.iconst 0, 1) := by decide +kernel
theorem dX2_findFirst_72 : decode cX2_findFirst 72 = .ok (.invokevirtual 72, 3) := by decide +kernel
theorem dX2_findFirst_75 : decode cX2_findFirst 75 = .ok (.isub, 1) := by decide +kernel
theorem dX2_findFirst_76 : decode cX2_findFirst 76 = .ok (.istore_n 3, 1) := by decide +kernel
theorem dX2_findFirst_77 : decode cX2_findFirst 77 = .ok (.iload_n 2, 1) := by decide +kernel
theorem dX2_findFirst_78 : decode cX2_findFirst 78 = .ok (.aload_n 0, 1) := by decide +kernel
theorem dX2_findFirst_79 : decode cX2_findFirst 79 = .ok (.getfield 26, 3) := by decide +kernel
theorem dX2_findFirst_82 : decode cX2_findFirst 82 = .ok (.getfield 76, 3) := by decide +kernel
theorem dX2_findFirst_85 : decode cX2_findFirst 85 = .ok (.iload 5, 2) := by decide +kernel
theorem dX2_findFirst_87 : decode cX2_findFirst 87 = .ok (.invokestatic 82, 3) := by decide +kernel
theorem dX2_findFirst_90 : decode cX2_findFirst 90 = .ok (.iadd, 1) := by decide +kernel
theorem dX2_findFirst_91 : decode cX2_findFirst 91 = .ok (.istore_n 2, 1) := by decide +kernel
theorem dX2_findFirst_92 : decode cX2_findFirst 92 = .ok (.iinc 4 (-1), 3) := by decide +kernel
theorem dX2_findFirst_95 : decode cX2_findFirst 95 = .ok (.goto (-74), 3) := by decide +kernel
theorem dX2_findFirst_98 : decode cX2_findFirst 98 = .ok (.return_, 1) := by decide +kernel
theorem dX2_firstWord_0 : decode cX2_firstWord 0 = .ok (.aload_n 0, 1) := by decide +kernel
theorem dX2_firstWord_1 : decode cX2_firstWord 1 = .ok (.iload_n 1, 1) := by decide +kernel
theorem dX2_firstWord_2 : decode cX2_firstWord 2 = .ok (.iload_n 2, 1) := by decide +kernel
theorem dX2_firstWord_3 : decode cX2_firstWord 3 = .ok (.iload_n 3, 1) := by decide +kernel
theorem dX2_firstWord_4 : decode cX2_firstWord 4 = .ok (.invokevirtual 51, 3) := by decide +kernel
theorem dX2_firstWord_7 : decode cX2_firstWord 7 = .ok (.istore 4, 2) := by decide +kernel
theorem dX2_firstWord_9 : decode cX2_firstWord 9 = .ok (.iload 4, 2) := by decide +kernel
theorem dX2_firstWord_11 : decode cX2_firstWord 11 = .ok (.iconst (-1), 1) := by decide +kernel
theorem dX2_firstWord_12 : decode cX2_firstWord 12 = .ok (.if_icmp .ne 5, 3) := by decide +kernel
theorem dX2_firstWord_15 : decode cX2_firstWord 15 = .ok (.iconst (-1), 1) := by decide +kernel
theorem dX2_firstWord_16 : decode cX2_firstWord 16 = .ok (.ireturn, 1) := by decide +kernel
theorem dX2_firstWord_17 : decode cX2_firstWord 17 = .ok (.iconst 0, 1) := by decide +kernel
theorem dX2_firstWord_18 : decode cX2_firstWord 18 = .ok (.istore 5, 2) := by decide +kernel
theorem dX2_firstWord_20 : decode cX2_firstWord 20 = .ok (.iload 5, 2) := by decide +kernel
theorem dX2_firstWord_22 : decode cX2_firstWord 22 = .ok (.aload_n 0, 1) := by decide +kernel
theorem dX2_firstWord_23 : decode cX2_firstWord 23 = .ok (.getfield 26, 3) := by decide +kernel
theorem dX2_firstWord_26 : decode cX2_firstWord 26 = .ok (.getfield 86, 3) := by decide +kernel
theorem dX2_firstWord_29 : decode cX2_firstWord 29 = .ok (.if_icmp .ge 26, 3) := by decide +kernel
theorem dX2_firstWord_32 : decode cX2_firstWord 32 = .ok (.aload_n 0, 1) := by decide +kernel
theorem dX2_firstWord_33 : decode cX2_firstWord 33 = .ok (.iload 5, 2) := by decide +kernel
theorem dX2_firstWord_35 : decode cX2_firstWord 35 = .ok (.iload_n 1, 1) := by decide +kernel
theorem dX2_firstWord_36 : decode cX2_firstWord 36 = .ok (.iload_n 2, 1) := by decide +kernel
theorem dX2_firstWord_37 : decode cX2_firstWord 37 = .ok (.iload_n 3, 1) := by decide +kernel
theorem dX2_firstWord_38 : decode cX2_firstWord 38 = .ok (.invokevirtual 89, 3) := by decide +kernel
theorem dX2_firstWord_41 : decode cX2_firstWord 41 = .ok (.iload 4, 2) := by decide +kernel
theorem dX2_firstWord_43 : decode cX2_firstWord 43 = .ok (.if_icmp .ne 6, 3) := by decide +kernel
theorem dX2_firstWord_46 : decode cX2_firstWord 46 = .ok (.iload 5, 2) := by decide +kernel
theorem dX2_firstWord_48 : decode cX2_firstWord 48 = .ok (.ireturn, 1) := by decide +kernel
theorem dX2_firstWord_49 : decode cX2_firstWord 49 = .ok (.iinc 5 1, 3) := by decide +kernel
theorem dX2_firstWord_52 : decode cX2_firstWord 52 = .ok (.goto (-32), 3) := by decide +kernel
theorem dX2_firstWord_55 : decode cX2_firstWord 55 = .ok (.iconst (-1), 1) := by decide +kernel
theorem dX2_firstWord_56 : decode cX2_firstWord 56 = .ok (.ireturn, 1) := by decide +kernel
theorem dX2_begin_0 : decode cX2_begin 0 = .ok (.aload_n 0, 1) := by decide +kernel
theorem dX2_begin_1 : decode cX2_begin 1 = .ok (.iload_n 1, 1) := by decide +kernel
theorem dX2_begin_2 : decode cX2_begin 2 = .ok (.putfield 93, 3) := by decide +kernel
theorem dX2_begin_5 : decode cX2_begin 5 = .ok (.aload_n 0, 1) := by decide +kernel
theorem dX2_begin_6 : decode cX2_begin 6 = .ok (.getfield 11, 3) := by decide +kernel
theorem dX2_begin_9 : decode cX2_begin 9 = .ok (.iconst 0, 1) := by decide +kernel
theorem dX2_begin_10 : decode cX2_begin 10 = .ok (.aaload, 1) := by decide +kernel
theorem dX2_begin_11 : decode cX2_begin 11 = .ok (.iconst (-1), 1) := by decide +kernel
theorem dX2_begin_12 : decode cX2_begin 12 = .ok (.invokestatic 97, 3) := by decide +kernel
theorem dX2_begin_15 : decode cX2_begin 15 = .ok (.aload_n 0, 1) := by decide +kernel
theorem dX2_begin_16 : decode cX2_begin 16 = .ok (.getfield 16, 3) := by decide +kernel
theorem dX2_begin_19 : decode cX2_begin 19 = .ok (.iconst 0, 1) := by decide +kernel
theorem dX2_begin_20 : decode cX2_begin 20 = .ok (.aaload, 1) := by decide +kernel
theorem dX2_begin_21 : decode cX2_begin 21 = .ok (.iconst 0, 1) := by decide +kernel
theorem dX2_begin_22 : decode cX2_begin 22 = .ok (.invokestatic 97, 3) := by decide +kernel
theorem dX2_begin_25 : decode cX2_begin 25 = .ok (.iconst 0, 1) := by decide +kernel
theorem dX2_begin_26 : decode cX2_begin 26 = .ok (.istore_n 2, 1) := by decide +kernel
theorem dX2_begin_27 : decode cX2_begin 27 = .ok (.iload_n 2, 1) := by decide +kernel
theorem dX2_begin_28 : decode cX2_begin 28 = .ok (.iconst 2, 1) := by decide +kernel
theorem dX2_begin_29 : decode cX2_begin 29 = .ok (.if_icmp .ge 33, 3) := by decide +kernel
theorem dX2_begin_32 : decode cX2_begin 32 = .ok (.aload_n 0, 1) := by decide +kernel
theorem dX2_begin_33 : decode cX2_begin 33 = .ok (.getfield 11, 3) := by decide +kernel
theorem dX2_begin_36 : decode cX2_begin 36 = .ok (.iconst 0, 1) := by decide +kernel
theorem dX2_begin_37 : decode cX2_begin 37 = .ok (.aaload, 1) := by decide +kernel
theorem dX2_begin_38 : decode cX2_begin 38 = .ok (.iload_n 2, 1) := by decide +kernel
theorem dX2_begin_39 : decode cX2_begin 39 = .ok (.bipush 13, 2) := by decide +kernel
theorem dX2_begin_41 : decode cX2_begin 41 = .ok (.imul, 1) := by decide +kernel
theorem dX2_begin_42 : decode cX2_begin 42 = .ok (.iconst 0, 1) := by decide +kernel
theorem dX2_begin_43 : decode cX2_begin 43 = .ok (.iastore, 1) := by decide +kernel
theorem dX2_begin_44 : decode cX2_begin 44 = .ok (.aload_n 0, 1) := by decide +kernel
theorem dX2_begin_45 : decode cX2_begin 45 = .ok (.getfield 16, 3) := by decide +kernel
theorem dX2_begin_48 : decode cX2_begin 48 = .ok (.iconst 0, 1) := by decide +kernel
theorem dX2_begin_49 : decode cX2_begin 49 = .ok (.aaload, 1) := by decide +kernel
theorem dX2_begin_50 : decode cX2_begin 50 = .ok (.iload_n 2, 1) := by decide +kernel
theorem dX2_begin_51 : decode cX2_begin 51 = .ok (.bipush 13, 2) := by decide +kernel
theorem dX2_begin_53 : decode cX2_begin 53 = .ok (.imul, 1) := by decide +kernel
theorem dX2_begin_54 : decode cX2_begin 54 = .ok (.iconst 1, 1) := by decide +kernel
theorem dX2_begin_55 : decode cX2_begin 55 = .ok (.iastore, 1) := by decide +kernel
theorem dX2_begin_56 : decode cX2_begin 56 = .ok (.iinc 2 1, 3) := by decide +kernel
theorem dX2_begin_59 : decode cX2_begin 59 = .ok (.goto (-32), 3) := by decide +kernel
theorem dX2_begin_62 : decode cX2_begin 62 = .ok (.return_, 1) := by decide +kernel
theorem dX2_fill_0 : decode cX2_fill 0 = .ok (.iload_n 1, 1) := by decide +kernel
theorem dX2_fill_1 : decode cX2_fill 1 = .ok (.iconst 1, 1) := by decide +kernel
theorem dX2_fill_2 : decode cX2_fill 2 = .ok (.if_icmp .lt 9, 3) := by decide +kernel
theorem dX2_fill_5 : decode cX2_fill 5 = .ok (.iload_n 1, 1) := by decide +kernel
theorem dX2_fill_6 : decode cX2_fill 6 = .ok (.bipush 6, 2) := by decide +kernel
theorem dX2_fill_8 : decode cX2_fill 8 = .ok (.if_icmp .le 4, 3) := by decide +kernel
theorem dX2_fill_11 : decode cX2_fill 11 = .ok (.return_, 1) := by decide +kernel
theorem dX2_fill_12 : decode cX2_fill 12 = .ok (.iconst 0, 1) := by decide +kernel
theorem dX2_fill_13 : decode cX2_fill 13 = .ok (.istore_n 2, 1) := by decide +kernel
theorem dX2_fill_14 : decode cX2_fill 14 = .ok (.iload_n 2, 1) := by decide +kernel
theorem dX2_fill_15 : decode cX2_fill 15 = .ok (.bipush 26, 2) := by decide +kernel
theorem dX2_fill_17 : decode cX2_fill 17 = .ok (.if_icmp .ge 123, 3) := by decide +kernel
theorem dX2_fill_20 : decode cX2_fill 20 = .ok (.iconst (-1), 1) := by decide +kernel
theorem dX2_fill_21 : decode cX2_fill 21 = .ok (.istore_n 3, 1) := by decide +kernel
theorem dX2_fill_22 : decode cX2_fill 22 = .ok (.iconst 0, 1) := by decide +kernel
theorem dX2_fill_23 : decode cX2_fill 23 = .ok (.istore 4, 2) := by decide +kernel
theorem dX2_fill_25 : decode cX2_fill 25 = .ok (.iconst 0, 1) := by decide +kernel
theorem dX2_fill_26 : decode cX2_fill 26 = .ok (.istore 5, 2) := by decide +kernel
theorem dX2_fill_28 : decode cX2_fill 28 = .ok (.iload 5, 2) := by decide +kernel
theorem dX2_fill_30 : decode cX2_fill 30 = .ok (.aload_n 0, 1) := by decide +kernel
theorem dX2_fill_31 : decode cX2_fill 31 = .ok (.getfield 26, 3) := by decide +kernel
theorem dX2_fill_34 : decode cX2_fill 34 = .ok (.getfield 86, 3) := by decide +kernel
theorem dX2_fill_37 : decode cX2_fill 37 = .ok (.if_icmp .ge 78, 3) := by decide +kernel
theorem dX2_fill_40 : decode cX2_fill 40 = .ok (.aload_n 0, 1) := by decide +kernel
theorem dX2_fill_41 : decode cX2_fill 41 = .ok (.iload 5, 2) := by decide +kernel
theorem dX2_fill_43 : decode cX2_fill 43 = .ok (.iload_n 1, 1) := by decide +kernel
theorem dX2_fill_44 : decode cX2_fill 44 = .ok (.iload_n 2, 1) := by decide +kernel
theorem dX2_fill_45 : decode cX2_fill 45 = .ok (.bipush 13, 2) := by decide +kernel
theorem dX2_fill_47 : decode cX2_fill 47 = .ok (.idiv, 1) := by decide +kernel
theorem dX2_fill_48 : decode cX2_fill 48 = .ok (.iload_n 2, 1) := by decide +kernel
theorem dX2_fill_49 : decode cX2_fill 49 = .ok (.bipush 13, 2) := by decide +kernel
theorem dX2_fill_51 : decode cX2_fill 51 = .ok (.irem, 1) := by decide +kernel
theorem dX2_fill_52 : decode cX2_fill 52 = .ok (.invokevirtual 89, 3) := by decide +kernel
theorem dX2_fill_55 : decode cX2_fill 55 = .ok (.istore 6, 2) := by decide +kernel
theorem dX2_fill_57 : decode cX2_fill 57 = .ok (.iload 6, 2) := by decide +kernel
theorem dX2_fill_59 : decode cX2_fill 59 = .ok (.iconst (-1), 1) := by decide +kernel
theorem dX2_fill_60 : decode cX2_fill 60 = .ok (.if_icmp .eq 49, 3) := by decide +kernel
theorem dX2_fill_63 : decode cX2_fill 63 = .ok (.iload_n 3, 1) := by decide +kernel
theorem dX2_fill_64 : decode cX2_fill 64 = .ok (.iconst (-1), 1) := by decide +kernel
theorem dX2_fill_65 : decode cX2_fill 65 = .ok (.if_icmp .eq 12, 3) := by decide +kernel
theorem dX2_fill_68 : decode cX2_fill 68 = .ok (.iload 6, 2) := by decide +kernel
theorem dX2_fill_70 : decode cX2_fill 70 = .ok (.iload_n 3, 1) := by decide +kernel
theorem dX2_fill_71 : decode cX2_fill 71 = .ok (.if_icmp .le 6, 3) := by decide +kernel
theorem dX2_fill_74 : decode cX2_fill 74 = .ok (.goto 35, 3) := by decide +kernel
theorem dX2_fill_77 : decode cX2_fill 77 = .ok (.iload 6, 2) := by decide +kernel
theorem dX2_fill_79 : decode cX2_fill 79 = .ok (.iload_n 3, 1) := by decide +kernel
theorem dX2_fill_80 : decode cX2_fill 80 = .ok (.if_icmp .eq 6, 3) := by decide +kernel
theorem dX2_fill_83 : decode cX2_fill 83 = .ok (.iconst 0, 1) := by decide +kernel
theorem dX2_fill_84 : decode cX2_fill 84 = .ok (.istore 4, 2) := by decide +kernel
theorem dX2_fill_86 : decode cX2_fill 86 = .ok (.iload 6, 2) := by decide +kernel
theorem dX2_fill_88 : decode cX2_fill 88 = .ok (.istore_n 3, 1) := by decide +kernel
theorem dX2_fill_89 : decode cX2_fill 89 = .ok (.iload 4, 2) := by decide +kernel
theorem dX2_fill_91 : decode cX2_fill 91 = .ok (.aload_n 0, 1) := by decide +kernel
theorem dX2_fill_92 : decode cX2_fill 92 = .ok (.iload 5, 2) := by decide +kernel
theorem dX2_fill_94 : decode cX2_fill 94 = .ok (.iload_n 1, 1) := by decide +kernel
theorem dX2_fill_95 : decode cX2_fill 95 = .ok (.iload_n 2, 1) := by decide +kernel
theorem dX2_fill_96 : decode cX2_fill 96 = .ok (.bipush 13, 2) := by decide +kernel
theorem dX2_fill_98 : decode cX2_fill 98 = .ok (.idiv, 1) := by decide +kernel
theorem dX2_fill_99 : decode cX2_fill 99 = .ok (.iload_n 2, 1) := by decide +kernel
theorem dX2_fill_100 : decode cX2_fill 100 = .ok (.bipush 13, 2) := by decide +kernel
theorem dX2_fill_102 : decode cX2_fill 102 = .ok (.irem, 1) := by decide +kernel
theorem dX2_fill_103 : decode cX2_fill 103 = .ok (.invokevirtual 102, 3) := by decide +kernel
theorem dX2_fill_106 : decode cX2_fill 106 = .ok (.iadd, 1) := by decide +kernel
theorem dX2_fill_107 : decode cX2_fill 107 = .ok (.istore 4, 2) := by decide +kernel
theorem dX2_fill_109 : decode cX2_fill 109 = .ok (.iinc 5 1, 3) := by decide +kernel
theorem dX2_fill_112 : decode cX2_fill 112 = .ok (.goto (-84), 3) := by decide +kernel
theorem dX2_fill_115 : decode cX2_fill 115 = .ok (.aload_n 0, 1) := by decide +kernel
theorem dX2_fill_116 : decode cX2_fill 116 = .ok (.getfield 11, 3) := by decide +kernel
theorem dX2_fill_119 : decode cX2_fill 119 = .ok (.iload_n 1, 1) := by decide +kernel
theorem dX2_fill_120 : decode cX2_fill 120 = .ok (.aaload, 1) := by decide +kernel
theorem dX2_fill_121 : decode cX2_fill 121 = .ok (.iload_n 2, 1) := by decide +kernel
theorem dX2_fill_122 : decode cX2_fill 122 = .ok (.iload_n 3, 1) := by decide +kernel
theorem dX2_fill_123 : decode cX2_fill 123 = .ok (.iastore, 1) := by decide +kernel
theorem dX2_fill_124 : decode cX2_fill 124 = .ok (.aload_n 0, 1) := by decide +kernel
theorem dX2_fill_125 : decode cX2_fill 125 = .ok (.getfield 16, 3) := by decide +kernel
theorem dX2_fill_128 : decode cX2_fill 128 = .ok (.iload_n 1, 1) := by decide +kernel
theorem dX2_fill_129 : decode cX2_fill 129 = .ok (.aaload, 1) := by decide +kernel
theorem dX2_fill_130 : decode cX2_fill 130 = .ok (.iload_n 2, 1) := by decide +kernel
theorem dX2_fill_131 : decode cX2_fill 131 = .ok (.iload 4, 2) := by decide +kernel
theorem dX2_fill_133 : decode cX2_fill 133 = .ok (.iastore, 1) := by decide +kernel
theorem dX2_fill_134 : decode cX2_fill 134 = .ok (.iinc 2 1, 3) := by decide +kernel
theorem dX2_fill_137 : decode cX2_fill 137 = .ok (.goto (-123), 3) := by decide +kernel
theorem dX2_fill_140 : decode cX2_fill 140 = .ok (.return_, 1) := by decide +kernel
theorem dX2_leastWith_0 : decode cX2_leastWith 0 = .ok (.aload_n 0, 1) := by decide +kernel
theorem dX2_leastWith_1 : decode cX2_leastWith 1 = .ok (.getfield 30, 3) := by decide +kernel
theorem dX2_leastWith_4 : decode cX2_leastWith 4 = .ok (.iload_n 1, 1) := by decide +kernel
theorem dX2_leastWith_5 : decode cX2_leastWith 5 = .ok (.iload_n 3, 1) := by decide +kernel
theorem dX2_leastWith_6 : decode cX2_leastWith 6 = .ok (.iload_n 2, 1) := by decide +kernel
theorem dX2_leastWith_7 : decode cX2_leastWith 7 = .ok (.iconst 1, 1) := by decide +kernel
theorem dX2_leastWith_8 : decode cX2_leastWith 8 = .ok (.if_icmp .ne 7, 3) := by decide +kernel
theorem dX2_leastWith_11 : decode cX2_leastWith 11 = .ok (.iconst 1, 1) := by decide +kernel
theorem dX2_leastWith_12 : decode cX2_leastWith 12 = .ok (.goto 4, 3) := by decide +kernel
theorem dX2_leastWith_15 : decode cX2_leastWith 15 = .ok (.iconst 0, 1) := by decide +kernel
theorem dX2_leastWith_16 : decode cX2_leastWith 16 = .ok (.invokevirtual 105, 3) := by decide +kernel
theorem dX2_leastWith_19 : decode cX2_leastWith 19 = .ok (.ifCond .ne 5, 3) := by decide +kernel
theorem dX2_leastWith_22 : decode cX2_leastWith 22 = .ok (.iconst (-1), 1) := by decide +kernel
theorem dX2_leastWith_23 : decode cX2_leastWith 23 = .ok (.ireturn, 1) := by decide +kernel
theorem dX2_leastWith_24 : decode cX2_leastWith 24 = .ok (.aload_n 0, 1) := by decide +kernel
theorem dX2_leastWith_25 : decode cX2_leastWith 25 = .ok (.iload_n 2, 1) := by decide +kernel
theorem dX2_leastWith_26 : decode cX2_leastWith 26 = .ok (.iconst 1, 1) := by decide +kernel
theorem dX2_leastWith_27 : decode cX2_leastWith 27 = .ok (.isub, 1) := by decide +kernel
theorem dX2_leastWith_28 : decode cX2_leastWith 28 = .ok (.iload_n 3, 1) := by decide +kernel
theorem dX2_leastWith_29 : decode cX2_leastWith 29 = .ok (.aload_n 0, 1) := by decide +kernel
theorem dX2_leastWith_30 : decode cX2_leastWith 30 = .ok (.getfield 26, 3) := by decide +kernel
theorem dX2_leastWith_33 : decode cX2_leastWith 33 = .ok (.getfield 76, 3) := by decide +kernel
theorem dX2_leastWith_36 : decode cX2_leastWith 36 = .ok (.iload_n 1, 1) := by decide +kernel
theorem dX2_leastWith_37 : decode cX2_leastWith 37 = .ok (.invokestatic 82, 3) := by decide +kernel
theorem dX2_leastWith_40 : decode cX2_leastWith 40 = .ok (.iadd, 1) := by decide +kernel
theorem dX2_leastWith_41 : decode cX2_leastWith 41 = .ok (.iload 4, 2) := by decide +kernel
theorem dX2_leastWith_43 : decode cX2_leastWith 43 = .ok (.aload_n 0, 1) := by decide +kernel
theorem dX2_leastWith_44 : decode cX2_leastWith 44 = .ok (.getfield 30, 3) := by decide +kernel
theorem dX2_leastWith_47 : decode cX2_leastWith 47 = .ok (.iload_n 1, 1) := by decide +kernel
theorem dX2_leastWith_48 : decode cX2_leastWith 48 = .ok (.iload_n 2, 1) := by decide +kernel
theorem dX2_leastWith_49 : decode cX2_leastWith 49 = .ok (.iconst 1, 1) := by decide +kernel
theorem dX2_leastWith_50 : decode cX2_leastWith 50 = .ok (.if_icmp .ne 7, 3) := by decide +kernel
theorem dX2_leastWith_53 : decode cX2_leastWith 53 = .ok (.iconst 1, 1) := by decide +kernel
theorem dX2_leastWith_54 : decode cX2_leastWith 54 = .ok (.goto 4, 3) := by decide +kernel
theorem dX2_leastWith_57 : decode cX2_leastWith 57 = .ok (.iconst 0, 1) := by decide +kernel
theorem dX2_leastWith_58 : decode cX2_leastWith 58 = .ok (.invokevirtual 72, 3) := by decide +kernel
theorem dX2_leastWith_61 : decode cX2_leastWith 61 = .ok (.isub, 1) := by decide +kernel
theorem dX2_leastWith_62 : decode cX2_leastWith 62 = .ok (.invokevirtual 51, 3) := by decide +kernel
theorem dX2_leastWith_65 : decode cX2_leastWith 65 = .ok (.istore 5, 2) := by decide +kernel
theorem dX2_leastWith_67 : decode cX2_leastWith 67 = .ok (.iload 5, 2) := by decide +kernel
theorem dX2_leastWith_69 : decode cX2_leastWith 69 = .ok (.iconst (-1), 1) := by decide +kernel
theorem dX2_leastWith_70 : decode cX2_leastWith 70 = .ok (.if_icmp .ne 5, 3) := by decide +kernel
theorem dX2_leastWith_73 : decode cX2_leastWith 73 = .ok (.iconst (-1), 1) := by decide +kernel
theorem dX2_leastWith_74 : decode cX2_leastWith 74 = .ok (.ireturn, 1) := by decide +kernel
theorem dX2_leastWith_75 : decode cX2_leastWith 75 = .ok (.aload_n 0, 1) := by decide +kernel
theorem dX2_leastWith_76 : decode cX2_leastWith 76 = .ok (.getfield 93, 3) := by decide +kernel
theorem dX2_leastWith_79 : decode cX2_leastWith 79 = .ok (.ifCond .eq 30, 3) := by decide +kernel
theorem dX2_leastWith_82 : decode cX2_leastWith 82 = .ok (.aload_n 0, 1) := by decide +kernel
theorem dX2_leastWith_83 : decode cX2_leastWith 83 = .ok (.getfield 34, 3) := by decide +kernel
theorem dX2_leastWith_86 : decode cX2_leastWith 86 = .ok (.aload_n 0, 1) := by decide +kernel
theorem dX2_leastWith_87 : decode cX2_leastWith 87 = .ok (.getfield 34, 3) := by decide +kernel
theorem dX2_leastWith_90 : decode cX2_leastWith 90 = .ok (.getfield 58, 3) := by decide +kernel
theorem dX2_leastWith_93 : decode cX2_leastWith 93 = .ok (.iload_n 2, 1) := by decide +kernel
theorem dX2_leastWith_94 : decode cX2_leastWith 94 = .ok (.isub, 1) := by decide +kernel
theorem dX2_leastWith_95 : decode cX2_leastWith 95 = .ok (.invokevirtual 109, 3) := by decide +kernel
theorem dX2_leastWith_98 : decode cX2_leastWith 98 = .ok (.iload_n 1, 1) := by decide +kernel
theorem dX2_leastWith_99 : decode cX2_leastWith 99 = .ok (.if_icmp .eq 10, 3) := by decide +kernel
theorem dX2_leastWith_102 : decode cX2_leastWith 102 = .ok (.iload 5, 2) := by decide +kernel
theorem dX2_leastWith_104 : decode cX2_leastWith 104 = .ok (.iconst 1, 1) := by decide +kernel
theorem dX2_leastWith_105 : decode cX2_leastWith 105 = .ok (.iadd, 1) := by decide +kernel
theorem dX2_leastWith_106 : decode cX2_leastWith 106 = .ok (.goto 5, 3) := by decide +kernel
theorem dX2_leastWith_109 : decode cX2_leastWith 109 = .ok (.iload 5, 2) := by decide +kernel
theorem dX2_leastWith_111 : decode cX2_leastWith 111 = .ok (.ireturn, 1) := by decide +kernel
theorem dX2_manyWith_0 : decode cX2_manyWith 0 = .ok (.aload_n 0, 1) := by decide +kernel
theorem dX2_manyWith_1 : decode cX2_manyWith 1 = .ok (.iload_n 2, 1) := by decide +kernel
theorem dX2_manyWith_2 : decode cX2_manyWith 2 = .ok (.iconst 1, 1) := by decide +kernel
theorem dX2_manyWith_3 : decode cX2_manyWith 3 = .ok (.isub, 1) := by decide +kernel
theorem dX2_manyWith_4 : decode cX2_manyWith 4 = .ok (.iload_n 3, 1) := by decide +kernel
theorem dX2_manyWith_5 : decode cX2_manyWith 5 = .ok (.aload_n 0, 1) := by decide +kernel
theorem dX2_manyWith_6 : decode cX2_manyWith 6 = .ok (.getfield 26, 3) := by decide +kernel
theorem dX2_manyWith_9 : decode cX2_manyWith 9 = .ok (.getfield 76, 3) := by decide +kernel
theorem dX2_manyWith_12 : decode cX2_manyWith 12 = .ok (.iload_n 1, 1) := by decide +kernel
theorem dX2_manyWith_13 : decode cX2_manyWith 13 = .ok (.invokestatic 82, 3) := by decide +kernel
theorem dX2_manyWith_16 : decode cX2_manyWith 16 = .ok (.iadd, 1) := by decide +kernel
theorem dX2_manyWith_17 : decode cX2_manyWith 17 = .ok (.iload 4, 2) := by decide +kernel
theorem dX2_manyWith_19 : decode cX2_manyWith 19 = .ok (.aload_n 0, 1) := by decide +kernel
theorem dX2_manyWith_20 : decode cX2_manyWith 20 = .ok (.getfield 30, 3) := by decide +kernel
theorem dX2_manyWith_23 : decode cX2_manyWith 23 = .ok (.iload_n 1, 1) := by decide +kernel
theorem dX2_manyWith_24 : decode cX2_manyWith 24 = .ok (.iload_n 2, 1) := by decide +kernel
theorem dX2_manyWith_25 : decode cX2_manyWith 25 = .ok (.iconst 1, 1) := by decide +kernel
theorem dX2_manyWith_26 : decode cX2_manyWith 26 = .ok (.if_icmp .ne 7, 3) := by decide +kernel
theorem dX2_manyWith_29 : decode cX2_manyWith 29 = .ok (.iconst 1, 1) := by decide +kernel
theorem dX2_manyWith_30 : decode cX2_manyWith 30 = .ok (.goto 4, 3) := by decide +kernel
theorem dX2_manyWith_33 : decode cX2_manyWith 33 = .ok (.iconst 0, 1) := by decide +kernel
theorem dX2_manyWith_34 : decode cX2_manyWith 34 = .ok (.invokevirtual 72, 3) := by decide +kernel
theorem dX2_manyWith_37 : decode cX2_manyWith 37 = .ok (.isub, 1) := by decide +kernel
theorem dX2_manyWith_38 : decode cX2_manyWith 38 = .ok (.invokevirtual 55, 3) := by decide +kernel
theorem dX2_manyWith_41 : decode cX2_manyWith 41 = .ok (.ireturn, 1) := by decide +kernel
theorem dX2_leastAt_0 : decode cX2_leastAt 0 = .ok (.iload_n 1, 1) := by decide +kernel
theorem dX2_leastAt_1 : decode cX2_leastAt 1 = .ok (.iload_n 3, 1) := by decide +kernel
theorem dX2_leastAt_2 : decode cX2_leastAt 2 = .ok (.invokestatic 112, 3) := by decide +kernel
theorem dX2_leastAt_5 : decode cX2_leastAt 5 = .ok (.ifCond .eq 21, 3) := by decide +kernel
theorem dX2_leastAt_8 : decode cX2_leastAt 8 = .ok (.aload_n 0, 1) := by decide +kernel
theorem dX2_leastAt_9 : decode cX2_leastAt 9 = .ok (.getfield 11, 3) := by decide +kernel
theorem dX2_leastAt_12 : decode cX2_leastAt 12 = .ok (.iload_n 1, 1) := by decide +kernel
theorem dX2_leastAt_13 : decode cX2_leastAt 13 = .ok (.aaload, 1) := by decide +kernel
theorem dX2_leastAt_14 : decode cX2_leastAt 14 = .ok (.iload_n 2, 1) := by decide +kernel
theorem dX2_leastAt_15 : decode cX2_leastAt 15 = .ok (.iconst 1, 1) := by decide +kernel
theorem dX2_leastAt_16 : decode cX2_leastAt 16 = .ok (.iand, 1) := by decide +kernel
theorem dX2_leastAt_17 : decode cX2_leastAt 17 = .ok (.bipush 13, 2) := by decide +kernel
theorem dX2_leastAt_19 : decode cX2_leastAt 19 = .ok (.imul, 1) := by decide +kernel
theorem dX2_leastAt_20 : decode cX2_leastAt 20 = .ok (.iload_n 3, 1) := by decide +kernel
theorem dX2_leastAt_21 : decode cX2_leastAt 21 = .ok (.iadd, 1) := by decide +kernel
theorem dX2_leastAt_22 : decode cX2_leastAt 22 = .ok (.iaload, 1) := by decide +kernel
theorem dX2_leastAt_23 : decode cX2_leastAt 23 = .ok (.goto 4, 3) := by decide +kernel
theorem dX2_leastAt_26 : decode cX2_leastAt 26 = .ok (.iconst (-1), 1) := by decide +kernel
theorem dX2_leastAt_27 : decode cX2_leastAt 27 = .ok (.ireturn, 1) := by decide +kernel
theorem dX2_manyAt_0 : decode cX2_manyAt 0 = .ok (.iload_n 1, 1) := by decide +kernel
theorem dX2_manyAt_1 : decode cX2_manyAt 1 = .ok (.iload_n 3, 1) := by decide +kernel
theorem dX2_manyAt_2 : decode cX2_manyAt 2 = .ok (.invokestatic 112, 3) := by decide +kernel
theorem dX2_manyAt_5 : decode cX2_manyAt 5 = .ok (.ifCond .eq 21, 3) := by decide +kernel
theorem dX2_manyAt_8 : decode cX2_manyAt 8 = .ok (.aload_n 0, 1) := by decide +kernel
theorem dX2_manyAt_9 : decode cX2_manyAt 9 = .ok (.getfield 16, 3) := by decide +kernel
theorem dX2_manyAt_12 : decode cX2_manyAt 12 = .ok (.iload_n 1, 1) := by decide +kernel
theorem dX2_manyAt_13 : decode cX2_manyAt 13 = .ok (.aaload, 1) := by decide +kernel
theorem dX2_manyAt_14 : decode cX2_manyAt 14 = .ok (.iload_n 2, 1) := by decide +kernel
theorem dX2_manyAt_15 : decode cX2_manyAt 15 = .ok (.iconst 1, 1) := by decide +kernel
theorem dX2_manyAt_16 : decode cX2_manyAt 16 = .ok (.iand, 1) := by decide +kernel
theorem dX2_manyAt_17 : decode cX2_manyAt 17 = .ok (.bipush 13, 2) := by decide +kernel
theorem dX2_manyAt_19 : decode cX2_manyAt 19 = .ok (.imul, 1) := by decide +kernel
theorem dX2_manyAt_20 : decode cX2_manyAt 20 = .ok (.iload_n 3, 1) := by decide +kernel
theorem dX2_manyAt_21 : decode cX2_manyAt 21 = .ok (.iadd, 1) := by decide +kernel
theorem dX2_manyAt_22 : decode cX2_manyAt 22 = .ok (.iaload, 1) := by decide +kernel
theorem dX2_manyAt_23 : decode cX2_manyAt 23 = .ok (.goto 4, 3) := by decide +kernel
theorem dX2_manyAt_26 : decode cX2_manyAt 26 = .ok (.iconst 0, 1) := by decide +kernel
theorem dX2_manyAt_27 : decode cX2_manyAt 27 = .ok (.ireturn, 1) := by decide +kernel
theorem dX2_isPlace_0 : decode cX2_isPlace 0 = .ok (.iload_n 0, 1) := by decide +kernel
theorem dX2_isPlace_1 : decode cX2_isPlace 1 = .ok (.ifCond .lt 23, 3) := by decide +kernel
theorem dX2_isPlace_4 : decode cX2_isPlace 4 = .ok (.iload_n 0, 1) := by decide +kernel
theorem dX2_isPlace_5 : decode cX2_isPlace 5 = .ok (.bipush 6, 2) := by decide +kernel
theorem dX2_isPlace_7 : decode cX2_isPlace 7 = .ok (.if_icmp .gt 17, 3) := by decide +kernel
theorem dX2_isPlace_10 : decode cX2_isPlace 10 = .ok (.iload_n 1, 1) := by decide +kernel
theorem dX2_isPlace_11 : decode cX2_isPlace 11 = .ok (.ifCond .lt 13, 3) := by decide +kernel
theorem dX2_isPlace_14 : decode cX2_isPlace 14 = .ok (.iload_n 1, 1) := by decide +kernel
theorem dX2_isPlace_15 : decode cX2_isPlace 15 = .ok (.bipush 13, 2) := by decide +kernel
theorem dX2_isPlace_17 : decode cX2_isPlace 17 = .ok (.if_icmp .ge 7, 3) := by decide +kernel
theorem dX2_isPlace_20 : decode cX2_isPlace 20 = .ok (.iconst 1, 1) := by decide +kernel
theorem dX2_isPlace_21 : decode cX2_isPlace 21 = .ok (.goto 4, 3) := by decide +kernel
theorem dX2_isPlace_24 : decode cX2_isPlace 24 = .ok (.iconst 0, 1) := by decide +kernel
theorem dX2_isPlace_25 : decode cX2_isPlace 25 = .ok (.ireturn, 1) := by decide +kernel
theorem dX3_init_0 : decode cX3_init 0 = .ok (.aload_n 0, 1) := by decide +kernel
theorem dX3_init_1 : decode cX3_init 1 = .ok (.invokespecial 3, 3) := by decide +kernel
theorem dX3_init_4 : decode cX3_init 4 = .ok (.aload_n 0, 1) := by decide +kernel
theorem dX3_init_5 : decode cX3_init 5 = .ok (.iconst 5, 1) := by decide +kernel
theorem dX3_init_6 : decode cX3_init 6 = .ok (.iconst 2, 1) := by decide +kernel
theorem dX3_init_7 : decode cX3_init 7 = .ok (.multianewarray 9 2, 4) := by decide +kernel
theorem dX3_init_11 : decode cX3_init 11 = .ok (.putfield 11, 3) := by decide +kernel
theorem dX3_init_14 : decode cX3_init 14 = .ok (.aload_n 0, 1) := by decide +kernel
theorem dX3_init_15 : decode cX3_init 15 = .ok (.aload_n 1, 1) := by decide +kernel
theorem dX3_init_16 : decode cX3_init 16 = .ok (.putfield 16, 3) := by decide +kernel
theorem dX3_init_19 : decode cX3_init 19 = .ok (.return_, 1) := by decide +kernel
theorem dX3_most_0 : decode cX3_most 0 = .ok (.iconst 1, 1) := by decide +kernel
theorem dX3_most_1 : decode cX3_most 1 = .ok (.istore_n 2, 1) := by decide +kernel
theorem dX3_most_2 : decode cX3_most 2 = .ok (.iload_n 2, 1) := by decide +kernel
theorem dX3_most_3 : decode cX3_most 3 = .ok (.iload_n 1, 1) := by decide +kernel
theorem dX3_most_4 : decode cX3_most 4 = .ok (.if_icmp .gt 42, 3) := by decide +kernel
theorem dX3_most_7 : decode cX3_most 7 = .ok (.iload_n 2, 1) := by decide +kernel
theorem dX3_most_8 : decode cX3_most 8 = .ok (.iconst 4, 1) := by decide +kernel
theorem dX3_most_9 : decode cX3_most 9 = .ok (.if_icmp .gt 37, 3) := by decide +kernel
theorem dX3_most_12 : decode cX3_most 12 = .ok (.aload_n 0, 1) := by decide +kernel
theorem dX3_most_13 : decode cX3_most 13 = .ok (.getfield 11, 3) := by decide +kernel
theorem dX3_most_16 : decode cX3_most 16 = .ok (.iload_n 2, 1) := by decide +kernel
theorem dX3_most_17 : decode cX3_most 17 = .ok (.aaload, 1) := by decide +kernel
theorem dX3_most_18 : decode cX3_most 18 = .ok (.iconst 0, 1) := by decide +kernel
theorem dX3_most_19 : decode cX3_most 19 = .ok (.aload_n 0, 1) := by decide +kernel
theorem dX3_most_20 : decode cX3_most 20 = .ok (.iload_n 2, 1) := by decide +kernel
theorem dX3_most_21 : decode cX3_most 21 = .ok (.iconst 0, 1) := by decide +kernel
theorem dX3_most_22 : decode cX3_most 22 = .ok (.invokevirtual 20, 3) := by decide +kernel
theorem dX3_most_25 : decode cX3_most 25 = .ok (.iastore, 1) := by decide +kernel
theorem dX3_most_26 : decode cX3_most 26 = .ok (.aload_n 0, 1) := by decide +kernel
theorem dX3_most_27 : decode cX3_most 27 = .ok (.getfield 11, 3) := by decide +kernel
theorem dX3_most_30 : decode cX3_most 30 = .ok (.iload_n 2, 1) := by decide +kernel
theorem dX3_most_31 : decode cX3_most 31 = .ok (.aaload, 1) := by decide +kernel
theorem dX3_most_32 : decode cX3_most 32 = .ok (.iconst 1, 1) := by decide +kernel
theorem dX3_most_33 : decode cX3_most 33 = .ok (.aload_n 0, 1) := by decide +kernel
theorem dX3_most_34 : decode cX3_most 34 = .ok (.iload_n 2, 1) := by decide +kernel
theorem dX3_most_35 : decode cX3_most 35 = .ok (.iconst 1, 1) := by decide +kernel
theorem dX3_most_36 : decode cX3_most 36 = .ok (.invokevirtual 20, 3) := by decide +kernel
theorem dX3_most_39 : decode cX3_most 39 = .ok (.iastore, 1) := by decide +kernel
theorem dX3_most_40 : decode cX3_most 40 = .ok (.iinc 2 1, 3) := by decide +kernel
theorem dX3_most_43 : decode cX3_most 43 = .ok (.goto (-41), 3) := by decide +kernel
theorem dX3_most_46 : decode cX3_most 46 = .ok (.iload_n 1, 1) := by decide +kernel
theorem dX3_most_47 : decode cX3_most 47 = .ok (.ifCond .lt 19, 3) := by decide +kernel
theorem dX3_most_50 : decode cX3_most 50 = .ok (.iload_n 1, 1) := by decide +kernel
theorem dX3_most_51 : decode cX3_most 51 = .ok (.iconst 4, 1) := by decide +kernel
theorem dX3_most_52 : decode cX3_most 52 = .ok (.if_icmp .gt 14, 3) := by decide +kernel
theorem dX3_most_55 : decode cX3_most 55 = .ok (.aload_n 0, 1) := by decide +kernel
theorem dX3_most_56 : decode cX3_most 56 = .ok (.getfield 11, 3) := by decide +kernel
theorem dX3_most_59 : decode cX3_most 59 = .ok (.iload_n 1, 1) := by decide +kernel
theorem dX3_most_60 : decode cX3_most 60 = .ok (.aaload, 1) := by decide +kernel
theorem dX3_most_61 : decode cX3_most 61 = .ok (.iconst 0, 1) := by decide +kernel
theorem dX3_most_62 : decode cX3_most 62 = .ok (.iaload, 1) := by decide +kernel
theorem dX3_most_63 : decode cX3_most 63 = .ok (.goto 4, 3) := by decide +kernel
theorem dX3_most_66 : decode cX3_most 66 = .ok (.iconst (-1), 1) := by decide +kernel
theorem dX3_most_67 : decode cX3_most 67 = .ok (.ireturn, 1) := by decide +kernel
theorem dX3_mostBehind_0 : decode cX3_mostBehind 0 = .ok (.iload_n 1, 1) := by decide +kernel
theorem dX3_mostBehind_1 : decode cX3_mostBehind 1 = .ok (.iconst 1, 1) := by decide +kernel
theorem dX3_mostBehind_2 : decode cX3_mostBehind 2 = .ok (.if_icmp .lt 8, 3) := by decide +kernel
theorem dX3_mostBehind_5 : decode cX3_mostBehind 5 = .ok (.iload_n 1, 1) := by decide +kernel
theorem dX3_mostBehind_6 : decode cX3_mostBehind 6 = .ok (.iconst 4, 1) := by decide +kernel
theorem dX3_mostBehind_7 : decode cX3_mostBehind 7 = .ok (.if_icmp .le 5, 3) := by decide +kernel
theorem dX3_mostBehind_10 : decode cX3_mostBehind 10 = .ok (.iconst (-1), 1) := by decide +kernel
theorem dX3_mostBehind_11 : decode cX3_mostBehind 11 = .ok (.ireturn, 1) := by decide +kernel
theorem dX3_mostBehind_12 : decode cX3_mostBehind 12 = .ok (.iconst (-1), 1) := by decide +kernel
theorem dX3_mostBehind_13 : decode cX3_mostBehind 13 = .ok (.istore_n 3, 1) := by decide +kernel
theorem dX3_mostBehind_14 : decode cX3_mostBehind 14 = .ok (.iconst 0, 1) := by decide +kernel
theorem dX3_mostBehind_15 : decode cX3_mostBehind 15 = .ok (.istore 4, 2) := by decide +kernel
theorem dX3_mostBehind_17 : decode cX3_mostBehind 17 = .ok (.iload 4, 2) := by decide +kernel
theorem dX3_mostBehind_19 : decode cX3_mostBehind 19 = .ok (.aload_n 0, 1) := by decide +kernel
theorem dX3_mostBehind_20 : decode cX3_mostBehind 20 = .ok (.getfield 16, 3) := by decide +kernel
theorem dX3_mostBehind_23 : decode cX3_mostBehind 23 = .ok (.getfield 24, 3) := by decide +kernel
theorem dX3_mostBehind_26 : decode cX3_mostBehind 26 = .ok (.if_icmp .ge 108, 3) := by decide +kernel
theorem dX3_mostBehind_29 : decode cX3_mostBehind 29 = .ok (.aload_n 0, 1) := by decide +kernel
theorem dX3_mostBehind_30 : decode cX3_mostBehind 30 = .ok (.getfield 16, 3) := by decide +kernel
theorem dX3_mostBehind_33 : decode cX3_mostBehind 33 = .ok (.iload 4, 2) := by decide +kernel
theorem dX3_mostBehind_35 : decode cX3_mostBehind 35 = .ok (.iload_n 2, 1) := by decide +kernel
theorem dX3_mostBehind_36 : decode cX3_mostBehind 36 = .ok (.invokevirtual 30, 3) := by decide +kernel
theorem dX3_mostBehind_39 : decode cX3_mostBehind 39 = .ok (.ifCond .ne 6, 3) := by decide +kernel
theorem dX3_mostBehind_42 : decode cX3_mostBehind 42 = .ok (.goto 86, 3) := by decide +kernel
theorem dX3_mostBehind_45 : decode cX3_mostBehind 45 = .ok (.aload_n 0, 1) := by decide +kernel
theorem dX3_mostBehind_46 : decode cX3_mostBehind 46 = .ok (.getfield 11, 3) := by decide +kernel
theorem dX3_mostBehind_49 : decode cX3_mostBehind 49 = .ok (.iload_n 1, 1) := by decide +kernel
theorem dX3_mostBehind_50 : decode cX3_mostBehind 50 = .ok (.iconst 1, 1) := by decide +kernel
theorem dX3_mostBehind_51 : decode cX3_mostBehind 51 = .ok (.isub, 1) := by decide +kernel
theorem dX3_mostBehind_52 : decode cX3_mostBehind 52 = .ok (.aaload, 1) := by decide +kernel
theorem dX3_mostBehind_53 : decode cX3_mostBehind 53 = .ok (.iload_n 2, 1) := by decide +kernel
theorem dX3_mostBehind_54 : decode cX3_mostBehind 54 = .ok (.aload_n 0, 1) := by decide +kernel
theorem dX3_mostBehind_55 : decode cX3_mostBehind 55 = .ok (.getfield 16, 3) := by decide +kernel
theorem dX3_mostBehind_58 : decode cX3_mostBehind 58 = .ok (.getfield 34, 3) := by decide +kernel
theorem dX3_mostBehind_61 : decode cX3_mostBehind 61 = .ok (.iload 4, 2) := by decide +kernel
theorem dX3_mostBehind_63 : decode cX3_mostBehind 63 = .ok (.invokestatic 38, 3) := by decide +kernel
theorem dX3_mostBehind_66 : decode cX3_mostBehind 66 = .ok (.iadd, 1) := by decide +kernel
theorem dX3_mostBehind_67 : decode cX3_mostBehind 67 = .ok (.iconst 1, 1) := by decide +kernel
theorem dX3_mostBehind_68 : decode cX3_mostBehind 68 = .ok (.iand, 1) := by decide +kernel
theorem dX3_mostBehind_69 : decode cX3_mostBehind 69 = .ok (.iaload, 1) := by decide +kernel
theorem dX3_mostBehind_70 : decode cX3_mostBehind 70 = .ok (.istore 5, 2) := by decide +kernel
theorem dX3_mostBehind_72 : decode cX3_mostBehind 72 = .ok (.iload 5, 2) := by decide +kernel
theorem dX3_mostBehind_74 : decode cX3_mostBehind 74 = .ok (.iconst (-1), 1) := by decide +kernel
theorem dX3_mostBehind_75 : decode cX3_mostBehind 75 = .ok (.if_icmp .ne 6, 3) := by decide +kernel
theorem dX3_mostBehind_78 : decode cX3_mostBehind 78 = .ok (.goto 50, 3) := by decide +kernel
theorem dX3_mostBehind_81 : decode cX3_mostBehind 81 = .ok (.iload_n 1, 1) := by decide +kernel
theorem dX3_mostBehind_82 : decode cX3_mostBehind 82 = .ok (.iconst 1, 1) := by decide +kernel
theorem dX3_mostBehind_83 : decode cX3_mostBehind 83 = .ok (.if_icmp .le 23, 3) := by decide +kernel
theorem dX3_mostBehind_86 : decode cX3_mostBehind 86 = .ok (.aload_n 0, 1) := by decide +kernel
theorem dX3_mostBehind_87 : decode cX3_mostBehind 87 = .ok (.getfield 16, 3) := by decide +kernel
theorem dX3_mostBehind_90 : decode cX3_mostBehind 90 = .ok (.getfield 42, 3) := by decide +kernel
theorem dX3_mostBehind_93 : decode cX3_mostBehind 93 = .ok (.iload 4, 2) := by decide +kernel
theorem dX3_mostBehind_95 : decode cX3_mostBehind 95 = .ok (.invokestatic 38, 3) := by decide +kernel
theorem dX3_mostBehind_98 : decode cX3_mostBehind 98 = .ok (.iconst 1, 1) := by decide +kernel
theorem dX3_mostBehind_99 : decode cX3_mostBehind 99 = .ok (.if_icmp .ne 7, 3) := by decide +kernel
theorem dX3_mostBehind_102 : decode cX3_mostBehind 102 = .ok (.iconst 1, 1) := by decide +kernel
theorem dX3_mostBehind_103 : decode cX3_mostBehind 103 = .ok (.goto 4, 3) := by decide +kernel
theorem dX3_mostBehind_106 : decode cX3_mostBehind 106 = .ok (.iconst 0, 1) := by decide +kernel
theorem dX3_mostBehind_107 : decode cX3_mostBehind 107 = .ok (.istore 6, 2) := by decide +kernel
theorem dX3_mostBehind_109 : decode cX3_mostBehind 109 = .ok (.iload_n 3, 1) := by decide +kernel
theorem dX3_mostBehind_110 : decode cX3_mostBehind 110 = .ok (.iload 6, 2) := by decide +kernel
theorem dX3_mostBehind_112 : decode cX3_mostBehind 112 = .ok (.ifCond .eq 10, 3) := by decide +kernel
theorem dX3_mostBehind_115 : decode cX3_mostBehind 115 = .ok (.iload 5, 2) := by decide +kernel
theorem dX3_mostBehind_117 : decode cX3_mostBehind 117 = .ok (.iconst 1, 1) := by decide +kernel
theorem dX3_mostBehind_118 : decode cX3_mostBehind 118 = .ok (.iadd, 1) := by decide +kernel
theorem dX3_mostBehind_119 : decode cX3_mostBehind 119 = .ok (.goto 5, 3) := by decide +kernel
theorem dX3_mostBehind_122 : decode cX3_mostBehind 122 = .ok (.iload 5, 2) := by decide +kernel
theorem dX3_mostBehind_124 : decode cX3_mostBehind 124 = .ok (.invokestatic 45, 3) := by decide +kernel
theorem dX3_mostBehind_127 : decode cX3_mostBehind 127 = .ok (.istore_n 3, 1) := by decide +kernel
theorem dX3_mostBehind_128 : decode cX3_mostBehind 128 = .ok (.iinc 4 1, 3) := by decide +kernel
theorem dX3_mostBehind_131 : decode cX3_mostBehind 131 = .ok (.goto (-114), 3) := by decide +kernel
theorem dX3_mostBehind_134 : decode cX3_mostBehind 134 = .ok (.iload_n 3, 1) := by decide +kernel
theorem dX3_mostBehind_135 : decode cX3_mostBehind 135 = .ok (.ireturn, 1) := by decide +kernel
theorem dX4_init_0 : decode cX4_init 0 = .ok (.aload_n 0, 1) := by decide +kernel
theorem dX4_init_1 : decode cX4_init 1 = .ok (.invokespecial 3, 3) := by decide +kernel
theorem dX4_init_4 : decode cX4_init 4 = .ok (.aload_n 0, 1) := by decide +kernel
theorem dX4_init_5 : decode cX4_init 5 = .ok (.bipush 6, 2) := by decide +kernel
theorem dX4_init_7 : decode cX4_init 7 = .ok (.newarray .int, 2) := by decide +kernel
theorem dX4_init_9 : decode cX4_init 9 = .ok (.putfield 9, 3) := by decide +kernel
theorem dX4_init_12 : decode cX4_init 12 = .ok (.return_, 1) := by decide +kernel
theorem dX4_add_0 : decode cX4_add 0 = .ok (.aload_n 0, 1) := by decide +kernel
theorem dX4_add_1 : decode cX4_add 1 = .ok (.getfield 15, 3) := by decide +kernel
theorem dX4_add_4 : decode cX4_add 4 = .ok (.bipush 6, 2) := by decide +kernel
theorem dX4_add_6 : decode cX4_add 6 = .ok (.if_icmp .ge 23, 3) := by decide +kernel
theorem dX4_add_9 : decode cX4_add 9 = .ok (.aload_n 0, 1) := by decide +kernel
theorem dX4_add_10 : decode cX4_add 10 = .ok (.getfield 9, 3) := by decide +kernel
theorem dX4_add_13 : decode cX4_add 13 = .ok (.aload_n 0, 1) := by decide +kernel
theorem dX4_add_14 : decode cX4_add 14 = .ok (.getfield 15, 3) := by decide +kernel
theorem dX4_add_17 : decode cX4_add 17 = .ok (.iload_n 1, 1) := by decide +kernel
theorem dX4_add_18 : decode cX4_add 18 = .ok (.iastore, 1) := by decide +kernel
theorem dX4_add_19 : decode cX4_add 19 = .ok (.aload_n 0, 1) := by decide +kernel
theorem dX4_add_20 : decode cX4_add 20 = .ok (.dup, 1) := by decide +kernel
theorem dX4_add_21 : decode cX4_add 21 = .ok (.getfield 15, 3) := by decide +kernel
theorem dX4_add_24 : decode cX4_add 24 = .ok (.iconst 1, 1) := by decide +kernel
theorem dX4_add_25 : decode cX4_add 25 = .ok (.iadd, 1) := by decide +kernel
theorem dX4_add_26 : decode cX4_add 26 = .ok (.putfield 15, 3) := by decide +kernel
theorem dX4_add_29 : decode cX4_add 29 = .ok (.aload_n 0, 1) := by decide +kernel
theorem dX4_add_30 : decode cX4_add 30 = .ok (.getfield 15, 3) := by decide +kernel
theorem dX4_add_33 : decode cX4_add 33 = .ok (.ireturn, 1) := by decide +kernel
theorem dX4_clear_0 : decode cX4_clear 0 = .ok (.aload_n 0, 1) := by decide +kernel
theorem dX4_clear_1 : decode cX4_clear 1 = .ok (.getfield 15, 3) := by decide +kernel
theorem dX4_clear_4 : decode cX4_clear 4 = .ok (.istore_n 1, 1) := by decide +kernel
theorem dX4_clear_5 : decode cX4_clear 5 = .ok (.aload_n 0, 1) := by decide +kernel
theorem dX4_clear_6 : decode cX4_clear 6 = .ok (.iconst 0, 1) := by decide +kernel
theorem dX4_clear_7 : decode cX4_clear 7 = .ok (.putfield 15, 3) := by decide +kernel
theorem dX4_clear_10 : decode cX4_clear 10 = .ok (.iload_n 1, 1) := by decide +kernel
theorem dX4_clear_11 : decode cX4_clear 11 = .ok (.ireturn, 1) := by decide +kernel
theorem dX4_wordAt_0 : decode cX4_wordAt 0 = .ok (.iload_n 1, 1) := by decide +kernel
theorem dX4_wordAt_1 : decode cX4_wordAt 1 = .ok (.ifCond .lt 26, 3) := by decide +kernel
theorem dX4_wordAt_4 : decode cX4_wordAt 4 = .ok (.iload_n 1, 1) := by decide +kernel
theorem dX4_wordAt_5 : decode cX4_wordAt 5 = .ok (.aload_n 0, 1) := by decide +kernel
theorem dX4_wordAt_6 : decode cX4_wordAt 6 = .ok (.getfield 15, 3) := by decide +kernel
theorem dX4_wordAt_9 : decode cX4_wordAt 9 = .ok (.if_icmp .ge 18, 3) := by decide +kernel
theorem dX4_wordAt_12 : decode cX4_wordAt 12 = .ok (.iload_n 1, 1) := by decide +kernel
theorem dX4_wordAt_13 : decode cX4_wordAt 13 = .ok (.bipush 6, 2) := by decide +kernel
theorem dX4_wordAt_15 : decode cX4_wordAt 15 = .ok (.if_icmp .ge 12, 3) := by decide +kernel
theorem dX4_wordAt_18 : decode cX4_wordAt 18 = .ok (.aload_n 0, 1) := by decide +kernel
theorem dX4_wordAt_19 : decode cX4_wordAt 19 = .ok (.getfield 9, 3) := by decide +kernel
theorem dX4_wordAt_22 : decode cX4_wordAt 22 = .ok (.iload_n 1, 1) := by decide +kernel
theorem dX4_wordAt_23 : decode cX4_wordAt 23 = .ok (.iaload, 1) := by decide +kernel
theorem dX4_wordAt_24 : decode cX4_wordAt 24 = .ok (.goto 4, 3) := by decide +kernel
theorem dX4_wordAt_27 : decode cX4_wordAt 27 = .ok (.iconst (-1), 1) := by decide +kernel
theorem dX4_wordAt_28 : decode cX4_wordAt 28 = .ok (.ireturn, 1) := by decide +kernel
theorem dX4_lastWord_0 : decode cX4_lastWord 0 = .ok (.aload_n 0, 1) := by decide +kernel
theorem dX4_lastWord_1 : decode cX4_lastWord 1 = .ok (.aload_n 0, 1) := by decide +kernel
theorem dX4_lastWord_2 : decode cX4_lastWord 2 = .ok (.getfield 15, 3) := by decide +kernel
theorem dX4_lastWord_5 : decode cX4_lastWord 5 = .ok (.iconst 1, 1) := by decide +kernel
theorem dX4_lastWord_6 : decode cX4_lastWord 6 = .ok (.isub, 1) := by decide +kernel
theorem dX4_lastWord_7 : decode cX4_lastWord 7 = .ok (.invokevirtual 19, 3) := by decide +kernel
theorem dX4_lastWord_10 : decode cX4_lastWord 10 = .ok (.ireturn, 1) := by decide +kernel
theorem dX4_copy_0 : decode cX4_copy 0 = .ok (.aload_n 1, 1) := by decide +kernel
theorem dX4_copy_1 : decode cX4_copy 1 = .ok (.getfield 9, 3) := by decide +kernel
theorem dX4_copy_4 : decode cX4_copy 4 = .ok (.iconst 0, 1) := by decide +kernel
theorem dX4_copy_5 : decode cX4_copy 5 = .ok (.aload_n 0, 1) := by decide +kernel
theorem dX4_copy_6 : decode cX4_copy 6 = .ok (.getfield 9, 3) := by decide +kernel
theorem dX4_copy_9 : decode cX4_copy 9 = .ok (.iconst 0, 1) := by decide +kernel
theorem dX4_copy_10 : decode cX4_copy 10 = .ok (.bipush 6, 2) := by decide +kernel
theorem dX4_copy_12 : decode cX4_copy 12 = .ok (.invokestatic 23, 3) := by decide +kernel
theorem dX4_copy_15 : decode cX4_copy 15 = .ok (.aload_n 0, 1) := by decide +kernel
theorem dX4_copy_16 : decode cX4_copy 16 = .ok (.aload_n 1, 1) := by decide +kernel
theorem dX4_copy_17 : decode cX4_copy 17 = .ok (.getfield 15, 3) := by decide +kernel
theorem dX4_copy_20 : decode cX4_copy 20 = .ok (.putfield 15, 3) := by decide +kernel
theorem dX4_copy_23 : decode cX4_copy 23 = .ok (.return_, 1) := by decide +kernel
theorem dX5_init_0 : decode cX5_init 0 = .ok (.aload_n 0, 1) := by decide +kernel
theorem dX5_init_1 : decode cX5_init 1 = .ok (.invokespecial 3, 3) := by decide +kernel
theorem dX5_init_4 : decode cX5_init 4 = .ok (.aload_n 0, 1) := by decide +kernel
theorem dX5_init_5 : decode cX5_init 5 = .ok (.bipush 6, 2) := by decide +kernel
theorem dX5_init_7 : decode cX5_init 7 = .ok (.newarray .int, 2) := by decide +kernel
theorem dX5_init_9 : decode cX5_init 9 = .ok (.putfield 9, 3) := by decide +kernel
theorem dX5_init_12 : decode cX5_init 12 = .ok (.aload_n 0, 1) := by decide +kernel
theorem dX5_init_13 : decode cX5_init 13 = .ok (.bipush 6, 2) := by decide +kernel
theorem dX5_init_15 : decode cX5_init 15 = .ok (.newarray .int, 2) := by decide +kernel
theorem dX5_init_17 : decode cX5_init 17 = .ok (.putfield 15, 3) := by decide +kernel
theorem dX5_init_20 : decode cX5_init 20 = .ok (.aload_n 0, 1) := by decide +kernel
theorem dX5_init_21 : decode cX5_init 21 = .ok (.new 18, 3) := by decide +kernel
theorem dX5_init_24 : decode cX5_init 24 = .ok (.dup, 1) := by decide +kernel
theorem dX5_init_25 : decode cX5_init 25 = .ok (.invokespecial 20, 3) := by decide +kernel
theorem dX5_init_28 : decode cX5_init 28 = .ok (.putfield 21, 3) := by decide +kernel
theorem dX5_init_31 : decode cX5_init 31 = .ok (.aload_n 0, 1) := by decide +kernel
theorem dX5_init_32 : decode cX5_init 32 = .ok (.new 18, 3) := by decide +kernel
theorem dX5_init_35 : decode cX5_init 35 = .ok (.dup, 1) := by decide +kernel
theorem dX5_init_36 : decode cX5_init 36 = .ok (.invokespecial 20, 3) := by decide +kernel
theorem dX5_init_39 : decode cX5_init 39 = .ok (.putfield 25, 3) := by decide +kernel
theorem dX5_init_42 : decode cX5_init 42 = .ok (.aload_n 0, 1) := by decide +kernel
theorem dX5_init_43 : decode cX5_init 43 = .ok (.new 18, 3) := by decide +kernel
theorem dX5_init_46 : decode cX5_init 46 = .ok (.dup, 1) := by decide +kernel
theorem dX5_init_47 : decode cX5_init 47 = .ok (.invokespecial 20, 3) := by decide +kernel
theorem dX5_init_50 : decode cX5_init 50 = .ok (.putfield 28, 3) := by decide +kernel
theorem dX5_init_53 : decode cX5_init 53 = .ok (.aload_n 0, 1) := by decide +kernel
theorem dX5_init_54 : decode cX5_init 54 = .ok (.aload_n 1, 1) := by decide +kernel
theorem dX5_init_55 : decode cX5_init 55 = .ok (.putfield 31, 3) := by decide +kernel
theorem dX5_init_58 : decode cX5_init 58 = .ok (.return_, 1) := by decide +kernel
theorem dX5_forget_0 : decode cX5_forget 0 = .ok (.aload_n 0, 1) := by decide +kernel
theorem dX5_forget_1 : decode cX5_forget 1 = .ok (.iconst 0, 1) := by decide +kernel
theorem dX5_forget_2 : decode cX5_forget 2 = .ok (.putfield 35, 3) := by decide +kernel
theorem dX5_forget_5 : decode cX5_forget 5 = .ok (.aload_n 0, 1) := by decide +kernel
theorem dX5_forget_6 : decode cX5_forget 6 = .ok (.iconst 0, 1) := by decide +kernel
theorem dX5_forget_7 : decode cX5_forget 7 = .ok (.putfield 39, 3) := by decide +kernel
theorem dX5_forget_10 : decode cX5_forget 10 = .ok (.return_, 1) := by decide +kernel
theorem dX5_begin_0 : decode cX5_begin 0 = .ok (.aload_n 0, 1) := by decide +kernel
theorem dX5_begin_1 : decode cX5_begin 1 = .ok (.getfield 39, 3) := by decide +kernel
theorem dX5_begin_4 : decode cX5_begin 4 = .ok (.istore_n 2, 1) := by decide +kernel
theorem dX5_begin_5 : decode cX5_begin 5 = .ok (.aload_n 0, 1) := by decide +kernel
theorem dX5_begin_6 : decode cX5_begin 6 = .ok (.iload_n 1, 1) := by decide +kernel
theorem dX5_begin_7 : decode cX5_begin 7 = .ok (.iconst 3, 1) := by decide +kernel
theorem dX5_begin_8 : decode cX5_begin 8 = .ok (.invokestatic 42, 3) := by decide +kernel
theorem dX5_begin_11 : decode cX5_begin 11 = .ok (.putfield 35, 3) := by decide +kernel
theorem dX5_begin_14 : decode cX5_begin 14 = .ok (.aload_n 0, 1) := by decide +kernel
theorem dX5_begin_15 : decode cX5_begin 15 = .ok (.iconst 0, 1) := by decide +kernel
theorem dX5_begin_16 : decode cX5_begin 16 = .ok (.putfield 39, 3) := by decide +kernel
theorem dX5_begin_19 : decode cX5_begin 19 = .ok (.iload_n 2, 1) := by decide +kernel
theorem dX5_begin_20 : decode cX5_begin 20 = .ok (.ireturn, 1) := by decide +kernel
theorem dX5_add_0 : decode cX5_add 0 = .ok (.aload_n 0, 1) := by decide +kernel
theorem dX5_add_1 : decode cX5_add 1 = .ok (.getfield 39, 3) := by decide +kernel
theorem dX5_add_4 : decode cX5_add 4 = .ok (.bipush 6, 2) := by decide +kernel
theorem dX5_add_6 : decode cX5_add 6 = .ok (.if_icmp .ge 33, 3) := by decide +kernel
theorem dX5_add_9 : decode cX5_add 9 = .ok (.aload_n 0, 1) := by decide +kernel
theorem dX5_add_10 : decode cX5_add 10 = .ok (.getfield 9, 3) := by decide +kernel
theorem dX5_add_13 : decode cX5_add 13 = .ok (.aload_n 0, 1) := by decide +kernel
theorem dX5_add_14 : decode cX5_add 14 = .ok (.getfield 39, 3) := by decide +kernel
theorem dX5_add_17 : decode cX5_add 17 = .ok (.iload_n 1, 1) := by decide +kernel
theorem dX5_add_18 : decode cX5_add 18 = .ok (.iastore, 1) := by decide +kernel
theorem dX5_add_19 : decode cX5_add 19 = .ok (.aload_n 0, 1) := by decide +kernel
theorem dX5_add_20 : decode cX5_add 20 = .ok (.getfield 15, 3) := by decide +kernel
theorem dX5_add_23 : decode cX5_add 23 = .ok (.aload_n 0, 1) := by decide +kernel
theorem dX5_add_24 : decode cX5_add 24 = .ok (.getfield 39, 3) := by decide +kernel
theorem dX5_add_27 : decode cX5_add 27 = .ok (.iload_n 2, 1) := by decide +kernel
theorem dX5_add_28 : decode cX5_add 28 = .ok (.iastore, 1) := by decide +kernel
theorem dX5_add_29 : decode cX5_add 29 = .ok (.aload_n 0, 1) := by decide +kernel
theorem dX5_add_30 : decode cX5_add 30 = .ok (.dup, 1) := by decide +kernel
theorem dX5_add_31 : decode cX5_add 31 = .ok (.getfield 39, 3) := by decide +kernel
theorem dX5_add_34 : decode cX5_add 34 = .ok (.iconst 1, 1) := by decide +kernel
theorem dX5_add_35 : decode cX5_add 35 = .ok (.iadd, 1) := by decide +kernel
theorem dX5_add_36 : decode cX5_add 36 = .ok (.putfield 39, 3) := by decide +kernel
theorem dX5_add_39 : decode cX5_add 39 = .ok (.aload_n 0, 1) := by decide +kernel
theorem dX5_add_40 : decode cX5_add 40 = .ok (.getfield 39, 3) := by decide +kernel
theorem dX5_add_43 : decode cX5_add 43 = .ok (.ireturn, 1) := by decide +kernel
theorem dX5_solve_0 : decode cX5_solve 0 = .ok (.aload_n 0, 1) := by decide +kernel
theorem dX5_solve_1 : decode cX5_solve 1 = .ok (.iconst 0, 1) := by decide +kernel
theorem dX5_solve_2 : decode cX5_solve 2 = .ok (.putfield 48, 3) := by decide +kernel
theorem dX5_solve_5 : decode cX5_solve 5 = .ok (.aload_n 0, 1) := by decide +kernel
theorem dX5_solve_6 : decode cX5_solve 6 = .ok (.iconst 0, 1) := by decide +kernel
theorem dX5_solve_7 : decode cX5_solve 7 = .ok (.putfield 51, 3) := by decide +kernel
theorem dX5_solve_10 : decode cX5_solve 10 = .ok (.aload_n 0, 1) := by decide +kernel
theorem dX5_solve_11 : decode cX5_solve 11 = .ok (.getfield 25, 3) := by decide +kernel
theorem dX5_solve_14 : decode cX5_solve 14 = .ok (.invokevirtual 54, 3) := by decide +kernel
theorem dX5_solve_17 : decode cX5_solve 17 = .ok (.pop, 1) := by decide +kernel
theorem dX5_solve_18 : decode cX5_solve 18 = .ok (.aload_n 0, 1) := by decide +kernel
theorem dX5_solve_19 : decode cX5_solve 19 = .ok (.getfield 28, 3) := by decide +kernel
theorem dX5_solve_22 : decode cX5_solve 22 = .ok (.invokevirtual 54, 3) := by decide +kernel
theorem dX5_solve_25 : decode cX5_solve 25 = .ok (.pop, 1) := by decide +kernel
theorem dX5_solve_26 : decode cX5_solve 26 = .ok (.aload_n 0, 1) := by decide +kernel
theorem dX5_solve_27 : decode cX5_solve 27 = .ok (.getfield 21, 3) := by decide +kernel
theorem dX5_solve_30 : decode cX5_solve 30 = .ok (.invokevirtual 54, 3) := by decide +kernel
theorem dX5_solve_33 : decode cX5_solve 33 = .ok (.pop, 1) := by decide +kernel
theorem dX5_solve_34 : decode cX5_solve 34 = .ok (.iconst 0, 1) := by decide +kernel
theorem dX5_solve_35 : decode cX5_solve 35 = .ok (.istore_n 1, 1) := by decide +kernel
theorem dX5_solve_36 : decode cX5_solve 36 = .ok (.iload_n 1, 1) := by decide +kernel
theorem dX5_solve_37 : decode cX5_solve 37 = .ok (.aload_n 0, 1) := by decide +kernel
theorem dX5_solve_38 : decode cX5_solve 38 = .ok (.getfield 35, 3) := by decide +kernel
theorem dX5_solve_41 : decode cX5_solve 41 = .ok (.if_icmp .ge 18, 3) := by decide +kernel
theorem dX5_solve_44 : decode cX5_solve 44 = .ok (.aload_n 0, 1) := by decide +kernel
theorem dX5_solve_45 : decode cX5_solve 45 = .ok (.getfield 21, 3) := by decide +kernel
theorem dX5_solve_48 : decode cX5_solve 48 = .ok (.iconst 0, 1) := by decide +kernel
theorem dX5_solve_49 : decode cX5_solve 49 = .ok (.invokevirtual 58, 3) := by decide +kernel
theorem dX5_solve_52 : decode cX5_solve 52 = .ok (.pop, 1) := by decide +kernel
theorem dX5_solve_53 : decode cX5_solve 53 = .ok (.iinc 1 1, 3) := by decide +kernel
theorem dX5_solve_56 : decode cX5_solve 56 = .ok (.goto (-20), 3) := by decide +kernel
theorem dX5_solve_59 : decode cX5_solve 59 = .ok (.aload_n 0, 1) := by decide +kernel
theorem dX5_solve_60 : decode cX5_solve 60 = .ok (.getfield 31, 3) := by decide +kernel
theorem dX5_solve_63 : decode cX5_solve 63 = .ok (.aload_n 0, 1) := by decide +kernel
theorem dX5_solve_64 : decode cX5_solve 64 = .ok (.getfield 35, 3) := by decide +kernel
theorem dX5_solve_67 : decode cX5_solve 67 = .ok (.invokevirtual 62, 3) := by decide +kernel
theorem dX5_solve_70 : decode cX5_solve 70 = .ok (.istore_n 1, 1) := by decide +kernel
theorem dX5_solve_71 : decode cX5_solve 71 = .ok (.iconst 0, 1) := by decide +kernel
theorem dX5_solve_72 : decode cX5_solve 72 = .ok (.istore_n 2, 1) := by decide +kernel
theorem dX5_solve_73 : decode cX5_solve 73 = .ok (.iload_n 2, 1) := by decide +kernel
theorem dX5_solve_74 : decode cX5_solve 74 = .ok (.iload_n 1, 1) := by decide +kernel
theorem dX5_solve_75 : decode cX5_solve 75 = .ok (.if_icmp .ge 24, 3) := by decide +kernel
theorem dX5_solve_78 : decode cX5_solve 78 = .ok (.aload_n 0, 1) := by decide +kernel
theorem dX5_solve_79 : decode cX5_solve 79 = .ok (.invokevirtual 67, 3) := by decide +kernel
theorem dX5_solve_82 : decode cX5_solve 82 = .ok (.ifCond .eq 7, 3) := by decide +kernel
theorem dX5_solve_85 : decode cX5_solve 85 = .ok (.aload_n 0, 1) := by decide +kernel
theorem dX5_solve_86 : decode cX5_solve 86 = .ok (.invokevirtual 71, 3) := by decide +kernel
theorem dX5_solve_89 : decode cX5_solve 89 = .ok (.aload_n 0, 1) := by decide +kernel
theorem dX5_solve_90 : decode cX5_solve 90 = .ok (.invokevirtual 74, 3) := by decide +kernel
theorem dX5_solve_93 : decode cX5_solve 93 = .ok (.iinc 2 1, 3) := by decide +kernel
theorem dX5_solve_96 : decode cX5_solve 96 = .ok (.goto (-23), 3) := by decide +kernel
theorem dX5_solve_99 : decode cX5_solve 99 = .ok (.return_, 1) := by decide +kernel
theorem dX5_agrees_0 : decode cX5_agrees 0 = .ok (.aload_n 0, 1) := by decide +kernel
theorem dX5_agrees_1 : decode cX5_agrees 1 = .ok (.getfield 31, 3) := by decide +kernel
theorem dX5_agrees_4 : decode cX5_agrees 4 = .ok (.aload_n 0, 1) := by decide +kernel
theorem dX5_agrees_5 : decode cX5_agrees 5 = .ok (.getfield 21, 3) := by decide +kernel
theorem dX5_agrees_8 : decode cX5_agrees 8 = .ok (.invokevirtual 77, 3) := by decide +kernel
theorem dX5_agrees_11 : decode cX5_agrees 11 = .ok (.istore_n 1, 1) := by decide +kernel
theorem dX5_agrees_12 : decode cX5_agrees 12 = .ok (.iload_n 1, 1) := by decide +kernel
theorem dX5_agrees_13 : decode cX5_agrees 13 = .ok (.aload_n 0, 1) := by decide +kernel
theorem dX5_agrees_14 : decode cX5_agrees 14 = .ok (.getfield 31, 3) := by decide +kernel
theorem dX5_agrees_17 : decode cX5_agrees 17 = .ok (.aload_n 0, 1) := by decide +kernel
theorem dX5_agrees_18 : decode cX5_agrees 18 = .ok (.getfield 21, 3) := by decide +kernel
theorem dX5_agrees_21 : decode cX5_agrees 21 = .ok (.invokevirtual 81, 3) := by decide +kernel
theorem dX5_agrees_24 : decode cX5_agrees 24 = .ok (.isub, 1) := by decide +kernel
theorem dX5_agrees_25 : decode cX5_agrees 25 = .ok (.istore_n 2, 1) := by decide +kernel
theorem dX5_agrees_26 : decode cX5_agrees 26 = .ok (.iconst 0, 1) := by decide +kernel
theorem dX5_agrees_27 : decode cX5_agrees 27 = .ok (.istore_n 3, 1) := by decide +kernel
theorem dX5_agrees_28 : decode cX5_agrees 28 = .ok (.iload_n 3, 1) := by decide +kernel
theorem dX5_agrees_29 : decode cX5_agrees 29 = .ok (.aload_n 0, 1) := by decide +kernel
theorem dX5_agrees_30 : decode cX5_agrees 30 = .ok (.getfield 39, 3) := by decide +kernel
theorem dX5_agrees_33 : decode cX5_agrees 33 = .ok (.if_icmp .ge 47, 3) := by decide +kernel
theorem dX5_agrees_36 : decode cX5_agrees 36 = .ok (.iload_n 3, 1) := by decide +kernel
theorem dX5_agrees_37 : decode cX5_agrees 37 = .ok (.bipush 6, 2) := by decide +kernel
theorem dX5_agrees_39 : decode cX5_agrees 39 = .ok (.if_icmp .ge 41, 3) := by decide +kernel
theorem dX5_agrees_42 : decode cX5_agrees 42 = .ok (.aload_n 0, 1) := by decide +kernel
theorem dX5_agrees_43 : decode cX5_agrees 43 = .ok (.getfield 15, 3) := by decide +kernel
theorem dX5_agrees_46 : decode cX5_agrees 46 = .ok (.iload_n 3, 1) := by decide +kernel
theorem dX5_agrees_47 : decode cX5_agrees 47 = .ok (.iaload, 1) := by decide +kernel
theorem dX5_agrees_48 : decode cX5_agrees 48 = .ok (.aload_n 0, 1) := by decide +kernel
theorem dX5_agrees_49 : decode cX5_agrees 49 = .ok (.getfield 31, 3) := by decide +kernel
theorem dX5_agrees_52 : decode cX5_agrees 52 = .ok (.aload_n 0, 1) := by decide +kernel
theorem dX5_agrees_53 : decode cX5_agrees 53 = .ok (.getfield 9, 3) := by decide +kernel
theorem dX5_agrees_56 : decode cX5_agrees 56 = .ok (.iload_n 3, 1) := by decide +kernel
theorem dX5_agrees_57 : decode cX5_agrees 57 = .ok (.iaload, 1) := by decide +kernel
theorem dX5_agrees_58 : decode cX5_agrees 58 = .ok (.invokevirtual 84, 3) := by decide +kernel
theorem dX5_agrees_61 : decode cX5_agrees 61 = .ok (.ifCond .eq 7, 3) := by decide +kernel
theorem dX5_agrees_64 : decode cX5_agrees 64 = .ok (.iload_n 2, 1) := by decide +kernel
theorem dX5_agrees_65 : decode cX5_agrees 65 = .ok (.goto 4, 3) := by decide +kernel
theorem dX5_agrees_68 : decode cX5_agrees 68 = .ok (.iload_n 1, 1) := by decide +kernel
theorem dX5_agrees_69 : decode cX5_agrees 69 = .ok (.if_icmp .eq 5, 3) := by decide +kernel
theorem dX5_agrees_72 : decode cX5_agrees 72 = .ok (.iconst 0, 1) := by decide +kernel
theorem dX5_agrees_73 : decode cX5_agrees 73 = .ok (.ireturn, 1) := by decide +kernel
theorem dX5_agrees_74 : decode cX5_agrees 74 = .ok (.iinc 3 1, 3) := by decide +kernel
theorem dX5_agrees_77 : decode cX5_agrees 77 = .ok (.goto (-49), 3) := by decide +kernel
theorem dX5_agrees_80 : decode cX5_agrees 80 = .ok (.iconst 1, 1) := by decide +kernel
theorem dX5_agrees_81 : decode cX5_agrees 81 = .ok (.ireturn, 1) := by decide +kernel
theorem dX5_take_0 : decode cX5_take 0 = .ok (.aload_n 0, 1) := by decide +kernel
theorem dX5_take_1 : decode cX5_take 1 = .ok (.getfield 48, 3) := by decide +kernel
theorem dX5_take_4 : decode cX5_take 4 = .ok (.ifCond .ne 25, 3) := by decide +kernel
theorem dX5_take_7 : decode cX5_take 7 = .ok (.aload_n 0, 1) := by decide +kernel
theorem dX5_take_8 : decode cX5_take 8 = .ok (.getfield 25, 3) := by decide +kernel
theorem dX5_take_11 : decode cX5_take 11 = .ok (.aload_n 0, 1) := by decide +kernel
theorem dX5_take_12 : decode cX5_take 12 = .ok (.getfield 21, 3) := by decide +kernel
theorem dX5_take_15 : decode cX5_take 15 = .ok (.invokevirtual 88, 3) := by decide +kernel
theorem dX5_take_18 : decode cX5_take 18 = .ok (.aload_n 0, 1) := by decide +kernel
theorem dX5_take_19 : decode cX5_take 19 = .ok (.getfield 28, 3) := by decide +kernel
theorem dX5_take_22 : decode cX5_take 22 = .ok (.aload_n 0, 1) := by decide +kernel
theorem dX5_take_23 : decode cX5_take 23 = .ok (.getfield 21, 3) := by decide +kernel
theorem dX5_take_26 : decode cX5_take 26 = .ok (.invokevirtual 88, 3) := by decide +kernel
theorem dX5_take_29 : decode cX5_take 29 = .ok (.aload_n 0, 1) := by decide +kernel
theorem dX5_take_30 : decode cX5_take 30 = .ok (.dup, 1) := by decide +kernel
theorem dX5_take_31 : decode cX5_take 31 = .ok (.getfield 48, 3) := by decide +kernel
theorem dX5_take_34 : decode cX5_take 34 = .ok (.iconst 1, 1) := by decide +kernel
theorem dX5_take_35 : decode cX5_take 35 = .ok (.iadd, 1) := by decide +kernel
theorem dX5_take_36 : decode cX5_take 36 = .ok (.putfield 48, 3) := by decide +kernel
theorem dX5_take_39 : decode cX5_take 39 = .ok (.iconst 0, 1) := by decide +kernel
theorem dX5_take_40 : decode cX5_take 40 = .ok (.istore_n 1, 1) := by decide +kernel
theorem dX5_take_41 : decode cX5_take 41 = .ok (.iload_n 1, 1) := by decide +kernel
theorem dX5_take_42 : decode cX5_take 42 = .ok (.aload_n 0, 1) := by decide +kernel
theorem dX5_take_43 : decode cX5_take 43 = .ok (.getfield 35, 3) := by decide +kernel
theorem dX5_take_46 : decode cX5_take 46 = .ok (.if_icmp .ge 45, 3) := by decide +kernel
theorem dX5_take_49 : decode cX5_take 49 = .ok (.iload_n 1, 1) := by decide +kernel
theorem dX5_take_50 : decode cX5_take 50 = .ok (.iconst 3, 1) := by decide +kernel
theorem dX5_take_51 : decode cX5_take 51 = .ok (.if_icmp .ge 40, 3) := by decide +kernel
theorem dX5_take_54 : decode cX5_take 54 = .ok (.aload_n 0, 1) := by decide +kernel
theorem dX5_take_55 : decode cX5_take 55 = .ok (.getfield 28, 3) := by decide +kernel
theorem dX5_take_58 : decode cX5_take 58 = .ok (.getfield 92, 3) := by decide +kernel
theorem dX5_take_61 : decode cX5_take 61 = .ok (.iload_n 1, 1) := by decide +kernel
theorem dX5_take_62 : decode cX5_take 62 = .ok (.iaload, 1) := by decide +kernel
theorem dX5_take_63 : decode cX5_take 63 = .ok (.aload_n 0, 1) := by decide +kernel
theorem dX5_take_64 : decode cX5_take 64 = .ok (.getfield 21, 3) := by decide +kernel
theorem dX5_take_67 : decode cX5_take 67 = .ok (.getfield 92, 3) := by decide +kernel
theorem dX5_take_70 : decode cX5_take 70 = .ok (.iload_n 1, 1) := by decide +kernel
theorem dX5_take_71 : decode cX5_take 71 = .ok (.iaload, 1) := by decide +kernel
theorem dX5_take_72 : decode cX5_take 72 = .ok (.if_icmp .eq 13, 3) := by decide +kernel
theorem dX5_take_75 : decode cX5_take 75 = .ok (.aload_n 0, 1) := by decide +kernel
theorem dX5_take_76 : decode cX5_take 76 = .ok (.getfield 28, 3) := by decide +kernel
theorem dX5_take_79 : decode cX5_take 79 = .ok (.getfield 92, 3) := by decide +kernel
theorem dX5_take_82 : decode cX5_take 82 = .ok (.iload_n 1, 1) := by decide +kernel
theorem dX5_take_83 : decode cX5_take 83 = .ok (.iconst (-1), 1) := by decide +kernel
theorem dX5_take_84 : decode cX5_take 84 = .ok (.iastore, 1) := by decide +kernel
theorem dX5_take_85 : decode cX5_take 85 = .ok (.iinc 1 1, 3) := by decide +kernel
theorem dX5_take_88 : decode cX5_take 88 = .ok (.goto (-47), 3) := by decide +kernel
theorem dX5_take_91 : decode cX5_take 91 = .ok (.aload_n 0, 1) := by decide +kernel
theorem dX5_take_92 : decode cX5_take 92 = .ok (.getfield 31, 3) := by decide +kernel
theorem dX5_take_95 : decode cX5_take 95 = .ok (.iconst 0, 1) := by decide +kernel
theorem dX5_take_96 : decode cX5_take 96 = .ok (.invokevirtual 95, 3) := by decide +kernel
theorem dX5_take_99 : decode cX5_take 99 = .ok (.ifCond .ne 4, 3) := by decide +kernel
theorem dX5_take_102 : decode cX5_take 102 = .ok (.return_, 1) := by decide +kernel
theorem dX5_take_103 : decode cX5_take 103 = .ok (.iconst 0, 1) := by decide +kernel
theorem dX5_take_104 : decode cX5_take 104 = .ok (.istore_n 1, 1) := by decide +kernel
theorem dX5_take_105 : decode cX5_take 105 = .ok (.iload_n 1, 1) := by decide +kernel
theorem dX5_take_106 : decode cX5_take 106 = .ok (.aload_n 0, 1) := by decide +kernel
theorem dX5_take_107 : decode cX5_take 107 = .ok (.getfield 31, 3) := by decide +kernel
theorem dX5_take_110 : decode cX5_take 110 = .ok (.getfield 98, 3) := by decide +kernel
theorem dX5_take_113 : decode cX5_take 113 = .ok (.if_icmp .ge 48, 3) := by decide +kernel
theorem dX5_take_116 : decode cX5_take 116 = .ok (.aload_n 0, 1) := by decide +kernel
theorem dX5_take_117 : decode cX5_take 117 = .ok (.getfield 51, 3) := by decide +kernel
theorem dX5_take_120 : decode cX5_take 120 = .ok (.iload_n 1, 1) := by decide +kernel
theorem dX5_take_121 : decode cX5_take 121 = .ok (.invokestatic 99, 3) := by decide +kernel
theorem dX5_take_124 : decode cX5_take 124 = .ok (.ifCond .ne 31, 3) := by decide +kernel
theorem dX5_take_127 : decode cX5_take 127 = .ok (.aload_n 0, 1) := by decide +kernel
theorem dX5_take_128 : decode cX5_take 128 = .ok (.getfield 31, 3) := by decide +kernel
theorem dX5_take_131 : decode cX5_take 131 = .ok (.aload_n 0, 1) := by decide +kernel
theorem dX5_take_132 : decode cX5_take 132 = .ok (.getfield 21, 3) := by decide +kernel
theorem dX5_take_135 : decode cX5_take 135 = .ok (.iload_n 1, 1) := by decide +kernel
theorem dX5_take_136 : decode cX5_take 136 = .ok (.iconst 0, 1) := by decide +kernel
theorem dX5_take_137 : decode cX5_take 137 = .ok (.invokevirtual 103, 3) := by decide +kernel
theorem dX5_take_140 : decode cX5_take 140 = .ok (.ifCond .eq 15, 3) := by decide +kernel
theorem dX5_take_143 : decode cX5_take 143 = .ok (.aload_n 0, 1) := by decide +kernel
theorem dX5_take_144 : decode cX5_take 144 = .ok (.dup, 1) := by decide +kernel
theorem dX5_take_145 : decode cX5_take 145 = .ok (.getfield 51, 3) := by decide +kernel
theorem dX5_take_148 : decode cX5_take 148 = .ok (.iconst 1, 1) := by decide +kernel
theorem dX5_take_149 : decode cX5_take 149 = .ok (.iload_n 1, 1) := by decide +kernel
theorem dX5_take_150 : decode cX5_take 150 = .ok (.ishl, 1) := by decide +kernel
theorem dX5_take_151 : decode cX5_take 151 = .ok (.ior, 1) := by decide +kernel
theorem dX5_take_152 : decode cX5_take 152 = .ok (.putfield 51, 3) := by decide +kernel
theorem dX5_take_155 : decode cX5_take 155 = .ok (.iinc 1 1, 3) := by decide +kernel
theorem dX5_take_158 : decode cX5_take 158 = .ok (.goto (-53), 3) := by decide +kernel
theorem dX5_take_161 : decode cX5_take 161 = .ok (.return_, 1) := by decide +kernel
theorem dX5_moveOn_0 : decode cX5_moveOn 0 = .ok (.aload_n 0, 1) := by decide +kernel
theorem dX5_moveOn_1 : decode cX5_moveOn 1 = .ok (.getfield 35, 3) := by decide +kernel
theorem dX5_moveOn_4 : decode cX5_moveOn 4 = .ok (.iconst 3, 1) := by decide +kernel
theorem dX5_moveOn_5 : decode cX5_moveOn 5 = .ok (.invokestatic 42, 3) := by decide +kernel
theorem dX5_moveOn_8 : decode cX5_moveOn 8 = .ok (.iconst 1, 1) := by decide +kernel
theorem dX5_moveOn_9 : decode cX5_moveOn 9 = .ok (.isub, 1) := by decide +kernel
theorem dX5_moveOn_10 : decode cX5_moveOn 10 = .ok (.istore_n 1, 1) := by decide +kernel
theorem dX5_moveOn_11 : decode cX5_moveOn 11 = .ok (.iload_n 1, 1) := by decide +kernel
theorem dX5_moveOn_12 : decode cX5_moveOn 12 = .ok (.ifCond .lt 52, 3) := by decide +kernel
theorem dX5_moveOn_15 : decode cX5_moveOn 15 = .ok (.aload_n 0, 1) := by decide +kernel
theorem dX5_moveOn_16 : decode cX5_moveOn 16 = .ok (.getfield 21, 3) := by decide +kernel
theorem dX5_moveOn_19 : decode cX5_moveOn 19 = .ok (.getfield 92, 3) := by decide +kernel
theorem dX5_moveOn_22 : decode cX5_moveOn 22 = .ok (.iload_n 1, 1) := by decide +kernel
theorem dX5_moveOn_23 : decode cX5_moveOn 23 = .ok (.dup2, 1) := by decide +kernel
theorem dX5_moveOn_24 : decode cX5_moveOn 24 = .ok (.iaload, 1) := by decide +kernel
theorem dX5_moveOn_25 : decode cX5_moveOn 25 = .ok (.iconst 1, 1) := by decide +kernel
theorem dX5_moveOn_26 : decode cX5_moveOn 26 = .ok (.iadd, 1) := by decide +kernel
theorem dX5_moveOn_27 : decode cX5_moveOn 27 = .ok (.iastore, 1) := by decide +kernel
theorem dX5_moveOn_28 : decode cX5_moveOn 28 = .ok (.aload_n 0, 1) := by decide +kernel
theorem dX5_moveOn_29 : decode cX5_moveOn 29 = .ok (.getfield 21, 3) := by decide +kernel
theorem dX5_moveOn_32 : decode cX5_moveOn 32 = .ok (.getfield 92, 3) := by decide +kernel
theorem dX5_moveOn_35 : decode cX5_moveOn 35 = .ok (.iload_n 1, 1) := by decide +kernel
theorem dX5_moveOn_36 : decode cX5_moveOn 36 = .ok (.iaload, 1) := by decide +kernel
theorem dX5_moveOn_37 : decode cX5_moveOn 37 = .ok (.aload_n 0, 1) := by decide +kernel
theorem dX5_moveOn_38 : decode cX5_moveOn 38 = .ok (.getfield 31, 3) := by decide +kernel
theorem dX5_moveOn_41 : decode cX5_moveOn 41 = .ok (.getfield 107, 3) := by decide +kernel
theorem dX5_moveOn_44 : decode cX5_moveOn 44 = .ok (.if_icmp .ge 4, 3) := by decide +kernel
theorem dX5_moveOn_47 : decode cX5_moveOn 47 = .ok (.return_, 1) := by decide +kernel
theorem dX5_moveOn_48 : decode cX5_moveOn 48 = .ok (.aload_n 0, 1) := by decide +kernel
theorem dX5_moveOn_49 : decode cX5_moveOn 49 = .ok (.getfield 21, 3) := by decide +kernel
theorem dX5_moveOn_52 : decode cX5_moveOn 52 = .ok (.getfield 92, 3) := by decide +kernel
theorem dX5_moveOn_55 : decode cX5_moveOn 55 = .ok (.iload_n 1, 1) := by decide +kernel
theorem dX5_moveOn_56 : decode cX5_moveOn 56 = .ok (.iconst 0, 1) := by decide +kernel
theorem dX5_moveOn_57 : decode cX5_moveOn 57 = .ok (.iastore, 1) := by decide +kernel
theorem dX5_moveOn_58 : decode cX5_moveOn 58 = .ok (.iinc 1 (-1), 3) := by decide +kernel
theorem dX5_moveOn_61 : decode cX5_moveOn 61 = .ok (.goto (-50), 3) := by decide +kernel
theorem dX5_moveOn_64 : decode cX5_moveOn 64 = .ok (.return_, 1) := by decide +kernel
theorem dX6_init_0 : decode cX6_init 0 = .ok (.aload_n 0, 1) := by decide +kernel
theorem dX6_init_1 : decode cX6_init 1 = .ok (.invokespecial 3, 3) := by decide +kernel
theorem dX6_init_4 : decode cX6_init 4 = .ok (.aload_n 0, 1) := by decide +kernel
theorem dX6_init_5 : decode cX6_init 5 = .ok (.bipush 64, 2) := by decide +kernel
theorem dX6_init_7 : decode cX6_init 7 = .ok (.newarray .int, 2) := by decide +kernel
theorem dX6_init_9 : decode cX6_init 9 = .ok (.putfield 9, 3) := by decide +kernel
theorem dX6_init_12 : decode cX6_init 12 = .ok (.aload_n 0, 1) := by decide +kernel
theorem dX6_init_13 : decode cX6_init 13 = .ok (.aload_n 1, 1) := by decide +kernel
theorem dX6_init_14 : decode cX6_init 14 = .ok (.putfield 15, 3) := by decide +kernel
theorem dX6_init_17 : decode cX6_init 17 = .ok (.return_, 1) := by decide +kernel
theorem dX6_load_0 : decode cX6_load 0 = .ok (.iconst 1, 1) := by decide +kernel
theorem dX6_load_1 : decode cX6_load 1 = .ok (.aload_n 0, 1) := by decide +kernel
theorem dX6_load_2 : decode cX6_load 2 = .ok (.getfield 15, 3) := by decide +kernel
theorem dX6_load_5 : decode cX6_load 5 = .ok (.getfield 19, 3) := by decide +kernel
theorem dX6_load_8 : decode cX6_load 8 = .ok (.bipush 6, 2) := by decide +kernel
theorem dX6_load_10 : decode cX6_load 10 = .ok (.invokestatic 25, 3) := by decide +kernel
theorem dX6_load_13 : decode cX6_load 13 = .ok (.ishl, 1) := by decide +kernel
theorem dX6_load_14 : decode cX6_load 14 = .ok (.istore_n 2, 1) := by decide +kernel
theorem dX6_load_15 : decode cX6_load 15 = .ok (.aload_n 0, 1) := by decide +kernel
theorem dX6_load_16 : decode cX6_load 16 = .ok (.iload_n 2, 1) := by decide +kernel
theorem dX6_load_17 : decode cX6_load 17 = .ok (.invokevirtual 31, 3) := by decide +kernel
theorem dX6_load_20 : decode cX6_load 20 = .ok (.aload_n 0, 1) := by decide +kernel
theorem dX6_load_21 : decode cX6_load 21 = .ok (.iconst (-1), 1) := by decide +kernel
theorem dX6_load_22 : decode cX6_load 22 = .ok (.putfield 35, 3) := by decide +kernel
theorem dX6_load_25 : decode cX6_load 25 = .ok (.iconst 0, 1) := by decide +kernel
theorem dX6_load_26 : decode cX6_load 26 = .ok (.istore_n 3, 1) := by decide +kernel
theorem dX6_load_27 : decode cX6_load 27 = .ok (.iload_n 3, 1) := by decide +kernel
theorem dX6_load_28 : decode cX6_load 28 = .ok (.iload_n 2, 1) := by decide +kernel
theorem dX6_load_29 : decode cX6_load 29 = .ok (.if_icmp .ge 105, 3) := by decide +kernel
theorem dX6_load_32 : decode cX6_load 32 = .ok (.aload_n 0, 1) := by decide +kernel
theorem dX6_load_33 : decode cX6_load 33 = .ok (.getfield 9, 3) := by decide +kernel
theorem dX6_load_36 : decode cX6_load 36 = .ok (.iload_n 3, 1) := by decide +kernel
theorem dX6_load_37 : decode cX6_load 37 = .ok (.invokestatic 38, 3) := by decide +kernel
theorem dX6_load_40 : decode cX6_load 40 = .ok (.iload_n 1, 1) := by decide +kernel
theorem dX6_load_41 : decode cX6_load 41 = .ok (.if_icmp .le 6, 3) := by decide +kernel
theorem dX6_load_44 : decode cX6_load 44 = .ok (.goto 84, 3) := by decide +kernel
theorem dX6_load_47 : decode cX6_load 47 = .ok (.iconst 0, 1) := by decide +kernel
theorem dX6_load_48 : decode cX6_load 48 = .ok (.istore 4, 2) := by decide +kernel
theorem dX6_load_50 : decode cX6_load 50 = .ok (.iload 4, 2) := by decide +kernel
theorem dX6_load_52 : decode cX6_load 52 = .ok (.iload_n 2, 1) := by decide +kernel
theorem dX6_load_53 : decode cX6_load 53 = .ok (.if_icmp .ge 75, 3) := by decide +kernel
theorem dX6_load_56 : decode cX6_load 56 = .ok (.aload_n 0, 1) := by decide +kernel
theorem dX6_load_57 : decode cX6_load 57 = .ok (.getfield 9, 3) := by decide +kernel
theorem dX6_load_60 : decode cX6_load 60 = .ok (.iload_n 3, 1) := by decide +kernel
theorem dX6_load_61 : decode cX6_load 61 = .ok (.invokestatic 38, 3) := by decide +kernel
theorem dX6_load_64 : decode cX6_load 64 = .ok (.aload_n 0, 1) := by decide +kernel
theorem dX6_load_65 : decode cX6_load 65 = .ok (.getfield 9, 3) := by decide +kernel
theorem dX6_load_68 : decode cX6_load 68 = .ok (.iload 4, 2) := by decide +kernel
theorem dX6_load_70 : decode cX6_load 70 = .ok (.invokestatic 38, 3) := by decide +kernel
theorem dX6_load_73 : decode cX6_load 73 = .ok (.iadd, 1) := by decide +kernel
theorem dX6_load_74 : decode cX6_load 74 = .ok (.istore 5, 2) := by decide +kernel
theorem dX6_load_76 : decode cX6_load 76 = .ok (.iload_n 3, 1) := by decide +kernel
theorem dX6_load_77 : decode cX6_load 77 = .ok (.iload 4, 2) := by decide +kernel
theorem dX6_load_79 : decode cX6_load 79 = .ok (.iand, 1) := by decide +kernel
theorem dX6_load_80 : decode cX6_load 80 = .ok (.ifCond .ne 42, 3) := by decide +kernel
theorem dX6_load_83 : decode cX6_load 83 = .ok (.aload_n 0, 1) := by decide +kernel
theorem dX6_load_84 : decode cX6_load 84 = .ok (.getfield 9, 3) := by decide +kernel
theorem dX6_load_87 : decode cX6_load 87 = .ok (.iload 4, 2) := by decide +kernel
theorem dX6_load_89 : decode cX6_load 89 = .ok (.invokestatic 38, 3) := by decide +kernel
theorem dX6_load_92 : decode cX6_load 92 = .ok (.iload_n 1, 1) := by decide +kernel
theorem dX6_load_93 : decode cX6_load 93 = .ok (.if_icmp .gt 29, 3) := by decide +kernel
theorem dX6_load_96 : decode cX6_load 96 = .ok (.iload 5, 2) := by decide +kernel
theorem dX6_load_98 : decode cX6_load 98 = .ok (.aload_n 0, 1) := by decide +kernel
theorem dX6_load_99 : decode cX6_load 99 = .ok (.getfield 35, 3) := by decide +kernel
theorem dX6_load_102 : decode cX6_load 102 = .ok (.if_icmp .le 20, 3) := by decide +kernel
theorem dX6_load_105 : decode cX6_load 105 = .ok (.aload_n 0, 1) := by decide +kernel
theorem dX6_load_106 : decode cX6_load 106 = .ok (.iload 5, 2) := by decide +kernel
theorem dX6_load_108 : decode cX6_load 108 = .ok (.putfield 35, 3) := by decide +kernel
theorem dX6_load_111 : decode cX6_load 111 = .ok (.aload_n 0, 1) := by decide +kernel
theorem dX6_load_112 : decode cX6_load 112 = .ok (.iload_n 3, 1) := by decide +kernel
theorem dX6_load_113 : decode cX6_load 113 = .ok (.putfield 42, 3) := by decide +kernel
theorem dX6_load_116 : decode cX6_load 116 = .ok (.aload_n 0, 1) := by decide +kernel
theorem dX6_load_117 : decode cX6_load 117 = .ok (.iload 4, 2) := by decide +kernel
theorem dX6_load_119 : decode cX6_load 119 = .ok (.putfield 45, 3) := by decide +kernel
theorem dX6_load_122 : decode cX6_load 122 = .ok (.iinc 4 1, 3) := by decide +kernel
theorem dX6_load_125 : decode cX6_load 125 = .ok (.goto (-75), 3) := by decide +kernel
theorem dX6_load_128 : decode cX6_load 128 = .ok (.iinc 3 1, 3) := by decide +kernel
theorem dX6_load_131 : decode cX6_load 131 = .ok (.goto (-104), 3) := by decide +kernel
theorem dX6_load_134 : decode cX6_load 134 = .ok (.return_, 1) := by decide +kernel
theorem dX6_weigh_0 : decode cX6_weigh 0 = .ok (.iconst 0, 1) := by decide +kernel
theorem dX6_weigh_1 : decode cX6_weigh 1 = .ok (.istore_n 2, 1) := by decide +kernel
theorem dX6_weigh_2 : decode cX6_weigh 2 = .ok (.iload_n 2, 1) := by decide +kernel
theorem dX6_weigh_3 : decode cX6_weigh 3 = .ok (.iload_n 1, 1) := by decide +kernel
theorem dX6_weigh_4 : decode cX6_weigh 4 = .ok (.if_icmp .ge 72, 3) := by decide +kernel
theorem dX6_weigh_7 : decode cX6_weigh 7 = .ok (.iload_n 2, 1) := by decide +kernel
theorem dX6_weigh_8 : decode cX6_weigh 8 = .ok (.aload_n 0, 1) := by decide +kernel
theorem dX6_weigh_9 : decode cX6_weigh 9 = .ok (.getfield 9, 3) := by decide +kernel
theorem dX6_weigh_12 : decode cX6_weigh 12 = .ok (.arraylength, 1) := by decide +kernel
theorem dX6_weigh_13 : decode cX6_weigh 13 = .ok (.if_icmp .ge 63, 3) := by decide +kernel
theorem dX6_weigh_16 : decode cX6_weigh 16 = .ok (.iconst 0, 1) := by decide +kernel
theorem dX6_weigh_17 : decode cX6_weigh 17 = .ok (.istore_n 3, 1) := by decide +kernel
theorem dX6_weigh_18 : decode cX6_weigh 18 = .ok (.iconst 0, 1) := by decide +kernel
theorem dX6_weigh_19 : decode cX6_weigh 19 = .ok (.istore 4, 2) := by decide +kernel
theorem dX6_weigh_21 : decode cX6_weigh 21 = .ok (.iload 4, 2) := by decide +kernel
theorem dX6_weigh_23 : decode cX6_weigh 23 = .ok (.aload_n 0, 1) := by decide +kernel
theorem dX6_weigh_24 : decode cX6_weigh 24 = .ok (.getfield 15, 3) := by decide +kernel
theorem dX6_weigh_27 : decode cX6_weigh 27 = .ok (.getfield 19, 3) := by decide +kernel
theorem dX6_weigh_30 : decode cX6_weigh 30 = .ok (.if_icmp .ge 33, 3) := by decide +kernel
theorem dX6_weigh_33 : decode cX6_weigh 33 = .ok (.iload_n 2, 1) := by decide +kernel
theorem dX6_weigh_34 : decode cX6_weigh 34 = .ok (.iload 4, 2) := by decide +kernel
theorem dX6_weigh_36 : decode cX6_weigh 36 = .ok (.invokestatic 48, 3) := by decide +kernel
theorem dX6_weigh_39 : decode cX6_weigh 39 = .ok (.ifCond .eq 18, 3) := by decide +kernel
theorem dX6_weigh_42 : decode cX6_weigh 42 = .ok (.iload_n 3, 1) := by decide +kernel
theorem dX6_weigh_43 : decode cX6_weigh 43 = .ok (.aload_n 0, 1) := by decide +kernel
theorem dX6_weigh_44 : decode cX6_weigh 44 = .ok (.getfield 15, 3) := by decide +kernel
theorem dX6_weigh_47 : decode cX6_weigh 47 = .ok (.getfield 52, 3) := by decide +kernel
theorem dX6_weigh_50 : decode cX6_weigh 50 = .ok (.iload 4, 2) := by decide +kernel
theorem dX6_weigh_52 : decode cX6_weigh 52 = .ok (.invokestatic 38, 3) := by decide +kernel
theorem dX6_weigh_55 : decode cX6_weigh 55 = .ok (.iadd, 1) := by decide +kernel
theorem dX6_weigh_56 : decode cX6_weigh 56 = .ok (.istore_n 3, 1) := by decide +kernel
theorem dX6_weigh_57 : decode cX6_weigh 57 = .ok (.iinc 4 1, 3) := by decide +kernel
theorem dX6_weigh_60 : decode cX6_weigh 60 = .ok (.goto (-39), 3) := by decide +kernel
theorem dX6_weigh_63 : decode cX6_weigh 63 = .ok (.aload_n 0, 1) := by decide +kernel
theorem dX6_weigh_64 : decode cX6_weigh 64 = .ok (.getfield 9, 3) := by decide +kernel
theorem dX6_weigh_67 : decode cX6_weigh 67 = .ok (.iload_n 2, 1) := by decide +kernel
theorem dX6_weigh_68 : decode cX6_weigh 68 = .ok (.iload_n 3, 1) := by decide +kernel
theorem dX6_weigh_69 : decode cX6_weigh 69 = .ok (.iastore, 1) := by decide +kernel
theorem dX6_weigh_70 : decode cX6_weigh 70 = .ok (.iinc 2 1, 3) := by decide +kernel
theorem dX6_weigh_73 : decode cX6_weigh 73 = .ok (.goto (-71), 3) := by decide +kernel
theorem dX6_weigh_76 : decode cX6_weigh 76 = .ok (.return_, 1) := by decide +kernel
theorem dX7_init_0 : decode cX7_init 0 = .ok (.aload_n 0, 1) := by decide +kernel
theorem dX7_init_1 : decode cX7_init 1 = .ok (.invokespecial 3, 3) := by decide +kernel
theorem dX7_init_4 : decode cX7_init 4 = .ok (.aload_n 0, 1) := by decide +kernel
theorem dX7_init_5 : decode cX7_init 5 = .ok (.sipush 160, 3) := by decide +kernel
theorem dX7_init_8 : decode cX7_init 8 = .ok (.newarray .char, 2) := by decide +kernel
theorem dX7_init_10 : decode cX7_init 10 = .ok (.putfield 9, 3) := by decide +kernel
theorem dX7_init_13 : decode cX7_init 13 = .ok (.aload_n 0, 1) := by decide +kernel
theorem dX7_init_14 : decode cX7_init 14 = .ok (.bipush 14, 2) := by decide +kernel
theorem dX7_init_16 : decode cX7_init 16 = .ok (.newarray .int, 2) := by decide +kernel
theorem dX7_init_18 : decode cX7_init 18 = .ok (.putfield 15, 3) := by decide +kernel
theorem dX7_init_21 : decode cX7_init 21 = .ok (.aload_n 0, 1) := by decide +kernel
theorem dX7_init_22 : decode cX7_init 22 = .ok (.bipush 14, 2) := by decide +kernel
theorem dX7_init_24 : decode cX7_init 24 = .ok (.iconst 3, 1) := by decide +kernel
theorem dX7_init_25 : decode cX7_init 25 = .ok (.multianewarray 19 2, 4) := by decide +kernel
theorem dX7_init_29 : decode cX7_init 29 = .ok (.putfield 21, 3) := by decide +kernel
theorem dX7_init_32 : decode cX7_init 32 = .ok (.return_, 1) := by decide +kernel
theorem dX7_add_0 : decode cX7_add 0 = .ok (.aload_n 0, 1) := by decide +kernel
theorem dX7_add_1 : decode cX7_add 1 = .ok (.getfield 24, 3) := by decide +kernel
theorem dX7_add_4 : decode cX7_add 4 = .ok (.sipush 160, 3) := by decide +kernel
theorem dX7_add_7 : decode cX7_add 7 = .ok (.if_icmp .ge 24, 3) := by decide +kernel
theorem dX7_add_10 : decode cX7_add 10 = .ok (.aload_n 0, 1) := by decide +kernel
theorem dX7_add_11 : decode cX7_add 11 = .ok (.getfield 9, 3) := by decide +kernel
theorem dX7_add_14 : decode cX7_add 14 = .ok (.aload_n 0, 1) := by decide +kernel
theorem dX7_add_15 : decode cX7_add 15 = .ok (.getfield 24, 3) := by decide +kernel
theorem dX7_add_18 : decode cX7_add 18 = .ok (.iload_n 1, 1) := by decide +kernel
theorem dX7_add_19 : decode cX7_add 19 = .ok (.i2c, 1) := by decide +kernel
theorem dX7_add_20 : decode cX7_add 20 = .ok (.castore, 1) := by decide +kernel
theorem dX7_add_21 : decode cX7_add 21 = .ok (.aload_n 0, 1) := by decide +kernel
theorem dX7_add_22 : decode cX7_add 22 = .ok (.dup, 1) := by decide +kernel
theorem dX7_add_23 : decode cX7_add 23 = .ok (.getfield 24, 3) := by decide +kernel
theorem dX7_add_26 : decode cX7_add 26 = .ok (.iconst 1, 1) := by decide +kernel
theorem dX7_add_27 : decode cX7_add 27 = .ok (.iadd, 1) := by decide +kernel
theorem dX7_add_28 : decode cX7_add 28 = .ok (.putfield 24, 3) := by decide +kernel
theorem dX7_add_31 : decode cX7_add 31 = .ok (.aload_n 0, 1) := by decide +kernel
theorem dX7_add_32 : decode cX7_add 32 = .ok (.getfield 24, 3) := by decide +kernel
theorem dX7_add_35 : decode cX7_add 35 = .ok (.ireturn, 1) := by decide +kernel
theorem dX7_clear_0 : decode cX7_clear 0 = .ok (.aload_n 0, 1) := by decide +kernel
theorem dX7_clear_1 : decode cX7_clear 1 = .ok (.getfield 24, 3) := by decide +kernel
theorem dX7_clear_4 : decode cX7_clear 4 = .ok (.istore_n 1, 1) := by decide +kernel
theorem dX7_clear_5 : decode cX7_clear 5 = .ok (.aload_n 0, 1) := by decide +kernel
theorem dX7_clear_6 : decode cX7_clear 6 = .ok (.iconst 0, 1) := by decide +kernel
theorem dX7_clear_7 : decode cX7_clear 7 = .ok (.putfield 24, 3) := by decide +kernel
theorem dX7_clear_10 : decode cX7_clear 10 = .ok (.iload_n 1, 1) := by decide +kernel
theorem dX7_clear_11 : decode cX7_clear 11 = .ok (.ireturn, 1) := by decide +kernel
theorem dX7_read_0 : decode cX7_read 0 = .ok (.aload_n 0, 1) := by decide +kernel
theorem dX7_read_1 : decode cX7_read 1 = .ok (.aload_n 1, 1) := by decide +kernel
theorem dX7_read_2 : decode cX7_read 2 = .ok (.getfield 28, 3) := by decide +kernel
theorem dX7_read_5 : decode cX7_read 5 = .ok (.putfield 33, 3) := by decide +kernel
theorem dX7_read_8 : decode cX7_read 8 = .ok (.aload_n 0, 1) := by decide +kernel
theorem dX7_read_9 : decode cX7_read 9 = .ok (.aload_n 1, 1) := by decide +kernel
theorem dX7_read_10 : decode cX7_read 10 = .ok (.getfield 34, 3) := by decide +kernel
theorem dX7_read_13 : decode cX7_read 13 = .ok (.putfield 37, 3) := by decide +kernel
theorem dX7_read_16 : decode cX7_read 16 = .ok (.aload_n 0, 1) := by decide +kernel
theorem dX7_read_17 : decode cX7_read 17 = .ok (.aload_n 1, 1) := by decide +kernel
theorem dX7_read_18 : decode cX7_read 18 = .ok (.getfield 38, 3) := by decide +kernel
theorem dX7_read_21 : decode cX7_read 21 = .ok (.putfield 41, 3) := by decide +kernel
theorem dX7_read_24 : decode cX7_read 24 = .ok (.aload_n 0, 1) := by decide +kernel
theorem dX7_read_25 : decode cX7_read 25 = .ok (.iconst 0, 1) := by decide +kernel
theorem dX7_read_26 : decode cX7_read 26 = .ok (.putfield 42, 3) := by decide +kernel
theorem dX7_read_29 : decode cX7_read 29 = .ok (.aload_n 0, 1) := by decide +kernel
theorem dX7_read_30 : decode cX7_read 30 = .ok (.iconst 0, 1) := by decide +kernel
theorem dX7_read_31 : decode cX7_read 31 = .ok (.putfield 45, 3) := by decide +kernel
theorem dX7_read_34 : decode cX7_read 34 = .ok (.iconst 0, 1) := by decide +kernel
theorem dX7_read_35 : decode cX7_read 35 = .ok (.istore_n 2, 1) := by decide +kernel
theorem dX7_read_36 : decode cX7_read 36 = .ok (.iload_n 2, 1) := by decide +kernel
theorem dX7_read_37 : decode cX7_read 37 = .ok (.bipush 14, 2) := by decide +kernel
theorem dX7_read_39 : decode cX7_read 39 = .ok (.if_icmp .ge 68, 3) := by decide +kernel
theorem dX7_read_42 : decode cX7_read 42 = .ok (.aload_n 0, 1) := by decide +kernel
theorem dX7_read_43 : decode cX7_read 43 = .ok (.invokevirtual 48, 3) := by decide +kernel
theorem dX7_read_46 : decode cX7_read 46 = .ok (.aload_n 0, 1) := by decide +kernel
theorem dX7_read_47 : decode cX7_read 47 = .ok (.iload_n 2, 1) := by decide +kernel
theorem dX7_read_48 : decode cX7_read 48 = .ok (.invokevirtual 51, 3) := by decide +kernel
theorem dX7_read_51 : decode cX7_read 51 = .ok (.ifCond .ne 8, 3) := by decide +kernel
theorem dX7_read_54 : decode cX7_read 54 = .ok (.aload_n 0, 1) := by decide +kernel
theorem dX7_read_55 : decode cX7_read 55 = .ok (.getfield 55, 3) := by decide +kernel
theorem dX7_read_58 : decode cX7_read 58 = .ok (.ireturn, 1) := by decide +kernel
theorem dX7_read_59 : decode cX7_read 59 = .ok (.aload_n 0, 1) := by decide +kernel
theorem dX7_read_60 : decode cX7_read 60 = .ok (.iload_n 2, 1) := by decide +kernel
theorem dX7_read_61 : decode cX7_read 61 = .ok (.iconst 1, 1) := by decide +kernel
theorem dX7_read_62 : decode cX7_read 62 = .ok (.iadd, 1) := by decide +kernel
theorem dX7_read_63 : decode cX7_read 63 = .ok (.putfield 42, 3) := by decide +kernel
theorem dX7_read_66 : decode cX7_read 66 = .ok (.aload_n 0, 1) := by decide +kernel
theorem dX7_read_67 : decode cX7_read 67 = .ok (.invokevirtual 48, 3) := by decide +kernel
theorem dX7_read_70 : decode cX7_read 70 = .ok (.aload_n 0, 1) := by decide +kernel
theorem dX7_read_71 : decode cX7_read 71 = .ok (.getfield 55, 3) := by decide +kernel
theorem dX7_read_74 : decode cX7_read 74 = .ok (.aload_n 0, 1) := by decide +kernel
theorem dX7_read_75 : decode cX7_read 75 = .ok (.getfield 24, 3) := by decide +kernel
theorem dX7_read_78 : decode cX7_read 78 = .ok (.if_icmp .lt 5, 3) := by decide +kernel
theorem dX7_read_81 : decode cX7_read 81 = .ok (.iconst (-1), 1) := by decide +kernel
theorem dX7_read_82 : decode cX7_read 82 = .ok (.ireturn, 1) := by decide +kernel
theorem dX7_read_83 : decode cX7_read 83 = .ok (.aload_n 0, 1) := by decide +kernel
theorem dX7_read_84 : decode cX7_read 84 = .ok (.aload_n 0, 1) := by decide +kernel
theorem dX7_read_85 : decode cX7_read 85 = .ok (.getfield 55, 3) := by decide +kernel
theorem dX7_read_88 : decode cX7_read 88 = .ok (.invokevirtual 58, 3) := by decide +kernel
theorem dX7_read_91 : decode cX7_read 91 = .ok (.bipush 59, 2) := by decide +kernel
theorem dX7_read_93 : decode cX7_read 93 = .ok (.if_icmp .eq 8, 3) := by decide +kernel
theorem dX7_read_96 : decode cX7_read 96 = .ok (.aload_n 0, 1) := by decide +kernel
theorem dX7_read_97 : decode cX7_read 97 = .ok (.getfield 55, 3) := by decide +kernel
theorem dX7_read_100 : decode cX7_read 100 = .ok (.ireturn, 1) := by decide +kernel
theorem dX7_read_101 : decode cX7_read 101 = .ok (.iinc 2 1, 3) := by decide +kernel
theorem dX7_read_104 : decode cX7_read 104 = .ok (.goto (-68), 3) := by decide +kernel
theorem dX7_read_107 : decode cX7_read 107 = .ok (.aload_n 0, 1) := by decide +kernel
theorem dX7_read_108 : decode cX7_read 108 = .ok (.getfield 55, 3) := by decide +kernel
theorem dX7_read_111 : decode cX7_read 111 = .ok (.ireturn, 1) := by decide +kernel
theorem dX7_readClause_0 : decode cX7_readClause 0 = .ok (.iload_n 1, 1) := by decide +kernel
theorem dX7_readClause_1 : decode cX7_readClause 1 = .ok (.ifCond .lt 9, 3) := by decide +kernel
theorem dX7_readClause_4 : decode cX7_readClause 4 = .ok (.iload_n 1, 1) := by decide +kernel
theorem dX7_readClause_5 : decode cX7_readClause 5 = .ok (.bipush 14, 2) := by decide +kernel
theorem dX7_readClause_7 : decode cX7_readClause 7 = .ok (.if_icmp .lt 5, 3) := by decide +kernel
theorem dX7_readClause_10 : decode cX7_readClause 10 = .ok (.iconst 0, 1) := by decide +kernel
theorem dX7_readClause_11 : decode cX7_readClause 11 = .ok (.ireturn, 1) := by decide +kernel
theorem dX7_readClause_12 : decode cX7_readClause 12 = .ok (.aload_n 0, 1) := by decide +kernel
theorem dX7_readClause_13 : decode cX7_readClause 13 = .ok (.invokevirtual 62, 3) := by decide +kernel
theorem dX7_readClause_16 : decode cX7_readClause 16 = .ok (.istore_n 2, 1) := by decide +kernel
theorem dX7_readClause_17 : decode cX7_readClause 17 = .ok (.iload_n 2, 1) := by decide +kernel
theorem dX7_readClause_18 : decode cX7_readClause 18 = .ok (.iconst (-1), 1) := by decide +kernel
theorem dX7_readClause_19 : decode cX7_readClause 19 = .ok (.if_icmp .eq 11, 3) := by decide +kernel
theorem dX7_readClause_22 : decode cX7_readClause 22 = .ok (.aload_n 0, 1) := by decide +kernel
theorem dX7_readClause_23 : decode cX7_readClause 23 = .ok (.iload_n 2, 1) := by decide +kernel
theorem dX7_readClause_24 : decode cX7_readClause 24 = .ok (.invokevirtual 66, 3) := by decide +kernel
theorem dX7_readClause_27 : decode cX7_readClause 27 = .ok (.ifCond .ne 5, 3) := by decide +kernel
theorem dX7_readClause_30 : decode cX7_readClause 30 = .ok (.iconst 0, 1) := by decide +kernel
theorem dX7_readClause_31 : decode cX7_readClause 31 = .ok (.ireturn, 1) := by decide +kernel
theorem dX7_readClause_32 : decode cX7_readClause 32 = .ok (.aload_n 0, 1) := by decide +kernel
theorem dX7_readClause_33 : decode cX7_readClause 33 = .ok (.getfield 15, 3) := by decide +kernel
theorem dX7_readClause_36 : decode cX7_readClause 36 = .ok (.iload_n 1, 1) := by decide +kernel
theorem dX7_readClause_37 : decode cX7_readClause 37 = .ok (.iload_n 2, 1) := by decide +kernel
theorem dX7_readClause_38 : decode cX7_readClause 38 = .ok (.iastore, 1) := by decide +kernel
theorem dX7_readClause_39 : decode cX7_readClause 39 = .ok (.iload_n 2, 1) := by decide +kernel
theorem dX7_readClause_40 : decode cX7_readClause 40 = .ok (.invokestatic 69, 3) := by decide +kernel
theorem dX7_readClause_43 : decode cX7_readClause 43 = .ok (.astore_n 3, 1) := by decide +kernel
theorem dX7_readClause_44 : decode cX7_readClause 44 = .ok (.iconst 0, 1) := by decide +kernel
theorem dX7_readClause_45 : decode cX7_readClause 45 = .ok (.istore 4, 2) := by decide +kernel
theorem dX7_readClause_47 : decode cX7_readClause 47 = .ok (.iload 4, 2) := by decide +kernel
theorem dX7_readClause_49 : decode cX7_readClause 49 = .ok (.aload_n 3, 1) := by decide +kernel
theorem dX7_readClause_50 : decode cX7_readClause 50 = .ok (.invokevirtual 73, 3) := by decide +kernel
theorem dX7_readClause_53 : decode cX7_readClause 53 = .ok (.if_icmp .ge 74, 3) := by decide +kernel
theorem dX7_readClause_56 : decode cX7_readClause 56 = .ok (.iload 4, 2) := by decide +kernel
theorem dX7_readClause_58 : decode cX7_readClause 58 = .ok (.iconst 3, 1) := by decide +kernel
theorem dX7_readClause_59 : decode cX7_readClause 59 = .ok (.if_icmp .ge 68, 3) := by decide +kernel
theorem dX7_readClause_62 : decode cX7_readClause 62 = .ok (.aload_n 3, 1) := by decide +kernel
theorem dX7_readClause_63 : decode cX7_readClause 63 = .ok (.iload 4, 2) := by decide +kernel
theorem dX7_readClause_65 : decode cX7_readClause 65 = .ok (.invokevirtual 77, 3) := by decide +kernel
theorem dX7_readClause_68 : decode cX7_readClause 68 = .ok (.istore 5, 2) := by decide +kernel
theorem dX7_readClause_70 : decode cX7_readClause 70 = .ok (.aload_n 0, 1) := by decide +kernel
theorem dX7_readClause_71 : decode cX7_readClause 71 = .ok (.invokevirtual 48, 3) := by decide +kernel
theorem dX7_readClause_74 : decode cX7_readClause 74 = .ok (.aload_n 0, 1) := by decide +kernel
theorem dX7_readClause_75 : decode cX7_readClause 75 = .ok (.invokevirtual 81, 3) := by decide +kernel
theorem dX7_readClause_78 : decode cX7_readClause 78 = .ok (.istore 6, 2) := by decide +kernel
theorem dX7_readClause_80 : decode cX7_readClause 80 = .ok (.iload 6, 2) := by decide +kernel
theorem dX7_readClause_82 : decode cX7_readClause 82 = .ok (.iload 5, 2) := by decide +kernel
theorem dX7_readClause_84 : decode cX7_readClause 84 = .ok (.invokestatic 84, 3) := by decide +kernel
theorem dX7_readClause_87 : decode cX7_readClause 87 = .ok (.if_icmp .lt 21, 3) := by decide +kernel
theorem dX7_readClause_90 : decode cX7_readClause 90 = .ok (.iload 6, 2) := by decide +kernel
theorem dX7_readClause_92 : decode cX7_readClause 92 = .ok (.iload 5, 2) := by decide +kernel
theorem dX7_readClause_94 : decode cX7_readClause 94 = .ok (.aload_n 0, 1) := by decide +kernel
theorem dX7_readClause_95 : decode cX7_readClause 95 = .ok (.getfield 21, 3) := by decide +kernel
theorem dX7_readClause_98 : decode cX7_readClause 98 = .ok (.iload_n 1, 1) := by decide +kernel
theorem dX7_readClause_99 : decode cX7_readClause 99 = .ok (.aaload, 1) := by decide +kernel
theorem dX7_readClause_100 : decode cX7_readClause 100 = .ok (.iconst 0, 1) := by decide +kernel
theorem dX7_readClause_101 : decode cX7_readClause 101 = .ok (.iaload, 1) := by decide +kernel
theorem dX7_readClause_102 : decode cX7_readClause 102 = .ok (.invokestatic 88, 3) := by decide +kernel
theorem dX7_readClause_105 : decode cX7_readClause 105 = .ok (.if_icmp .le 5, 3) := by decide +kernel
theorem dX7_readClause_108 : decode cX7_readClause 108 = .ok (.iconst 0, 1) := by decide +kernel
theorem dX7_readClause_109 : decode cX7_readClause 109 = .ok (.ireturn, 1) := by decide +kernel
theorem dX7_readClause_110 : decode cX7_readClause 110 = .ok (.aload_n 0, 1) := by decide +kernel
theorem dX7_readClause_111 : decode cX7_readClause 111 = .ok (.getfield 21, 3) := by decide +kernel
theorem dX7_readClause_114 : decode cX7_readClause 114 = .ok (.iload_n 1, 1) := by decide +kernel
theorem dX7_readClause_115 : decode cX7_readClause 115 = .ok (.aaload, 1) := by decide +kernel
theorem dX7_readClause_116 : decode cX7_readClause 116 = .ok (.iload 4, 2) := by decide +kernel
theorem dX7_readClause_118 : decode cX7_readClause 118 = .ok (.iload 6, 2) := by decide +kernel
theorem dX7_readClause_120 : decode cX7_readClause 120 = .ok (.iastore, 1) := by decide +kernel
theorem dX7_readClause_121 : decode cX7_readClause 121 = .ok (.iinc 4 1, 3) := by decide +kernel
theorem dX7_readClause_124 : decode cX7_readClause 124 = .ok (.goto (-77), 3) := by decide +kernel
theorem dX7_readClause_127 : decode cX7_readClause 127 = .ok (.iconst 1, 1) := by decide +kernel
theorem dX7_readClause_128 : decode cX7_readClause 128 = .ok (.ireturn, 1) := by decide +kernel
theorem dX7_hasRoomFor_0 : decode cX7_hasRoomFor 0 = .ok (.iload_n 1, 1) := by decide +kernel
theorem dX7_hasRoomFor_1 : decode cX7_hasRoomFor 1 = .ok (.iconst 3, 1) := by decide +kernel
theorem dX7_hasRoomFor_2 : decode cX7_hasRoomFor 2 = .ok (.if_icmp .gt 16, 3) := by decide +kernel
theorem dX7_hasRoomFor_5 : decode cX7_hasRoomFor 5 = .ok (.aload_n 0, 1) := by decide +kernel
theorem dX7_hasRoomFor_6 : decode cX7_hasRoomFor 6 = .ok (.dup, 1) := by decide +kernel
theorem dX7_hasRoomFor_7 : decode cX7_hasRoomFor 7 = .ok (.getfield 33, 3) := by decide +kernel
theorem dX7_hasRoomFor_10 : decode cX7_hasRoomFor 10 = .ok (.iconst 1, 1) := by decide +kernel
theorem dX7_hasRoomFor_11 : decode cX7_hasRoomFor 11 = .ok (.iadd, 1) := by decide +kernel
theorem dX7_hasRoomFor_12 : decode cX7_hasRoomFor 12 = .ok (.putfield 33, 3) := by decide +kernel
theorem dX7_hasRoomFor_15 : decode cX7_hasRoomFor 15 = .ok (.goto 62, 3) := by decide +kernel
theorem dX7_hasRoomFor_18 : decode cX7_hasRoomFor 18 = .ok (.iload_n 1, 1) := by decide +kernel
theorem dX7_hasRoomFor_19 : decode cX7_hasRoomFor 19 = .ok (.bipush 7, 2) := by decide +kernel
theorem dX7_hasRoomFor_21 : decode cX7_hasRoomFor 21 = .ok (.if_icmp .ge 16, 3) := by decide +kernel
theorem dX7_hasRoomFor_24 : decode cX7_hasRoomFor 24 = .ok (.aload_n 0, 1) := by decide +kernel
theorem dX7_hasRoomFor_25 : decode cX7_hasRoomFor 25 = .ok (.dup, 1) := by decide +kernel
theorem dX7_hasRoomFor_26 : decode cX7_hasRoomFor 26 = .ok (.getfield 41, 3) := by decide +kernel
theorem dX7_hasRoomFor_29 : decode cX7_hasRoomFor 29 = .ok (.iconst 1, 1) := by decide +kernel
theorem dX7_hasRoomFor_30 : decode cX7_hasRoomFor 30 = .ok (.iadd, 1) := by decide +kernel
theorem dX7_hasRoomFor_31 : decode cX7_hasRoomFor 31 = .ok (.putfield 41, 3) := by decide +kernel
theorem dX7_hasRoomFor_34 : decode cX7_hasRoomFor 34 = .ok (.goto 43, 3) := by decide +kernel
theorem dX7_hasRoomFor_37 : decode cX7_hasRoomFor 37 = .ok (.iload_n 1, 1) := by decide +kernel
theorem dX7_hasRoomFor_38 : decode cX7_hasRoomFor 38 = .ok (.bipush 12, 2) := by decide +kernel
theorem dX7_hasRoomFor_40 : decode cX7_hasRoomFor 40 = .ok (.if_icmp .ne 16, 3) := by decide +kernel
theorem dX7_hasRoomFor_43 : decode cX7_hasRoomFor 43 = .ok (.aload_n 0, 1) := by decide +kernel
theorem dX7_hasRoomFor_44 : decode cX7_hasRoomFor 44 = .ok (.dup, 1) := by decide +kernel
theorem dX7_hasRoomFor_45 : decode cX7_hasRoomFor 45 = .ok (.getfield 37, 3) := by decide +kernel
theorem dX7_hasRoomFor_48 : decode cX7_hasRoomFor 48 = .ok (.iconst 1, 1) := by decide +kernel
theorem dX7_hasRoomFor_49 : decode cX7_hasRoomFor 49 = .ok (.iadd, 1) := by decide +kernel
theorem dX7_hasRoomFor_50 : decode cX7_hasRoomFor 50 = .ok (.putfield 37, 3) := by decide +kernel
theorem dX7_hasRoomFor_53 : decode cX7_hasRoomFor 53 = .ok (.goto 24, 3) := by decide +kernel
theorem dX7_hasRoomFor_56 : decode cX7_hasRoomFor 56 = .ok (.iload_n 1, 1) := by decide +kernel
theorem dX7_hasRoomFor_57 : decode cX7_hasRoomFor 57 = .ok (.bipush 10, 2) := by decide +kernel
theorem dX7_hasRoomFor_59 : decode cX7_hasRoomFor 59 = .ok (.if_icmp .ne 18, 3) := by decide +kernel
theorem dX7_hasRoomFor_62 : decode cX7_hasRoomFor 62 = .ok (.aload_n 0, 1) := by decide +kernel
theorem dX7_hasRoomFor_63 : decode cX7_hasRoomFor 63 = .ok (.iconst 0, 1) := by decide +kernel
theorem dX7_hasRoomFor_64 : decode cX7_hasRoomFor 64 = .ok (.putfield 33, 3) := by decide +kernel
theorem dX7_hasRoomFor_67 : decode cX7_hasRoomFor 67 = .ok (.aload_n 0, 1) := by decide +kernel
theorem dX7_hasRoomFor_68 : decode cX7_hasRoomFor 68 = .ok (.iconst 0, 1) := by decide +kernel
theorem dX7_hasRoomFor_69 : decode cX7_hasRoomFor 69 = .ok (.putfield 37, 3) := by decide +kernel
theorem dX7_hasRoomFor_72 : decode cX7_hasRoomFor 72 = .ok (.aload_n 0, 1) := by decide +kernel
theorem dX7_hasRoomFor_73 : decode cX7_hasRoomFor 73 = .ok (.iconst 0, 1) := by decide +kernel
theorem dX7_hasRoomFor_74 : decode cX7_hasRoomFor 74 = .ok (.putfield 41, 3) := by decide +kernel
theorem dX7_hasRoomFor_77 : decode cX7_hasRoomFor 77 = .ok (.aload_n 0, 1) := by decide +kernel
theorem dX7_hasRoomFor_78 : decode cX7_hasRoomFor 78 = .ok (.getfield 33, 3) := by decide +kernel
theorem dX7_hasRoomFor_81 : decode cX7_hasRoomFor 81 = .ok (.bipush 9, 2) := by decide +kernel
theorem dX7_hasRoomFor_83 : decode cX7_hasRoomFor 83 = .ok (.if_icmp .gt 24, 3) := by decide +kernel
theorem dX7_hasRoomFor_86 : decode cX7_hasRoomFor 86 = .ok (.aload_n 0, 1) := by decide +kernel
theorem dX7_hasRoomFor_87 : decode cX7_hasRoomFor 87 = .ok (.getfield 37, 3) := by decide +kernel
theorem dX7_hasRoomFor_90 : decode cX7_hasRoomFor 90 = .ok (.bipush 6, 2) := by decide +kernel
theorem dX7_hasRoomFor_92 : decode cX7_hasRoomFor 92 = .ok (.if_icmp .gt 15, 3) := by decide +kernel
theorem dX7_hasRoomFor_95 : decode cX7_hasRoomFor 95 = .ok (.aload_n 0, 1) := by decide +kernel
theorem dX7_hasRoomFor_96 : decode cX7_hasRoomFor 96 = .ok (.getfield 41, 3) := by decide +kernel
theorem dX7_hasRoomFor_99 : decode cX7_hasRoomFor 99 = .ok (.iconst 3, 1) := by decide +kernel
theorem dX7_hasRoomFor_100 : decode cX7_hasRoomFor 100 = .ok (.if_icmp .gt 7, 3) := by decide +kernel
theorem dX7_hasRoomFor_103 : decode cX7_hasRoomFor 103 = .ok (.iconst 1, 1) := by decide +kernel
theorem dX7_hasRoomFor_104 : decode cX7_hasRoomFor 104 = .ok (.goto 4, 3) := by decide +kernel
theorem dX7_hasRoomFor_107 : decode cX7_hasRoomFor 107 = .ok (.iconst 0, 1) := by decide +kernel
theorem dX7_hasRoomFor_108 : decode cX7_hasRoomFor 108 = .ok (.ireturn, 1) := by decide +kernel
theorem dX7_obey_0 : decode cX7_obey 0 = .ok (.iload_n 1, 1) := by decide +kernel
theorem dX7_obey_1 : decode cX7_obey 1 = .ok (.ifCond .lt 9, 3) := by decide +kernel
theorem dX7_obey_4 : decode cX7_obey 4 = .ok (.iload_n 1, 1) := by decide +kernel
theorem dX7_obey_5 : decode cX7_obey 5 = .ok (.bipush 14, 2) := by decide +kernel
theorem dX7_obey_7 : decode cX7_obey 7 = .ok (.if_icmp .lt 4, 3) := by decide +kernel
theorem dX7_obey_10 : decode cX7_obey 10 = .ok (.return_, 1) := by decide +kernel
theorem dX7_obey_11 : decode cX7_obey 11 = .ok (.aload_n 0, 1) := by decide +kernel
theorem dX7_obey_12 : decode cX7_obey 12 = .ok (.getfield 15, 3) := by decide +kernel
theorem dX7_obey_15 : decode cX7_obey 15 = .ok (.iload_n 1, 1) := by decide +kernel
theorem dX7_obey_16 : decode cX7_obey 16 = .ok (.iaload, 1) := by decide +kernel
theorem dX7_obey_17 : decode cX7_obey 17 = .ok (.istore_n 3, 1) := by decide +kernel
theorem dX7_obey_18 : decode cX7_obey 18 = .ok (.aload_n 0, 1) := by decide +kernel
theorem dX7_obey_19 : decode cX7_obey 19 = .ok (.getfield 21, 3) := by decide +kernel
theorem dX7_obey_22 : decode cX7_obey 22 = .ok (.iload_n 1, 1) := by decide +kernel
theorem dX7_obey_23 : decode cX7_obey 23 = .ok (.aaload, 1) := by decide +kernel
theorem dX7_obey_24 : decode cX7_obey 24 = .ok (.iconst 0, 1) := by decide +kernel
theorem dX7_obey_25 : decode cX7_obey 25 = .ok (.iaload, 1) := by decide +kernel
theorem dX7_obey_26 : decode cX7_obey 26 = .ok (.istore 4, 2) := by decide +kernel
theorem dX7_obey_28 : decode cX7_obey 28 = .ok (.aload_n 0, 1) := by decide +kernel
theorem dX7_obey_29 : decode cX7_obey 29 = .ok (.getfield 21, 3) := by decide +kernel
theorem dX7_obey_32 : decode cX7_obey 32 = .ok (.iload_n 1, 1) := by decide +kernel
theorem dX7_obey_33 : decode cX7_obey 33 = .ok (.aaload, 1) := by decide +kernel
theorem dX7_obey_34 : decode cX7_obey 34 = .ok (.iconst 1, 1) := by decide +kernel
theorem dX7_obey_35 : decode cX7_obey 35 = .ok (.iaload, 1) := by decide +kernel
theorem dX7_obey_36 : decode cX7_obey 36 = .ok (.istore 5, 2) := by decide +kernel
theorem dX7_obey_38 : decode cX7_obey 38 = .ok (.aload_n 0, 1) := by decide +kernel
theorem dX7_obey_39 : decode cX7_obey 39 = .ok (.getfield 21, 3) := by decide +kernel
theorem dX7_obey_42 : decode cX7_obey 42 = .ok (.iload_n 1, 1) := by decide +kernel
theorem dX7_obey_43 : decode cX7_obey 43 = .ok (.aaload, 1) := by decide +kernel
theorem dX7_obey_44 : decode cX7_obey 44 = .ok (.iconst 2, 1) := by decide +kernel
theorem dX7_obey_45 : decode cX7_obey 45 = .ok (.iaload, 1) := by decide +kernel
theorem dX7_obey_46 : decode cX7_obey 46 = .ok (.istore 6, 2) := by decide +kernel
theorem dX7_obey_48 : decode cX7_obey 48 = .ok (.iload_n 3, 1) := by decide +kernel
theorem dX7_obey_49 : decode cX7_obey 49 = .ok (.iconst 3, 1) := by decide +kernel
theorem dX7_obey_50 : decode cX7_obey 50 = .ok (.if_icmp .ge 17, 3) := by decide +kernel
theorem dX7_obey_53 : decode cX7_obey 53 = .ok (.aload_n 2, 1) := by decide +kernel
theorem dX7_obey_54 : decode cX7_obey 54 = .ok (.iload_n 3, 1) := by decide +kernel
theorem dX7_obey_55 : decode cX7_obey 55 = .ok (.iload 4, 2) := by decide +kernel
theorem dX7_obey_57 : decode cX7_obey 57 = .ok (.iload 5, 2) := by decide +kernel
theorem dX7_obey_59 : decode cX7_obey 59 = .ok (.iload 6, 2) := by decide +kernel
theorem dX7_obey_61 : decode cX7_obey 61 = .ok (.invokevirtual 92, 3) := by decide +kernel
theorem dX7_obey_64 : decode cX7_obey 64 = .ok (.goto 109, 3) := by decide +kernel
theorem dX7_obey_67 : decode cX7_obey 67 = .ok (.iload_n 3, 1) := by decide +kernel
theorem dX7_obey_68 : decode cX7_obey 68 = .ok (.iconst 3, 1) := by decide +kernel
theorem dX7_obey_69 : decode cX7_obey 69 = .ok (.if_icmp .ne 16, 3) := by decide +kernel
theorem dX7_obey_72 : decode cX7_obey 72 = .ok (.aload_n 2, 1) := by decide +kernel
theorem dX7_obey_73 : decode cX7_obey 73 = .ok (.iconst 3, 1) := by decide +kernel
theorem dX7_obey_74 : decode cX7_obey 74 = .ok (.iload 4, 2) := by decide +kernel
theorem dX7_obey_76 : decode cX7_obey 76 = .ok (.iconst 1, 1) := by decide +kernel
theorem dX7_obey_77 : decode cX7_obey 77 = .ok (.iload 5, 2) := by decide +kernel
theorem dX7_obey_79 : decode cX7_obey 79 = .ok (.invokevirtual 92, 3) := by decide +kernel
theorem dX7_obey_82 : decode cX7_obey 82 = .ok (.goto 91, 3) := by decide +kernel
theorem dX7_obey_85 : decode cX7_obey 85 = .ok (.iload_n 3, 1) := by decide +kernel
theorem dX7_obey_86 : decode cX7_obey 86 = .ok (.bipush 7, 2) := by decide +kernel
theorem dX7_obey_88 : decode cX7_obey 88 = .ok (.if_icmp .ge 13, 3) := by decide +kernel
theorem dX7_obey_91 : decode cX7_obey 91 = .ok (.aload_n 2, 1) := by decide +kernel
theorem dX7_obey_92 : decode cX7_obey 92 = .ok (.iload_n 3, 1) := by decide +kernel
theorem dX7_obey_93 : decode cX7_obey 93 = .ok (.iconst 4, 1) := by decide +kernel
theorem dX7_obey_94 : decode cX7_obey 94 = .ok (.isub, 1) := by decide +kernel
theorem dX7_obey_95 : decode cX7_obey 95 = .ok (.invokevirtual 96, 3) := by decide +kernel
theorem dX7_obey_98 : decode cX7_obey 98 = .ok (.goto 75, 3) := by decide +kernel
theorem dX7_obey_101 : decode cX7_obey 101 = .ok (.iload_n 3, 1) := by decide +kernel
theorem dX7_obey_102 : decode cX7_obey 102 = .ok (.bipush 10, 2) := by decide +kernel
theorem dX7_obey_104 : decode cX7_obey 104 = .ok (.if_icmp .ge 14, 3) := by decide +kernel
theorem dX7_obey_107 : decode cX7_obey 107 = .ok (.aload_n 2, 1) := by decide +kernel
theorem dX7_obey_108 : decode cX7_obey 108 = .ok (.iload_n 3, 1) := by decide +kernel
theorem dX7_obey_109 : decode cX7_obey 109 = .ok (.bipush 7, 2) := by decide +kernel
theorem dX7_obey_111 : decode cX7_obey 111 = .ok (.isub, 1) := by decide +kernel
theorem dX7_obey_112 : decode cX7_obey 112 = .ok (.putfield 100, 3) := by decide +kernel
theorem dX7_obey_115 : decode cX7_obey 115 = .ok (.goto 58, 3) := by decide +kernel
theorem dX7_obey_118 : decode cX7_obey 118 = .ok (.iload_n 3, 1) := by decide +kernel
theorem dX7_obey_119 : decode cX7_obey 119 = .ok (.bipush 10, 2) := by decide +kernel
theorem dX7_obey_121 : decode cX7_obey 121 = .ok (.if_icmp .ne 10, 3) := by decide +kernel
theorem dX7_obey_124 : decode cX7_obey 124 = .ok (.aload_n 2, 1) := by decide +kernel
theorem dX7_obey_125 : decode cX7_obey 125 = .ok (.invokevirtual 103, 3) := by decide +kernel
theorem dX7_obey_128 : decode cX7_obey 128 = .ok (.goto 45, 3) := by decide +kernel
theorem dX7_obey_131 : decode cX7_obey 131 = .ok (.iload_n 3, 1) := by decide +kernel
theorem dX7_obey_132 : decode cX7_obey 132 = .ok (.bipush 11, 2) := by decide +kernel
theorem dX7_obey_134 : decode cX7_obey 134 = .ok (.if_icmp .ne 14, 3) := by decide +kernel
theorem dX7_obey_137 : decode cX7_obey 137 = .ok (.aload_n 2, 1) := by decide +kernel
theorem dX7_obey_138 : decode cX7_obey 138 = .ok (.iload 4, 2) := by decide +kernel
theorem dX7_obey_140 : decode cX7_obey 140 = .ok (.iload 5, 2) := by decide +kernel
theorem dX7_obey_142 : decode cX7_obey 142 = .ok (.invokevirtual 106, 3) := by decide +kernel
theorem dX7_obey_145 : decode cX7_obey 145 = .ok (.goto 28, 3) := by decide +kernel
theorem dX7_obey_148 : decode cX7_obey 148 = .ok (.iload_n 3, 1) := by decide +kernel
theorem dX7_obey_149 : decode cX7_obey 149 = .ok (.bipush 12, 2) := by decide +kernel
theorem dX7_obey_151 : decode cX7_obey 151 = .ok (.if_icmp .ne 14, 3) := by decide +kernel
theorem dX7_obey_154 : decode cX7_obey 154 = .ok (.aload_n 2, 1) := by decide +kernel
theorem dX7_obey_155 : decode cX7_obey 155 = .ok (.iload 4, 2) := by decide +kernel
theorem dX7_obey_157 : decode cX7_obey 157 = .ok (.iload 5, 2) := by decide +kernel
theorem dX7_obey_159 : decode cX7_obey 159 = .ok (.invokevirtual 110, 3) := by decide +kernel
theorem dX7_obey_162 : decode cX7_obey 162 = .ok (.goto 11, 3) := by decide +kernel
theorem dX7_obey_165 : decode cX7_obey 165 = .ok (.aload_n 2, 1) := by decide +kernel
theorem dX7_obey_166 : decode cX7_obey 166 = .ok (.iload 4, 2) := by decide +kernel
theorem dX7_obey_168 : decode cX7_obey 168 = .ok (.iload 5, 2) := by decide +kernel
theorem dX7_obey_170 : decode cX7_obey 170 = .ok (.invokevirtual 113, 3) := by decide +kernel
theorem dX7_obey_173 : decode cX7_obey 173 = .ok (.return_, 1) := by decide +kernel
theorem dX7_goOn_0 : decode cX7_goOn 0 = .ok (.aload_n 0, 1) := by decide +kernel
theorem dX7_goOn_1 : decode cX7_goOn 1 = .ok (.aload_n 0, 1) := by decide +kernel
theorem dX7_goOn_2 : decode cX7_goOn 2 = .ok (.getfield 45, 3) := by decide +kernel
theorem dX7_goOn_5 : decode cX7_goOn 5 = .ok (.putfield 55, 3) := by decide +kernel
theorem dX7_goOn_8 : decode cX7_goOn 8 = .ok (.aload_n 0, 1) := by decide +kernel
theorem dX7_goOn_9 : decode cX7_goOn 9 = .ok (.getfield 55, 3) := by decide +kernel
theorem dX7_goOn_12 : decode cX7_goOn 12 = .ok (.aload_n 0, 1) := by decide +kernel
theorem dX7_goOn_13 : decode cX7_goOn 13 = .ok (.getfield 24, 3) := by decide +kernel
theorem dX7_goOn_16 : decode cX7_goOn 16 = .ok (.if_icmp .ge 29, 3) := by decide +kernel
theorem dX7_goOn_19 : decode cX7_goOn 19 = .ok (.aload_n 0, 1) := by decide +kernel
theorem dX7_goOn_20 : decode cX7_goOn 20 = .ok (.aload_n 0, 1) := by decide +kernel
theorem dX7_goOn_21 : decode cX7_goOn 21 = .ok (.getfield 55, 3) := by decide +kernel
theorem dX7_goOn_24 : decode cX7_goOn 24 = .ok (.invokevirtual 58, 3) := by decide +kernel
theorem dX7_goOn_27 : decode cX7_goOn 27 = .ok (.bipush 32, 2) := by decide +kernel
theorem dX7_goOn_29 : decode cX7_goOn 29 = .ok (.if_icmp .ne 16, 3) := by decide +kernel
theorem dX7_goOn_32 : decode cX7_goOn 32 = .ok (.aload_n 0, 1) := by decide +kernel
theorem dX7_goOn_33 : decode cX7_goOn 33 = .ok (.dup, 1) := by decide +kernel
theorem dX7_goOn_34 : decode cX7_goOn 34 = .ok (.getfield 55, 3) := by decide +kernel
theorem dX7_goOn_37 : decode cX7_goOn 37 = .ok (.iconst 1, 1) := by decide +kernel
theorem dX7_goOn_38 : decode cX7_goOn 38 = .ok (.iadd, 1) := by decide +kernel
theorem dX7_goOn_39 : decode cX7_goOn 39 = .ok (.putfield 55, 3) := by decide +kernel
theorem dX7_goOn_42 : decode cX7_goOn 42 = .ok (.goto (-34), 3) := by decide +kernel
theorem dX7_goOn_45 : decode cX7_goOn 45 = .ok (.aload_n 0, 1) := by decide +kernel
theorem dX7_goOn_46 : decode cX7_goOn 46 = .ok (.aload_n 0, 1) := by decide +kernel
theorem dX7_goOn_47 : decode cX7_goOn 47 = .ok (.getfield 55, 3) := by decide +kernel
theorem dX7_goOn_50 : decode cX7_goOn 50 = .ok (.putfield 45, 3) := by decide +kernel
theorem dX7_goOn_53 : decode cX7_goOn 53 = .ok (.aload_n 0, 1) := by decide +kernel
theorem dX7_goOn_54 : decode cX7_goOn 54 = .ok (.getfield 55, 3) := by decide +kernel
theorem dX7_goOn_57 : decode cX7_goOn 57 = .ok (.aload_n 0, 1) := by decide +kernel
theorem dX7_goOn_58 : decode cX7_goOn 58 = .ok (.getfield 24, 3) := by decide +kernel
theorem dX7_goOn_61 : decode cX7_goOn 61 = .ok (.if_icmp .lt 4, 3) := by decide +kernel
theorem dX7_goOn_64 : decode cX7_goOn 64 = .ok (.return_, 1) := by decide +kernel
theorem dX7_goOn_65 : decode cX7_goOn 65 = .ok (.aload_n 0, 1) := by decide +kernel
theorem dX7_goOn_66 : decode cX7_goOn 66 = .ok (.dup, 1) := by decide +kernel
theorem dX7_goOn_67 : decode cX7_goOn 67 = .ok (.getfield 45, 3) := by decide +kernel
theorem dX7_goOn_70 : decode cX7_goOn 70 = .ok (.iconst 1, 1) := by decide +kernel
theorem dX7_goOn_71 : decode cX7_goOn 71 = .ok (.iadd, 1) := by decide +kernel
theorem dX7_goOn_72 : decode cX7_goOn 72 = .ok (.putfield 45, 3) := by decide +kernel
theorem dX7_goOn_75 : decode cX7_goOn 75 = .ok (.aload_n 0, 1) := by decide +kernel
theorem dX7_goOn_76 : decode cX7_goOn 76 = .ok (.aload_n 0, 1) := by decide +kernel
theorem dX7_goOn_77 : decode cX7_goOn 77 = .ok (.getfield 55, 3) := by decide +kernel
theorem dX7_goOn_80 : decode cX7_goOn 80 = .ok (.invokevirtual 116, 3) := by decide +kernel
theorem dX7_goOn_83 : decode cX7_goOn 83 = .ok (.istore_n 1, 1) := by decide +kernel
theorem dX7_goOn_84 : decode cX7_goOn 84 = .ok (.iload_n 1, 1) := by decide +kernel
theorem dX7_goOn_85 : decode cX7_goOn 85 = .ok (.iconst 2, 1) := by decide +kernel
theorem dX7_goOn_86 : decode cX7_goOn 86 = .ok (.if_icmp .ne 4, 3) := by decide +kernel
theorem dX7_goOn_89 : decode cX7_goOn 89 = .ok (.return_, 1) := by decide +kernel
theorem dX7_goOn_90 : decode cX7_goOn 90 = .ok (.aload_n 0, 1) := by decide +kernel
theorem dX7_goOn_91 : decode cX7_goOn 91 = .ok (.getfield 45, 3) := by decide +kernel
theorem dX7_goOn_94 : decode cX7_goOn 94 = .ok (.aload_n 0, 1) := by decide +kernel
theorem dX7_goOn_95 : decode cX7_goOn 95 = .ok (.getfield 24, 3) := by decide +kernel
theorem dX7_goOn_98 : decode cX7_goOn 98 = .ok (.if_icmp .ge 28, 3) := by decide +kernel
theorem dX7_goOn_101 : decode cX7_goOn 101 = .ok (.aload_n 0, 1) := by decide +kernel
theorem dX7_goOn_102 : decode cX7_goOn 102 = .ok (.aload_n 0, 1) := by decide +kernel
theorem dX7_goOn_103 : decode cX7_goOn 103 = .ok (.getfield 45, 3) := by decide +kernel
theorem dX7_goOn_106 : decode cX7_goOn 106 = .ok (.invokevirtual 116, 3) := by decide +kernel
theorem dX7_goOn_109 : decode cX7_goOn 109 = .ok (.iload_n 1, 1) := by decide +kernel
theorem dX7_goOn_110 : decode cX7_goOn 110 = .ok (.if_icmp .ne 16, 3) := by decide +kernel
theorem dX7_goOn_113 : decode cX7_goOn 113 = .ok (.aload_n 0, 1) := by decide +kernel
theorem dX7_goOn_114 : decode cX7_goOn 114 = .ok (.dup, 1) := by decide +kernel
theorem dX7_goOn_115 : decode cX7_goOn 115 = .ok (.getfield 45, 3) := by decide +kernel
theorem dX7_goOn_118 : decode cX7_goOn 118 = .ok (.iconst 1, 1) := by decide +kernel
theorem dX7_goOn_119 : decode cX7_goOn 119 = .ok (.iadd, 1) := by decide +kernel
theorem dX7_goOn_120 : decode cX7_goOn 120 = .ok (.putfield 45, 3) := by decide +kernel
theorem dX7_goOn_123 : decode cX7_goOn 123 = .ok (.goto (-33), 3) := by decide +kernel
theorem dX7_goOn_126 : decode cX7_goOn 126 = .ok (.return_, 1) := by decide +kernel
theorem dX7_letterAt_0 : decode cX7_letterAt 0 = .ok (.iload_n 1, 1) := by decide +kernel
theorem dX7_letterAt_1 : decode cX7_letterAt 1 = .ok (.ifCond .lt 27, 3) := by decide +kernel
theorem dX7_letterAt_4 : decode cX7_letterAt 4 = .ok (.iload_n 1, 1) := by decide +kernel
theorem dX7_letterAt_5 : decode cX7_letterAt 5 = .ok (.aload_n 0, 1) := by decide +kernel
theorem dX7_letterAt_6 : decode cX7_letterAt 6 = .ok (.getfield 24, 3) := by decide +kernel
theorem dX7_letterAt_9 : decode cX7_letterAt 9 = .ok (.if_icmp .ge 19, 3) := by decide +kernel
theorem dX7_letterAt_12 : decode cX7_letterAt 12 = .ok (.iload_n 1, 1) := by decide +kernel
theorem dX7_letterAt_13 : decode cX7_letterAt 13 = .ok (.sipush 160, 3) := by decide +kernel
theorem dX7_letterAt_16 : decode cX7_letterAt 16 = .ok (.if_icmp .ge 12, 3) := by decide +kernel
theorem dX7_letterAt_19 : decode cX7_letterAt 19 = .ok (.aload_n 0, 1) := by decide +kernel
theorem dX7_letterAt_20 : decode cX7_letterAt 20 = .ok (.getfield 9, 3) := by decide +kernel
theorem dX7_letterAt_23 : decode cX7_letterAt 23 = .ok (.iload_n 1, 1) := by decide +kernel
theorem dX7_letterAt_24 : decode cX7_letterAt 24 = .ok (.caload, 1) := by decide +kernel
theorem dX7_letterAt_25 : decode cX7_letterAt 25 = .ok (.goto 4, 3) := by decide +kernel
theorem dX7_letterAt_28 : decode cX7_letterAt 28 = .ok (.iconst (-1), 1) := by decide +kernel
theorem dX7_letterAt_29 : decode cX7_letterAt 29 = .ok (.ireturn, 1) := by decide +kernel
theorem dX7_sortAt_0 : decode cX7_sortAt 0 = .ok (.aload_n 0, 1) := by decide +kernel
theorem dX7_sortAt_1 : decode cX7_sortAt 1 = .ok (.iload_n 1, 1) := by decide +kernel
theorem dX7_sortAt_2 : decode cX7_sortAt 2 = .ok (.invokevirtual 58, 3) := by decide +kernel
theorem dX7_sortAt_5 : decode cX7_sortAt 5 = .ok (.istore_n 2, 1) := by decide +kernel
theorem dX7_sortAt_6 : decode cX7_sortAt 6 = .ok (.iload_n 2, 1) := by decide +kernel
theorem dX7_sortAt_7 : decode cX7_sortAt 7 = .ok (.bipush 97, 2) := by decide +kernel
theorem dX7_sortAt_9 : decode cX7_sortAt 9 = .ok (.if_icmp .lt 11, 3) := by decide +kernel
theorem dX7_sortAt_12 : decode cX7_sortAt 12 = .ok (.iload_n 2, 1) := by decide +kernel
theorem dX7_sortAt_13 : decode cX7_sortAt 13 = .ok (.bipush 122, 2) := by decide +kernel
theorem dX7_sortAt_15 : decode cX7_sortAt 15 = .ok (.if_icmp .gt 5, 3) := by decide +kernel
theorem dX7_sortAt_18 : decode cX7_sortAt 18 = .ok (.iconst 0, 1) := by decide +kernel
theorem dX7_sortAt_19 : decode cX7_sortAt 19 = .ok (.ireturn, 1) := by decide +kernel
theorem dX7_sortAt_20 : decode cX7_sortAt 20 = .ok (.iload_n 2, 1) := by decide +kernel
theorem dX7_sortAt_21 : decode cX7_sortAt 21 = .ok (.bipush 48, 2) := by decide +kernel
theorem dX7_sortAt_23 : decode cX7_sortAt 23 = .ok (.if_icmp .lt 13, 3) := by decide +kernel
theorem dX7_sortAt_26 : decode cX7_sortAt 26 = .ok (.iload_n 2, 1) := by decide +kernel
theorem dX7_sortAt_27 : decode cX7_sortAt 27 = .ok (.bipush 57, 2) := by decide +kernel
theorem dX7_sortAt_29 : decode cX7_sortAt 29 = .ok (.if_icmp .gt 7, 3) := by decide +kernel
theorem dX7_sortAt_32 : decode cX7_sortAt 32 = .ok (.iconst 1, 1) := by decide +kernel
theorem dX7_sortAt_33 : decode cX7_sortAt 33 = .ok (.goto 4, 3) := by decide +kernel
theorem dX7_sortAt_36 : decode cX7_sortAt 36 = .ok (.iconst 2, 1) := by decide +kernel
theorem dX7_sortAt_37 : decode cX7_sortAt 37 = .ok (.ireturn, 1) := by decide +kernel
theorem dX7_numberHere_0 : decode cX7_numberHere 0 = .ok (.aload_n 0, 1) := by decide +kernel
theorem dX7_numberHere_1 : decode cX7_numberHere 1 = .ok (.aload_n 0, 1) := by decide +kernel
theorem dX7_numberHere_2 : decode cX7_numberHere 2 = .ok (.getfield 55, 3) := by decide +kernel
theorem dX7_numberHere_5 : decode cX7_numberHere 5 = .ok (.invokevirtual 116, 3) := by decide +kernel
theorem dX7_numberHere_8 : decode cX7_numberHere 8 = .ok (.iconst 1, 1) := by decide +kernel
theorem dX7_numberHere_9 : decode cX7_numberHere 9 = .ok (.if_icmp .ne 16, 3) := by decide +kernel
theorem dX7_numberHere_12 : decode cX7_numberHere 12 = .ok (.aload_n 0, 1) := by decide +kernel
theorem dX7_numberHere_13 : decode cX7_numberHere 13 = .ok (.getfield 45, 3) := by decide +kernel
theorem dX7_numberHere_16 : decode cX7_numberHere 16 = .ok (.aload_n 0, 1) := by decide +kernel
theorem dX7_numberHere_17 : decode cX7_numberHere 17 = .ok (.getfield 55, 3) := by decide +kernel
theorem dX7_numberHere_20 : decode cX7_numberHere 20 = .ok (.isub, 1) := by decide +kernel
theorem dX7_numberHere_21 : decode cX7_numberHere 21 = .ok (.iconst 2, 1) := by decide +kernel
theorem dX7_numberHere_22 : decode cX7_numberHere 22 = .ok (.if_icmp .le 5, 3) := by decide +kernel
theorem dX7_numberHere_25 : decode cX7_numberHere 25 = .ok (.iconst (-1), 1) := by decide +kernel
theorem dX7_numberHere_26 : decode cX7_numberHere 26 = .ok (.ireturn, 1) := by decide +kernel
theorem dX7_numberHere_27 : decode cX7_numberHere 27 = .ok (.iconst 0, 1) := by decide +kernel
theorem dX7_numberHere_28 : decode cX7_numberHere 28 = .ok (.istore_n 1, 1) := by decide +kernel
theorem dX7_numberHere_29 : decode cX7_numberHere 29 = .ok (.aload_n 0, 1) := by decide +kernel
theorem dX7_numberHere_30 : decode cX7_numberHere 30 = .ok (.getfield 55, 3) := by decide +kernel
theorem dX7_numberHere_33 : decode cX7_numberHere 33 = .ok (.istore_n 2, 1) := by decide +kernel
theorem dX7_numberHere_34 : decode cX7_numberHere 34 = .ok (.iload_n 2, 1) := by decide +kernel
theorem dX7_numberHere_35 : decode cX7_numberHere 35 = .ok (.aload_n 0, 1) := by decide +kernel
theorem dX7_numberHere_36 : decode cX7_numberHere 36 = .ok (.getfield 45, 3) := by decide +kernel
theorem dX7_numberHere_39 : decode cX7_numberHere 39 = .ok (.if_icmp .ge 23, 3) := by decide +kernel
theorem dX7_numberHere_42 : decode cX7_numberHere 42 = .ok (.iload_n 1, 1) := by decide +kernel
theorem dX7_numberHere_43 : decode cX7_numberHere 43 = .ok (.bipush 10, 2) := by decide +kernel
theorem dX7_numberHere_45 : decode cX7_numberHere 45 = .ok (.imul, 1) := by decide +kernel
theorem dX7_numberHere_46 : decode cX7_numberHere 46 = .ok (.aload_n 0, 1) := by decide +kernel
theorem dX7_numberHere_47 : decode cX7_numberHere 47 = .ok (.iload_n 2, 1) := by decide +kernel
theorem dX7_numberHere_48 : decode cX7_numberHere 48 = .ok (.invokevirtual 58, 3) := by decide +kernel
theorem dX7_numberHere_51 : decode cX7_numberHere 51 = .ok (.bipush 48, 2) := by decide +kernel
theorem dX7_numberHere_53 : decode cX7_numberHere 53 = .ok (.isub, 1) := by decide +kernel
theorem dX7_numberHere_54 : decode cX7_numberHere 54 = .ok (.iadd, 1) := by decide +kernel
theorem dX7_numberHere_55 : decode cX7_numberHere 55 = .ok (.istore_n 1, 1) := by decide +kernel
theorem dX7_numberHere_56 : decode cX7_numberHere 56 = .ok (.iinc 2 1, 3) := by decide +kernel
theorem dX7_numberHere_59 : decode cX7_numberHere 59 = .ok (.goto (-25), 3) := by decide +kernel
theorem dX7_numberHere_62 : decode cX7_numberHere 62 = .ok (.iload_n 1, 1) := by decide +kernel
theorem dX7_numberHere_63 : decode cX7_numberHere 63 = .ok (.ireturn, 1) := by decide +kernel
theorem dX7_clauseHere_0 : decode cX7_clauseHere 0 = .ok (.iconst 0, 1) := by decide +kernel
theorem dX7_clauseHere_1 : decode cX7_clauseHere 1 = .ok (.istore_n 1, 1) := by decide +kernel
theorem dX7_clauseHere_2 : decode cX7_clauseHere 2 = .ok (.iload_n 1, 1) := by decide +kernel
theorem dX7_clauseHere_3 : decode cX7_clauseHere 3 = .ok (.bipush 14, 2) := by decide +kernel
theorem dX7_clauseHere_5 : decode cX7_clauseHere 5 = .ok (.if_icmp .ge 22, 3) := by decide +kernel
theorem dX7_clauseHere_8 : decode cX7_clauseHere 8 = .ok (.aload_n 0, 1) := by decide +kernel
theorem dX7_clauseHere_9 : decode cX7_clauseHere 9 = .ok (.iload_n 1, 1) := by decide +kernel
theorem dX7_clauseHere_10 : decode cX7_clauseHere 10 = .ok (.invokestatic 119, 3) := by decide +kernel
theorem dX7_clauseHere_13 : decode cX7_clauseHere 13 = .ok (.invokevirtual 122, 3) := by decide +kernel
theorem dX7_clauseHere_16 : decode cX7_clauseHere 16 = .ok (.ifCond .eq 5, 3) := by decide +kernel
theorem dX7_clauseHere_19 : decode cX7_clauseHere 19 = .ok (.iload_n 1, 1) := by decide +kernel
theorem dX7_clauseHere_20 : decode cX7_clauseHere 20 = .ok (.ireturn, 1) := by decide +kernel
theorem dX7_clauseHere_21 : decode cX7_clauseHere 21 = .ok (.iinc 1 1, 3) := by decide +kernel
theorem dX7_clauseHere_24 : decode cX7_clauseHere 24 = .ok (.goto (-22), 3) := by decide +kernel
theorem dX7_clauseHere_27 : decode cX7_clauseHere 27 = .ok (.iconst (-1), 1) := by decide +kernel
theorem dX7_clauseHere_28 : decode cX7_clauseHere 28 = .ok (.ireturn, 1) := by decide +kernel
theorem dX7_isHere_0 : decode cX7_isHere 0 = .ok (.aload_n 1, 1) := by decide +kernel
theorem dX7_isHere_1 : decode cX7_isHere 1 = .ok (.invokevirtual 73, 3) := by decide +kernel
theorem dX7_isHere_4 : decode cX7_isHere 4 = .ok (.aload_n 0, 1) := by decide +kernel
