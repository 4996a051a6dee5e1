theorem dX7_isHere_5 : decode cX7_isHere 5 = .ok (.getfield 45, 3) := by decide +kernel
theorem dX7_isHere_8 : decode cX7_isHere 8 = .ok (.aload_n 0, 1) := by decide +kernel
theorem dX7_isHere_9 : decode cX7_isHere 9 = .ok (.getfield 55, 3) := by decide +kernel
theorem dX7_isHere_12 : decode cX7_isHere 12 = .ok (.isub, 1) := by decide +kernel
theorem dX7_isHere_13 : decode cX7_isHere 13 = .ok (.if_icmp .eq 5, 3) := by decide +kernel
theorem dX7_isHere_16 : decode cX7_isHere 16 = .ok (.iconst 0, 1) := by decide +kernel
theorem dX7_isHere_17 : decode cX7_isHere 17 = .ok (.ireturn, 1) := by decide +kernel
theorem dX7_isHere_18 : decode cX7_isHere 18 = .ok (.iconst 0, 1) := by decide +kernel
theorem dX7_isHere_19 : decode cX7_isHere 19 = .ok (.istore_n 2, 1) := by decide +kernel
theorem dX7_isHere_20 : decode cX7_isHere 20 = .ok (.iload_n 2, 1) := by decide +kernel
theorem dX7_isHere_21 : decode cX7_isHere 21 = .ok (.aload_n 1, 1) := by decide +kernel
theorem dX7_isHere_22 : decode cX7_isHere 22 = .ok (.invokevirtual 73, 3) := by decide +kernel
theorem dX7_isHere_25 : decode cX7_isHere 25 = .ok (.if_icmp .ge 29, 3) := by decide +kernel
theorem dX7_isHere_28 : decode cX7_isHere 28 = .ok (.aload_n 0, 1) := by decide +kernel
theorem dX7_isHere_29 : decode cX7_isHere 29 = .ok (.aload_n 0, 1) := by decide +kernel
theorem dX7_isHere_30 : decode cX7_isHere 30 = .ok (.getfield 55, 3) := by decide +kernel
theorem dX7_isHere_33 : decode cX7_isHere 33 = .ok (.iload_n 2, 1) := by decide +kernel
theorem dX7_isHere_34 : decode cX7_isHere 34 = .ok (.iadd, 1) := by decide +kernel
theorem dX7_isHere_35 : decode cX7_isHere 35 = .ok (.invokevirtual 58, 3) := by decide +kernel
theorem dX7_isHere_38 : decode cX7_isHere 38 = .ok (.aload_n 1, 1) := by decide +kernel
theorem dX7_isHere_39 : decode cX7_isHere 39 = .ok (.iload_n 2, 1) := by decide +kernel
theorem dX7_isHere_40 : decode cX7_isHere 40 = .ok (.invokevirtual 77, 3) := by decide +kernel
theorem dX7_isHere_43 : decode cX7_isHere 43 = .ok (.if_icmp .eq 5, 3) := by decide +kernel
theorem dX7_isHere_46 : decode cX7_isHere 46 = .ok (.iconst 0, 1) := by decide +kernel
theorem dX7_isHere_47 : decode cX7_isHere 47 = .ok (.ireturn, 1) := by decide +kernel
theorem dX7_isHere_48 : decode cX7_isHere 48 = .ok (.iinc 2 1, 3) := by decide +kernel
theorem dX7_isHere_51 : decode cX7_isHere 51 = .ok (.goto (-31), 3) := by decide +kernel
theorem dX7_isHere_54 : decode cX7_isHere 54 = .ok (.iconst 1, 1) := by decide +kernel
theorem dX7_isHere_55 : decode cX7_isHere 55 = .ok (.ireturn, 1) := by decide +kernel
theorem dX7_lowest_0 : decode cX7_lowest 0 = .ok (.iload_n 0, 1) := by decide +kernel
theorem dX7_lowest_1 : decode cX7_lowest 1 = .ok (.bipush 83, 2) := by decide +kernel
theorem dX7_lowest_3 : decode cX7_lowest 3 = .ok (.if_icmp .eq 15, 3) := by decide +kernel
theorem dX7_lowest_6 : decode cX7_lowest 6 = .ok (.iload_n 0, 1) := by decide +kernel
theorem dX7_lowest_7 : decode cX7_lowest 7 = .ok (.bipush 84, 2) := by decide +kernel
theorem dX7_lowest_9 : decode cX7_lowest 9 = .ok (.if_icmp .eq 9, 3) := by decide +kernel
theorem dX7_lowest_12 : decode cX7_lowest 12 = .ok (.iload_n 0, 1) := by decide +kernel
theorem dX7_lowest_13 : decode cX7_lowest 13 = .ok (.bipush 87, 2) := by decide +kernel
theorem dX7_lowest_15 : decode cX7_lowest 15 = .ok (.if_icmp .ne 7, 3) := by decide +kernel
theorem dX7_lowest_18 : decode cX7_lowest 18 = .ok (.iconst 1, 1) := by decide +kernel
theorem dX7_lowest_19 : decode cX7_lowest 19 = .ok (.goto 4, 3) := by decide +kernel
theorem dX7_lowest_22 : decode cX7_lowest 22 = .ok (.iconst 0, 1) := by decide +kernel
theorem dX7_lowest_23 : decode cX7_lowest 23 = .ok (.ireturn, 1) := by decide +kernel
theorem dX7_highest_0 : decode cX7_highest 0 = .ok (.iload_n 0, 1) := by decide +kernel
theorem dX7_highest_1 : decode cX7_highest 1 = .ok (.tableswitch 58 80 87 #[53, 58, 51, 47, 49, 58, 58, 55], 47) := by decide +kernel
theorem dX7_highest_48 : decode cX7_highest 48 = .ok (.iconst 4, 1) := by decide +kernel
theorem dX7_highest_49 : decode cX7_highest 49 = .ok (.ireturn, 1) := by decide +kernel
theorem dX7_highest_50 : decode cX7_highest 50 = .ok (.iload_n 1, 1) := by decide +kernel
theorem dX7_highest_51 : decode cX7_highest 51 = .ok (.ireturn, 1) := by decide +kernel
theorem dX7_highest_52 : decode cX7_highest 52 = .ok (.iconst 5, 1) := by decide +kernel
theorem dX7_highest_53 : decode cX7_highest 53 = .ok (.ireturn, 1) := by decide +kernel
theorem dX7_highest_54 : decode cX7_highest 54 = .ok (.iconst 3, 1) := by decide +kernel
theorem dX7_highest_55 : decode cX7_highest 55 = .ok (.ireturn, 1) := by decide +kernel
theorem dX7_highest_56 : decode cX7_highest 56 = .ok (.bipush 12, 2) := by decide +kernel
theorem dX7_highest_58 : decode cX7_highest 58 = .ok (.ireturn, 1) := by decide +kernel
theorem dX7_highest_59 : decode cX7_highest 59 = .ok (.bipush 9, 2) := by decide +kernel
theorem dX7_highest_61 : decode cX7_highest 61 = .ok (.ireturn, 1) := by decide +kernel
theorem dX7_nameOf_0 : decode cX7_nameOf 0 = .ok (.iload_n 0, 1) := by decide +kernel
theorem dX7_nameOf_1 : decode cX7_nameOf 1 = .ok (.tableswitch 106 0 12 #[67, 70, 73, 76, 79, 82, 85, 88, 91, 94, 97, 100, 103], 67) := by decide +kernel
theorem dX7_nameOf_68 : decode cX7_nameOf 68 = .ok (.ldc 126, 2) := by decide +kernel
theorem dX7_nameOf_70 : decode cX7_nameOf 70 = .ok (.areturn, 1) := by decide +kernel
theorem dX7_nameOf_71 : decode cX7_nameOf 71 = .ok (.ldc 128, 2) := by decide +kernel
theorem dX7_nameOf_73 : decode cX7_nameOf 73 = .ok (.areturn, 1) := by decide +kernel
theorem dX7_nameOf_74 : decode cX7_nameOf 74 = .ok (.ldc 130, 2) := by decide +kernel
theorem dX7_nameOf_76 : decode cX7_nameOf 76 = .ok (.areturn, 1) := by decide +kernel
theorem dX7_nameOf_77 : decode cX7_nameOf 77 = .ok (.ldc 132, 2) := by decide +kernel
theorem dX7_nameOf_79 : decode cX7_nameOf 79 = .ok (.areturn, 1) := by decide +kernel
theorem dX7_nameOf_80 : decode cX7_nameOf 80 = .ok (.ldc 134, 2) := by decide +kernel
theorem dX7_nameOf_82 : decode cX7_nameOf 82 = .ok (.areturn, 1) := by decide +kernel
theorem dX7_nameOf_83 : decode cX7_nameOf 83 = .ok (.ldc 136, 2) := by decide +kernel
theorem dX7_nameOf_85 : decode cX7_nameOf 85 = .ok (.areturn, 1) := by decide +kernel
theorem dX7_nameOf_86 : decode cX7_nameOf 86 = .ok (.ldc 138, 2) := by decide +kernel
theorem dX7_nameOf_88 : decode cX7_nameOf 88 = .ok (.areturn, 1) := by decide +kernel
theorem dX7_nameOf_89 : decode cX7_nameOf 89 = .ok (.ldc 140, 2) := by decide +kernel
theorem dX7_nameOf_91 : decode cX7_nameOf 91 = .ok (.areturn, 1) := by decide +kernel
theorem dX7_nameOf_92 : decode cX7_nameOf 92 = .ok (.ldc 142, 2) := by decide +kernel
theorem dX7_nameOf_94 : decode cX7_nameOf 94 = .ok (.areturn, 1) := by decide +kernel
theorem dX7_nameOf_95 : decode cX7_nameOf 95 = .ok (.ldc 144, 2) := by decide +kernel
theorem dX7_nameOf_97 : decode cX7_nameOf 97 = .ok (.areturn, 1) := by decide +kernel
theorem dX7_nameOf_98 : decode cX7_nameOf 98 = .ok (.ldc 146, 2) := by decide +kernel
theorem dX7_nameOf_100 : decode cX7_nameOf 100 = .ok (.areturn, 1) := by decide +kernel
theorem dX7_nameOf_101 : decode cX7_nameOf 101 = .ok (.ldc 148, 2) := by decide +kernel
theorem dX7_nameOf_103 : decode cX7_nameOf 103 = .ok (.areturn, 1) := by decide +kernel
theorem dX7_nameOf_104 : decode cX7_nameOf 104 = .ok (.ldc 150, 2) := by decide +kernel
theorem dX7_nameOf_106 : decode cX7_nameOf 106 = .ok (.areturn, 1) := by decide +kernel
theorem dX7_nameOf_107 : decode cX7_nameOf 107 = .ok (.ldc 152, 2) := by decide +kernel
theorem dX7_nameOf_109 : decode cX7_nameOf 109 = .ok (.areturn, 1) := by decide +kernel
theorem dX7_rolesIn_0 : decode cX7_rolesIn 0 = .ok (.iload_n 0, 1) := by decide +kernel
theorem dX7_rolesIn_1 : decode cX7_rolesIn 1 = .ok (.iconst 3, 1) := by decide +kernel
theorem dX7_rolesIn_2 : decode cX7_rolesIn 2 = .ok (.if_icmp .ge 6, 3) := by decide +kernel
theorem dX7_rolesIn_5 : decode cX7_rolesIn 5 = .ok (.ldc 154, 2) := by decide +kernel
theorem dX7_rolesIn_7 : decode cX7_rolesIn 7 = .ok (.areturn, 1) := by decide +kernel
theorem dX7_rolesIn_8 : decode cX7_rolesIn 8 = .ok (.iload_n 0, 1) := by decide +kernel
theorem dX7_rolesIn_9 : decode cX7_rolesIn 9 = .ok (.iconst 3, 1) := by decide +kernel
theorem dX7_rolesIn_10 : decode cX7_rolesIn 10 = .ok (.if_icmp .ne 6, 3) := by decide +kernel
theorem dX7_rolesIn_13 : decode cX7_rolesIn 13 = .ok (.ldc 156, 2) := by decide +kernel
theorem dX7_rolesIn_15 : decode cX7_rolesIn 15 = .ok (.areturn, 1) := by decide +kernel
theorem dX7_rolesIn_16 : decode cX7_rolesIn 16 = .ok (.iload_n 0, 1) := by decide +kernel
theorem dX7_rolesIn_17 : decode cX7_rolesIn 17 = .ok (.bipush 10, 2) := by decide +kernel
theorem dX7_rolesIn_19 : decode cX7_rolesIn 19 = .ok (.if_icmp .gt 6, 3) := by decide +kernel
theorem dX7_rolesIn_22 : decode cX7_rolesIn 22 = .ok (.ldc 158, 2) := by decide +kernel
theorem dX7_rolesIn_24 : decode cX7_rolesIn 24 = .ok (.areturn, 1) := by decide +kernel
theorem dX7_rolesIn_25 : decode cX7_rolesIn 25 = .ok (.iload_n 0, 1) := by decide +kernel
theorem dX7_rolesIn_26 : decode cX7_rolesIn 26 = .ok (.bipush 11, 2) := by decide +kernel
theorem dX7_rolesIn_28 : decode cX7_rolesIn 28 = .ok (.if_icmp .ne 6, 3) := by decide +kernel
theorem dX7_rolesIn_31 : decode cX7_rolesIn 31 = .ok (.ldc 160, 2) := by decide +kernel
theorem dX7_rolesIn_33 : decode cX7_rolesIn 33 = .ok (.areturn, 1) := by decide +kernel
theorem dX7_rolesIn_34 : decode cX7_rolesIn 34 = .ok (.iload_n 0, 1) := by decide +kernel
theorem dX7_rolesIn_35 : decode cX7_rolesIn 35 = .ok (.bipush 12, 2) := by decide +kernel
theorem dX7_rolesIn_37 : decode cX7_rolesIn 37 = .ok (.if_icmp .ne 8, 3) := by decide +kernel
theorem dX7_rolesIn_40 : decode cX7_rolesIn 40 = .ok (.ldc 162, 2) := by decide +kernel
theorem dX7_rolesIn_42 : decode cX7_rolesIn 42 = .ok (.goto 5, 3) := by decide +kernel
theorem dX7_rolesIn_45 : decode cX7_rolesIn 45 = .ok (.ldc 164, 2) := by decide +kernel
theorem dX7_rolesIn_47 : decode cX7_rolesIn 47 = .ok (.areturn, 1) := by decide +kernel
theorem dX8_init_0 : decode cX8_init 0 = .ok (.aload_n 0, 1) := by decide +kernel
theorem dX8_init_1 : decode cX8_init 1 = .ok (.invokespecial 3, 3) := by decide +kernel
theorem dX8_init_4 : decode cX8_init 4 = .ok (.aload_n 0, 1) := by decide +kernel
theorem dX8_init_5 : decode cX8_init 5 = .ok (.bipush 9, 2) := by decide +kernel
theorem dX8_init_7 : decode cX8_init 7 = .ok (.newarray .int, 2) := by decide +kernel
theorem dX8_init_9 : decode cX8_init 9 = .ok (.putfield 9, 3) := by decide +kernel
theorem dX8_init_12 : decode cX8_init 12 = .ok (.aload_n 0, 1) := by decide +kernel
theorem dX8_init_13 : decode cX8_init 13 = .ok (.bipush 9, 2) := by decide +kernel
theorem dX8_init_15 : decode cX8_init 15 = .ok (.newarray .int, 2) := by decide +kernel
theorem dX8_init_17 : decode cX8_init 17 = .ok (.putfield 15, 3) := by decide +kernel
theorem dX8_init_20 : decode cX8_init 20 = .ok (.aload_n 0, 1) := by decide +kernel
theorem dX8_init_21 : decode cX8_init 21 = .ok (.bipush 9, 2) := by decide +kernel
theorem dX8_init_23 : decode cX8_init 23 = .ok (.newarray .int, 2) := by decide +kernel
theorem dX8_init_25 : decode cX8_init 25 = .ok (.putfield 18, 3) := by decide +kernel
theorem dX8_init_28 : decode cX8_init 28 = .ok (.aload_n 0, 1) := by decide +kernel
theorem dX8_init_29 : decode cX8_init 29 = .ok (.bipush 9, 2) := by decide +kernel
theorem dX8_init_31 : decode cX8_init 31 = .ok (.newarray .int, 2) := by decide +kernel
theorem dX8_init_33 : decode cX8_init 33 = .ok (.putfield 21, 3) := by decide +kernel
theorem dX8_init_36 : decode cX8_init 36 = .ok (.aload_n 0, 1) := by decide +kernel
theorem dX8_init_37 : decode cX8_init 37 = .ok (.iconst 4, 1) := by decide +kernel
theorem dX8_init_38 : decode cX8_init 38 = .ok (.newarray .int, 2) := by decide +kernel
theorem dX8_init_40 : decode cX8_init 40 = .ok (.putfield 24, 3) := by decide +kernel
theorem dX8_init_43 : decode cX8_init 43 = .ok (.aload_n 0, 1) := by decide +kernel
theorem dX8_init_44 : decode cX8_init 44 = .ok (.bipush 6, 2) := by decide +kernel
theorem dX8_init_46 : decode cX8_init 46 = .ok (.newarray .int, 2) := by decide +kernel
theorem dX8_init_48 : decode cX8_init 48 = .ok (.putfield 27, 3) := by decide +kernel
theorem dX8_init_51 : decode cX8_init 51 = .ok (.aload_n 0, 1) := by decide +kernel
theorem dX8_init_52 : decode cX8_init 52 = .ok (.bipush 6, 2) := by decide +kernel
theorem dX8_init_54 : decode cX8_init 54 = .ok (.newarray .int, 2) := by decide +kernel
theorem dX8_init_56 : decode cX8_init 56 = .ok (.putfield 30, 3) := by decide +kernel
theorem dX8_init_59 : decode cX8_init 59 = .ok (.aload_n 0, 1) := by decide +kernel
theorem dX8_init_60 : decode cX8_init 60 = .ok (.iconst 3, 1) := by decide +kernel
theorem dX8_init_61 : decode cX8_init 61 = .ok (.newarray .int, 2) := by decide +kernel
theorem dX8_init_63 : decode cX8_init 63 = .ok (.putfield 33, 3) := by decide +kernel
theorem dX8_init_66 : decode cX8_init 66 = .ok (.aload_n 0, 1) := by decide +kernel
theorem dX8_init_67 : decode cX8_init 67 = .ok (.bipush 6, 2) := by decide +kernel
theorem dX8_init_69 : decode cX8_init 69 = .ok (.newarray .int, 2) := by decide +kernel
theorem dX8_init_71 : decode cX8_init 71 = .ok (.putfield 36, 3) := by decide +kernel
theorem dX8_init_74 : decode cX8_init 74 = .ok (.aload_n 0, 1) := by decide +kernel
theorem dX8_init_75 : decode cX8_init 75 = .ok (.getfield 36, 3) := by decide +kernel
theorem dX8_init_78 : decode cX8_init 78 = .ok (.iconst 3, 1) := by decide +kernel
theorem dX8_init_79 : decode cX8_init 79 = .ok (.invokestatic 39, 3) := by decide +kernel
theorem dX8_init_82 : decode cX8_init 82 = .ok (.return_, 1) := by decide +kernel
theorem dX8_reset_0 : decode cX8_reset 0 = .ok (.aload_n 0, 1) := by decide +kernel
theorem dX8_reset_1 : decode cX8_reset 1 = .ok (.iconst 0, 1) := by decide +kernel
theorem dX8_reset_2 : decode cX8_reset 2 = .ok (.putfield 45, 3) := by decide +kernel
theorem dX8_reset_5 : decode cX8_reset 5 = .ok (.aload_n 0, 1) := by decide +kernel
theorem dX8_reset_6 : decode cX8_reset 6 = .ok (.iconst 0, 1) := by decide +kernel
theorem dX8_reset_7 : decode cX8_reset 7 = .ok (.putfield 49, 3) := by decide +kernel
theorem dX8_reset_10 : decode cX8_reset 10 = .ok (.aload_n 0, 1) := by decide +kernel
theorem dX8_reset_11 : decode cX8_reset 11 = .ok (.iconst 0, 1) := by decide +kernel
theorem dX8_reset_12 : decode cX8_reset 12 = .ok (.putfield 52, 3) := by decide +kernel
theorem dX8_reset_15 : decode cX8_reset 15 = .ok (.aload_n 0, 1) := by decide +kernel
theorem dX8_reset_16 : decode cX8_reset 16 = .ok (.iconst 0, 1) := by decide +kernel
theorem dX8_reset_17 : decode cX8_reset 17 = .ok (.putfield 55, 3) := by decide +kernel
theorem dX8_reset_20 : decode cX8_reset 20 = .ok (.aload_n 0, 1) := by decide +kernel
theorem dX8_reset_21 : decode cX8_reset 21 = .ok (.getfield 24, 3) := by decide +kernel
theorem dX8_reset_24 : decode cX8_reset 24 = .ok (.iconst 0, 1) := by decide +kernel
theorem dX8_reset_25 : decode cX8_reset 25 = .ok (.invokestatic 39, 3) := by decide +kernel
theorem dX8_reset_28 : decode cX8_reset 28 = .ok (.aload_n 0, 1) := by decide +kernel
theorem dX8_reset_29 : decode cX8_reset 29 = .ok (.getfield 36, 3) := by decide +kernel
theorem dX8_reset_32 : decode cX8_reset 32 = .ok (.iconst 3, 1) := by decide +kernel
theorem dX8_reset_33 : decode cX8_reset 33 = .ok (.invokestatic 39, 3) := by decide +kernel
theorem dX8_reset_36 : decode cX8_reset 36 = .ok (.return_, 1) := by decide +kernel
theorem dX8_addWord_0 : decode cX8_addWord 0 = .ok (.aload_n 0, 1) := by decide +kernel
theorem dX8_addWord_1 : decode cX8_addWord 1 = .ok (.getfield 45, 3) := by decide +kernel
theorem dX8_addWord_4 : decode cX8_addWord 4 = .ok (.bipush 9, 2) := by decide +kernel
theorem dX8_addWord_6 : decode cX8_addWord 6 = .ok (.if_icmp .lt 4, 3) := by decide +kernel
theorem dX8_addWord_9 : decode cX8_addWord 9 = .ok (.return_, 1) := by decide +kernel
theorem dX8_addWord_10 : decode cX8_addWord 10 = .ok (.aload_n 0, 1) := by decide +kernel
theorem dX8_addWord_11 : decode cX8_addWord 11 = .ok (.getfield 9, 3) := by decide +kernel
theorem dX8_addWord_14 : decode cX8_addWord 14 = .ok (.aload_n 0, 1) := by decide +kernel
theorem dX8_addWord_15 : decode cX8_addWord 15 = .ok (.getfield 45, 3) := by decide +kernel
theorem dX8_addWord_18 : decode cX8_addWord 18 = .ok (.iload_n 1, 1) := by decide +kernel
theorem dX8_addWord_19 : decode cX8_addWord 19 = .ok (.iastore, 1) := by decide +kernel
theorem dX8_addWord_20 : decode cX8_addWord 20 = .ok (.aload_n 0, 1) := by decide +kernel
theorem dX8_addWord_21 : decode cX8_addWord 21 = .ok (.getfield 15, 3) := by decide +kernel
theorem dX8_addWord_24 : decode cX8_addWord 24 = .ok (.aload_n 0, 1) := by decide +kernel
theorem dX8_addWord_25 : decode cX8_addWord 25 = .ok (.getfield 45, 3) := by decide +kernel
theorem dX8_addWord_28 : decode cX8_addWord 28 = .ok (.iload_n 2, 1) := by decide +kernel
theorem dX8_addWord_29 : decode cX8_addWord 29 = .ok (.iastore, 1) := by decide +kernel
theorem dX8_addWord_30 : decode cX8_addWord 30 = .ok (.aload_n 0, 1) := by decide +kernel
theorem dX8_addWord_31 : decode cX8_addWord 31 = .ok (.getfield 18, 3) := by decide +kernel
theorem dX8_addWord_34 : decode cX8_addWord 34 = .ok (.aload_n 0, 1) := by decide +kernel
theorem dX8_addWord_35 : decode cX8_addWord 35 = .ok (.getfield 45, 3) := by decide +kernel
theorem dX8_addWord_38 : decode cX8_addWord 38 = .ok (.iload_n 3, 1) := by decide +kernel
theorem dX8_addWord_39 : decode cX8_addWord 39 = .ok (.iastore, 1) := by decide +kernel
theorem dX8_addWord_40 : decode cX8_addWord 40 = .ok (.aload_n 0, 1) := by decide +kernel
theorem dX8_addWord_41 : decode cX8_addWord 41 = .ok (.getfield 21, 3) := by decide +kernel
theorem dX8_addWord_44 : decode cX8_addWord 44 = .ok (.aload_n 0, 1) := by decide +kernel
theorem dX8_addWord_45 : decode cX8_addWord 45 = .ok (.getfield 45, 3) := by decide +kernel
theorem dX8_addWord_48 : decode cX8_addWord 48 = .ok (.iload 4, 2) := by decide +kernel
theorem dX8_addWord_50 : decode cX8_addWord 50 = .ok (.iastore, 1) := by decide +kernel
theorem dX8_addWord_51 : decode cX8_addWord 51 = .ok (.aload_n 0, 1) := by decide +kernel
theorem dX8_addWord_52 : decode cX8_addWord 52 = .ok (.dup, 1) := by decide +kernel
theorem dX8_addWord_53 : decode cX8_addWord 53 = .ok (.getfield 45, 3) := by decide +kernel
theorem dX8_addWord_56 : decode cX8_addWord 56 = .ok (.iconst 1, 1) := by decide +kernel
theorem dX8_addWord_57 : decode cX8_addWord 57 = .ok (.iadd, 1) := by decide +kernel
theorem dX8_addWord_58 : decode cX8_addWord 58 = .ok (.putfield 45, 3) := by decide +kernel
theorem dX8_addWord_61 : decode cX8_addWord 61 = .ok (.return_, 1) := by decide +kernel
theorem dX8_addWare_0 : decode cX8_addWare 0 = .ok (.aload_n 0, 1) := by decide +kernel
theorem dX8_addWare_1 : decode cX8_addWare 1 = .ok (.getfield 49, 3) := by decide +kernel
theorem dX8_addWare_4 : decode cX8_addWare 4 = .ok (.bipush 6, 2) := by decide +kernel
theorem dX8_addWare_6 : decode cX8_addWare 6 = .ok (.if_icmp .lt 4, 3) := by decide +kernel
theorem dX8_addWare_9 : decode cX8_addWare 9 = .ok (.return_, 1) := by decide +kernel
theorem dX8_addWare_10 : decode cX8_addWare 10 = .ok (.aload_n 0, 1) := by decide +kernel
theorem dX8_addWare_11 : decode cX8_addWare 11 = .ok (.getfield 27, 3) := by decide +kernel
theorem dX8_addWare_14 : decode cX8_addWare 14 = .ok (.aload_n 0, 1) := by decide +kernel
theorem dX8_addWare_15 : decode cX8_addWare 15 = .ok (.getfield 49, 3) := by decide +kernel
theorem dX8_addWare_18 : decode cX8_addWare 18 = .ok (.iload_n 1, 1) := by decide +kernel
theorem dX8_addWare_19 : decode cX8_addWare 19 = .ok (.iastore, 1) := by decide +kernel
theorem dX8_addWare_20 : decode cX8_addWare 20 = .ok (.aload_n 0, 1) := by decide +kernel
theorem dX8_addWare_21 : decode cX8_addWare 21 = .ok (.getfield 30, 3) := by decide +kernel
theorem dX8_addWare_24 : decode cX8_addWare 24 = .ok (.aload_n 0, 1) := by decide +kernel
theorem dX8_addWare_25 : decode cX8_addWare 25 = .ok (.getfield 49, 3) := by decide +kernel
theorem dX8_addWare_28 : decode cX8_addWare 28 = .ok (.iload_n 2, 1) := by decide +kernel
theorem dX8_addWare_29 : decode cX8_addWare 29 = .ok (.iastore, 1) := by decide +kernel
theorem dX8_addWare_30 : decode cX8_addWare 30 = .ok (.aload_n 0, 1) := by decide +kernel
theorem dX8_addWare_31 : decode cX8_addWare 31 = .ok (.dup, 1) := by decide +kernel
theorem dX8_addWare_32 : decode cX8_addWare 32 = .ok (.getfield 49, 3) := by decide +kernel
theorem dX8_addWare_35 : decode cX8_addWare 35 = .ok (.iconst 1, 1) := by decide +kernel
theorem dX8_addWare_36 : decode cX8_addWare 36 = .ok (.iadd, 1) := by decide +kernel
theorem dX8_addWare_37 : decode cX8_addWare 37 = .ok (.putfield 49, 3) := by decide +kernel
theorem dX8_addWare_40 : decode cX8_addWare 40 = .ok (.return_, 1) := by decide +kernel
theorem dX8_addClerk_0 : decode cX8_addClerk 0 = .ok (.aload_n 0, 1) := by decide +kernel
theorem dX8_addClerk_1 : decode cX8_addClerk 1 = .ok (.getfield 52, 3) := by decide +kernel
theorem dX8_addClerk_4 : decode cX8_addClerk 4 = .ok (.iconst 3, 1) := by decide +kernel
theorem dX8_addClerk_5 : decode cX8_addClerk 5 = .ok (.if_icmp .lt 4, 3) := by decide +kernel
theorem dX8_addClerk_8 : decode cX8_addClerk 8 = .ok (.return_, 1) := by decide +kernel
theorem dX8_addClerk_9 : decode cX8_addClerk 9 = .ok (.aload_n 0, 1) := by decide +kernel
theorem dX8_addClerk_10 : decode cX8_addClerk 10 = .ok (.getfield 33, 3) := by decide +kernel
theorem dX8_addClerk_13 : decode cX8_addClerk 13 = .ok (.aload_n 0, 1) := by decide +kernel
theorem dX8_addClerk_14 : decode cX8_addClerk 14 = .ok (.getfield 52, 3) := by decide +kernel
theorem dX8_addClerk_17 : decode cX8_addClerk 17 = .ok (.iload_n 1, 1) := by decide +kernel
theorem dX8_addClerk_18 : decode cX8_addClerk 18 = .ok (.iastore, 1) := by decide +kernel
theorem dX8_addClerk_19 : decode cX8_addClerk 19 = .ok (.aload_n 0, 1) := by decide +kernel
theorem dX8_addClerk_20 : decode cX8_addClerk 20 = .ok (.dup, 1) := by decide +kernel
theorem dX8_addClerk_21 : decode cX8_addClerk 21 = .ok (.getfield 52, 3) := by decide +kernel
theorem dX8_addClerk_24 : decode cX8_addClerk 24 = .ok (.iconst 1, 1) := by decide +kernel
theorem dX8_addClerk_25 : decode cX8_addClerk 25 = .ok (.iadd, 1) := by decide +kernel
theorem dX8_addClerk_26 : decode cX8_addClerk 26 = .ok (.putfield 52, 3) := by decide +kernel
theorem dX8_addClerk_29 : decode cX8_addClerk 29 = .ok (.return_, 1) := by decide +kernel
theorem dX8_setPort_0 : decode cX8_setPort 0 = .ok (.iload_n 1, 1) := by decide +kernel
theorem dX8_setPort_1 : decode cX8_setPort 1 = .ok (.ifCond .lt 15, 3) := by decide +kernel
theorem dX8_setPort_4 : decode cX8_setPort 4 = .ok (.iload_n 1, 1) := by decide +kernel
theorem dX8_setPort_5 : decode cX8_setPort 5 = .ok (.iconst 4, 1) := by decide +kernel
theorem dX8_setPort_6 : decode cX8_setPort 6 = .ok (.if_icmp .ge 10, 3) := by decide +kernel
theorem dX8_setPort_9 : decode cX8_setPort 9 = .ok (.aload_n 0, 1) := by decide +kernel
theorem dX8_setPort_10 : decode cX8_setPort 10 = .ok (.getfield 24, 3) := by decide +kernel
theorem dX8_setPort_13 : decode cX8_setPort 13 = .ok (.iload_n 1, 1) := by decide +kernel
theorem dX8_setPort_14 : decode cX8_setPort 14 = .ok (.iload_n 2, 1) := by decide +kernel
theorem dX8_setPort_15 : decode cX8_setPort 15 = .ok (.iastore, 1) := by decide +kernel
theorem dX8_setPort_16 : decode cX8_setPort 16 = .ok (.return_, 1) := by decide +kernel
theorem dX8_setUses_0 : decode cX8_setUses 0 = .ok (.iload_n 1, 1) := by decide +kernel
theorem dX8_setUses_1 : decode cX8_setUses 1 = .ok (.ifCond .lt 16, 3) := by decide +kernel
theorem dX8_setUses_4 : decode cX8_setUses 4 = .ok (.iload_n 1, 1) := by decide +kernel
theorem dX8_setUses_5 : decode cX8_setUses 5 = .ok (.bipush 6, 2) := by decide +kernel
theorem dX8_setUses_7 : decode cX8_setUses 7 = .ok (.if_icmp .ge 10, 3) := by decide +kernel
theorem dX8_setUses_10 : decode cX8_setUses 10 = .ok (.aload_n 0, 1) := by decide +kernel
theorem dX8_setUses_11 : decode cX8_setUses 11 = .ok (.getfield 36, 3) := by decide +kernel
theorem dX8_setUses_14 : decode cX8_setUses 14 = .ok (.iload_n 1, 1) := by decide +kernel
theorem dX8_setUses_15 : decode cX8_setUses 15 = .ok (.iload_n 2, 1) := by decide +kernel
theorem dX8_setUses_16 : decode cX8_setUses 16 = .ok (.iastore, 1) := by decide +kernel
theorem dX8_setUses_17 : decode cX8_setUses 17 = .ok (.return_, 1) := by decide +kernel
theorem dX8_isWord_0 : decode cX8_isWord 0 = .ok (.iload_n 1, 1) := by decide +kernel
theorem dX8_isWord_1 : decode cX8_isWord 1 = .ok (.ifCond .lt 15, 3) := by decide +kernel
theorem dX8_isWord_4 : decode cX8_isWord 4 = .ok (.iload_n 1, 1) := by decide +kernel
theorem dX8_isWord_5 : decode cX8_isWord 5 = .ok (.aload_n 0, 1) := by decide +kernel
theorem dX8_isWord_6 : decode cX8_isWord 6 = .ok (.getfield 45, 3) := by decide +kernel
theorem dX8_isWord_9 : decode cX8_isWord 9 = .ok (.if_icmp .ge 7, 3) := by decide +kernel
theorem dX8_isWord_12 : decode cX8_isWord 12 = .ok (.iconst 1, 1) := by decide +kernel
theorem dX8_isWord_13 : decode cX8_isWord 13 = .ok (.goto 4, 3) := by decide +kernel
theorem dX8_isWord_16 : decode cX8_isWord 16 = .ok (.iconst 0, 1) := by decide +kernel
theorem dX8_isWord_17 : decode cX8_isWord 17 = .ok (.ireturn, 1) := by decide +kernel
theorem dX8_isWare_0 : decode cX8_isWare 0 = .ok (.iload_n 1, 1) := by decide +kernel
theorem dX8_isWare_1 : decode cX8_isWare 1 = .ok (.ifCond .lt 15, 3) := by decide +kernel
theorem dX8_isWare_4 : decode cX8_isWare 4 = .ok (.iload_n 1, 1) := by decide +kernel
theorem dX8_isWare_5 : decode cX8_isWare 5 = .ok (.aload_n 0, 1) := by decide +kernel
theorem dX8_isWare_6 : decode cX8_isWare 6 = .ok (.getfield 49, 3) := by decide +kernel
theorem dX8_isWare_9 : decode cX8_isWare 9 = .ok (.if_icmp .ge 7, 3) := by decide +kernel
theorem dX8_isWare_12 : decode cX8_isWare 12 = .ok (.iconst 1, 1) := by decide +kernel
theorem dX8_isWare_13 : decode cX8_isWare 13 = .ok (.goto 4, 3) := by decide +kernel
theorem dX8_isWare_16 : decode cX8_isWare 16 = .ok (.iconst 0, 1) := by decide +kernel
theorem dX8_isWare_17 : decode cX8_isWare 17 = .ok (.ireturn, 1) := by decide +kernel
theorem dX8_isClerk_0 : decode cX8_isClerk 0 = .ok (.iload_n 1, 1) := by decide +kernel
theorem dX8_isClerk_1 : decode cX8_isClerk 1 = .ok (.ifCond .lt 15, 3) := by decide +kernel
theorem dX8_isClerk_4 : decode cX8_isClerk 4 = .ok (.iload_n 1, 1) := by decide +kernel
theorem dX8_isClerk_5 : decode cX8_isClerk 5 = .ok (.aload_n 0, 1) := by decide +kernel
theorem dX8_isClerk_6 : decode cX8_isClerk 6 = .ok (.getfield 52, 3) := by decide +kernel
theorem dX8_isClerk_9 : decode cX8_isClerk 9 = .ok (.if_icmp .ge 7, 3) := by decide +kernel
theorem dX8_isClerk_12 : decode cX8_isClerk 12 = .ok (.iconst 1, 1) := by decide +kernel
theorem dX8_isClerk_13 : decode cX8_isClerk 13 = .ok (.goto 4, 3) := by decide +kernel
theorem dX8_isClerk_16 : decode cX8_isClerk 16 = .ok (.iconst 0, 1) := by decide +kernel
theorem dX8_isClerk_17 : decode cX8_isClerk 17 = .ok (.ireturn, 1) := by decide +kernel
theorem dX8_slurs_0 : decode cX8_slurs 0 = .ok (.aload_n 0, 1) := by decide +kernel
theorem dX8_slurs_1 : decode cX8_slurs 1 = .ok (.getfield 33, 3) := by decide +kernel
theorem dX8_slurs_4 : decode cX8_slurs 4 = .ok (.iload_n 1, 1) := by decide +kernel
theorem dX8_slurs_5 : decode cX8_slurs 5 = .ok (.invokestatic 58, 3) := by decide +kernel
theorem dX8_slurs_8 : decode cX8_slurs 8 = .ok (.iconst 1, 1) := by decide +kernel
theorem dX8_slurs_9 : decode cX8_slurs 9 = .ok (.if_icmp .ne 7, 3) := by decide +kernel
theorem dX8_slurs_12 : decode cX8_slurs 12 = .ok (.iconst 1, 1) := by decide +kernel
theorem dX8_slurs_13 : decode cX8_slurs 13 = .ok (.goto 4, 3) := by decide +kernel
theorem dX8_slurs_16 : decode cX8_slurs 16 = .ok (.iconst 0, 1) := by decide +kernel
theorem dX8_slurs_17 : decode cX8_slurs 17 = .ok (.ireturn, 1) := by decide +kernel
theorem dX8_isDeaf_0 : decode cX8_isDeaf 0 = .ok (.aload_n 0, 1) := by decide +kernel
theorem dX8_isDeaf_1 : decode cX8_isDeaf 1 = .ok (.getfield 33, 3) := by decide +kernel
theorem dX8_isDeaf_4 : decode cX8_isDeaf 4 = .ok (.iload_n 1, 1) := by decide +kernel
theorem dX8_isDeaf_5 : decode cX8_isDeaf 5 = .ok (.invokestatic 58, 3) := by decide +kernel
theorem dX8_isDeaf_8 : decode cX8_isDeaf 8 = .ok (.iconst 2, 1) := by decide +kernel
theorem dX8_isDeaf_9 : decode cX8_isDeaf 9 = .ok (.if_icmp .ne 7, 3) := by decide +kernel
theorem dX8_isDeaf_12 : decode cX8_isDeaf 12 = .ok (.iconst 1, 1) := by decide +kernel
theorem dX8_isDeaf_13 : decode cX8_isDeaf 13 = .ok (.goto 4, 3) := by decide +kernel
theorem dX8_isDeaf_16 : decode cX8_isDeaf 16 = .ok (.iconst 0, 1) := by decide +kernel
theorem dX8_isDeaf_17 : decode cX8_isDeaf 17 = .ok (.ireturn, 1) := by decide +kernel
theorem dX8_rhymeOfPort_0 : decode cX8_rhymeOfPort 0 = .ok (.aload_n 0, 1) := by decide +kernel
theorem dX8_rhymeOfPort_1 : decode cX8_rhymeOfPort 1 = .ok (.getfield 24, 3) := by decide +kernel
theorem dX8_rhymeOfPort_4 : decode cX8_rhymeOfPort 4 = .ok (.iload_n 1, 1) := by decide +kernel
theorem dX8_rhymeOfPort_5 : decode cX8_rhymeOfPort 5 = .ok (.invokestatic 58, 3) := by decide +kernel
theorem dX8_rhymeOfPort_8 : decode cX8_rhymeOfPort 8 = .ok (.ireturn, 1) := by decide +kernel
theorem dX8_portsOf_0 : decode cX8_portsOf 0 = .ok (.iconst 0, 1) := by decide +kernel
theorem dX8_portsOf_1 : decode cX8_portsOf 1 = .ok (.istore_n 2, 1) := by decide +kernel
theorem dX8_portsOf_2 : decode cX8_portsOf 2 = .ok (.iconst 0, 1) := by decide +kernel
theorem dX8_portsOf_3 : decode cX8_portsOf 3 = .ok (.istore_n 3, 1) := by decide +kernel
theorem dX8_portsOf_4 : decode cX8_portsOf 4 = .ok (.iload_n 3, 1) := by decide +kernel
theorem dX8_portsOf_5 : decode cX8_portsOf 5 = .ok (.iconst 4, 1) := by decide +kernel
theorem dX8_portsOf_6 : decode cX8_portsOf 6 = .ok (.if_icmp .ge 25, 3) := by decide +kernel
theorem dX8_portsOf_9 : decode cX8_portsOf 9 = .ok (.aload_n 0, 1) := by decide +kernel
theorem dX8_portsOf_10 : decode cX8_portsOf 10 = .ok (.getfield 24, 3) := by decide +kernel
theorem dX8_portsOf_13 : decode cX8_portsOf 13 = .ok (.iload_n 3, 1) := by decide +kernel
theorem dX8_portsOf_14 : decode cX8_portsOf 14 = .ok (.iaload, 1) := by decide +kernel
theorem dX8_portsOf_15 : decode cX8_portsOf 15 = .ok (.iload_n 1, 1) := by decide +kernel
theorem dX8_portsOf_16 : decode cX8_portsOf 16 = .ok (.if_icmp .ne 9, 3) := by decide +kernel
theorem dX8_portsOf_19 : decode cX8_portsOf 19 = .ok (.iload_n 2, 1) := by decide +kernel
theorem dX8_portsOf_20 : decode cX8_portsOf 20 = .ok (.iconst 1, 1) := by decide +kernel
theorem dX8_portsOf_21 : decode cX8_portsOf 21 = .ok (.iload_n 3, 1) := by decide +kernel
theorem dX8_portsOf_22 : decode cX8_portsOf 22 = .ok (.ishl, 1) := by decide +kernel
theorem dX8_portsOf_23 : decode cX8_portsOf 23 = .ok (.ior, 1) := by decide +kernel
theorem dX8_portsOf_24 : decode cX8_portsOf 24 = .ok (.istore_n 2, 1) := by decide +kernel
theorem dX8_portsOf_25 : decode cX8_portsOf 25 = .ok (.iinc 3 1, 3) := by decide +kernel
theorem dX8_portsOf_28 : decode cX8_portsOf 28 = .ok (.goto (-24), 3) := by decide +kernel
theorem dX8_portsOf_31 : decode cX8_portsOf 31 = .ok (.iload_n 2, 1) := by decide +kernel
theorem dX8_portsOf_32 : decode cX8_portsOf 32 = .ok (.ireturn, 1) := by decide +kernel
theorem dX8_portsRhymedBy_0 : decode cX8_portsRhymedBy 0 = .ok (.aload_n 0, 1) := by decide +kernel
theorem dX8_portsRhymedBy_1 : decode cX8_portsRhymedBy 1 = .ok (.getfield 9, 3) := by decide +kernel
theorem dX8_portsRhymedBy_4 : decode cX8_portsRhymedBy 4 = .ok (.iload_n 1, 1) := by decide +kernel
theorem dX8_portsRhymedBy_5 : decode cX8_portsRhymedBy 5 = .ok (.invokestatic 58, 3) := by decide +kernel
theorem dX8_portsRhymedBy_8 : decode cX8_portsRhymedBy 8 = .ok (.iconst 2, 1) := by decide +kernel
theorem dX8_portsRhymedBy_9 : decode cX8_portsRhymedBy 9 = .ok (.if_icmp .ne 6, 3) := by decide +kernel
theorem dX8_portsRhymedBy_12 : decode cX8_portsRhymedBy 12 = .ok (.bipush 15, 2) := by decide +kernel
theorem dX8_portsRhymedBy_14 : decode cX8_portsRhymedBy 14 = .ok (.ireturn, 1) := by decide +kernel
theorem dX8_portsRhymedBy_15 : decode cX8_portsRhymedBy 15 = .ok (.aload_n 0, 1) := by decide +kernel
theorem dX8_portsRhymedBy_16 : decode cX8_portsRhymedBy 16 = .ok (.aload_n 0, 1) := by decide +kernel
theorem dX8_portsRhymedBy_17 : decode cX8_portsRhymedBy 17 = .ok (.getfield 21, 3) := by decide +kernel
theorem dX8_portsRhymedBy_20 : decode cX8_portsRhymedBy 20 = .ok (.iload_n 1, 1) := by decide +kernel
theorem dX8_portsRhymedBy_21 : decode cX8_portsRhymedBy 21 = .ok (.invokestatic 58, 3) := by decide +kernel
theorem dX8_portsRhymedBy_24 : decode cX8_portsRhymedBy 24 = .ok (.invokevirtual 62, 3) := by decide +kernel
theorem dX8_portsRhymedBy_27 : decode cX8_portsRhymedBy 27 = .ok (.ireturn, 1) := by decide +kernel
theorem dX8_chimes_0 : decode cX8_chimes 0 = .ok (.aload_n 0, 1) := by decide +kernel
theorem dX8_chimes_1 : decode cX8_chimes 1 = .ok (.getfield 9, 3) := by decide +kernel
theorem dX8_chimes_4 : decode cX8_chimes 4 = .ok (.iload_n 1, 1) := by decide +kernel
theorem dX8_chimes_5 : decode cX8_chimes 5 = .ok (.invokestatic 58, 3) := by decide +kernel
theorem dX8_chimes_8 : decode cX8_chimes 8 = .ok (.iconst 2, 1) := by decide +kernel
theorem dX8_chimes_9 : decode cX8_chimes 9 = .ok (.if_icmp .eq 15, 3) := by decide +kernel
theorem dX8_chimes_12 : decode cX8_chimes 12 = .ok (.aload_n 0, 1) := by decide +kernel
theorem dX8_chimes_13 : decode cX8_chimes 13 = .ok (.getfield 21, 3) := by decide +kernel
theorem dX8_chimes_16 : decode cX8_chimes 16 = .ok (.iload_n 1, 1) := by decide +kernel
theorem dX8_chimes_17 : decode cX8_chimes 17 = .ok (.invokestatic 58, 3) := by decide +kernel
theorem dX8_chimes_20 : decode cX8_chimes 20 = .ok (.iload_n 2, 1) := by decide +kernel
theorem dX8_chimes_21 : decode cX8_chimes 21 = .ok (.if_icmp .ne 7, 3) := by decide +kernel
theorem dX8_chimes_24 : decode cX8_chimes 24 = .ok (.iconst 1, 1) := by decide +kernel
theorem dX8_chimes_25 : decode cX8_chimes 25 = .ok (.goto 4, 3) := by decide +kernel
theorem dX8_chimes_28 : decode cX8_chimes 28 = .ok (.iconst 0, 1) := by decide +kernel
theorem dX8_chimes_29 : decode cX8_chimes 29 = .ok (.ireturn, 1) := by decide +kernel
theorem dX8_rhymeWornBy_0 : decode cX8_rhymeWornBy 0 = .ok (.aload_n 0, 1) := by decide +kernel
theorem dX8_rhymeWornBy_1 : decode cX8_rhymeWornBy 1 = .ok (.iload_n 1, 1) := by decide +kernel
theorem dX8_rhymeWornBy_2 : decode cX8_rhymeWornBy 2 = .ok (.invokevirtual 66, 3) := by decide +kernel
theorem dX8_rhymeWornBy_5 : decode cX8_rhymeWornBy 5 = .ok (.ifCond .eq 15, 3) := by decide +kernel
theorem dX8_rhymeWornBy_8 : decode cX8_rhymeWornBy 8 = .ok (.aload_n 0, 1) := by decide +kernel
theorem dX8_rhymeWornBy_9 : decode cX8_rhymeWornBy 9 = .ok (.getfield 9, 3) := by decide +kernel
theorem dX8_rhymeWornBy_12 : decode cX8_rhymeWornBy 12 = .ok (.iload_n 1, 1) := by decide +kernel
theorem dX8_rhymeWornBy_13 : decode cX8_rhymeWornBy 13 = .ok (.invokestatic 58, 3) := by decide +kernel
theorem dX8_rhymeWornBy_16 : decode cX8_rhymeWornBy 16 = .ok (.iconst 2, 1) := by decide +kernel
theorem dX8_rhymeWornBy_17 : decode cX8_rhymeWornBy 17 = .ok (.if_icmp .ne 5, 3) := by decide +kernel
theorem dX8_rhymeWornBy_20 : decode cX8_rhymeWornBy 20 = .ok (.iconst (-1), 1) := by decide +kernel
theorem dX8_rhymeWornBy_21 : decode cX8_rhymeWornBy 21 = .ok (.ireturn, 1) := by decide +kernel
theorem dX8_rhymeWornBy_22 : decode cX8_rhymeWornBy 22 = .ok (.aload_n 0, 1) := by decide +kernel
theorem dX8_rhymeWornBy_23 : decode cX8_rhymeWornBy 23 = .ok (.getfield 21, 3) := by decide +kernel
theorem dX8_rhymeWornBy_26 : decode cX8_rhymeWornBy 26 = .ok (.iload_n 1, 1) := by decide +kernel
theorem dX8_rhymeWornBy_27 : decode cX8_rhymeWornBy 27 = .ok (.invokestatic 58, 3) := by decide +kernel
theorem dX8_rhymeWornBy_30 : decode cX8_rhymeWornBy 30 = .ok (.ireturn, 1) := by decide +kernel
theorem dX8_isWorn_0 : decode cX8_isWorn 0 = .ok (.iload_n 1, 1) := by decide +kernel
theorem dX8_isWorn_1 : decode cX8_isWorn 1 = .ok (.iconst (-1), 1) := by decide +kernel
theorem dX8_isWorn_2 : decode cX8_isWorn 2 = .ok (.if_icmp .eq 19, 3) := by decide +kernel
theorem dX8_isWorn_5 : decode cX8_isWorn 5 = .ok (.iload_n 2, 1) := by decide +kernel
theorem dX8_isWorn_6 : decode cX8_isWorn 6 = .ok (.aload_n 0, 1) := by decide +kernel
theorem dX8_isWorn_7 : decode cX8_isWorn 7 = .ok (.getfield 36, 3) := by decide +kernel
theorem dX8_isWorn_10 : decode cX8_isWorn 10 = .ok (.iload_n 1, 1) := by decide +kernel
theorem dX8_isWorn_11 : decode cX8_isWorn 11 = .ok (.invokestatic 58, 3) := by decide +kernel
theorem dX8_isWorn_14 : decode cX8_isWorn 14 = .ok (.if_icmp .lt 7, 3) := by decide +kernel
theorem dX8_isWorn_17 : decode cX8_isWorn 17 = .ok (.iconst 1, 1) := by decide +kernel
theorem dX8_isWorn_18 : decode cX8_isWorn 18 = .ok (.goto 4, 3) := by decide +kernel
theorem dX8_isWorn_21 : decode cX8_isWorn 21 = .ok (.iconst 0, 1) := by decide +kernel
theorem dX8_isWorn_22 : decode cX8_isWorn 22 = .ok (.ireturn, 1) := by decide +kernel
theorem dX8_countBy_0 : decode cX8_countBy 0 = .ok (.aload_n 0, 1) := by decide +kernel
theorem dX8_countBy_1 : decode cX8_countBy 1 = .ok (.aload_n 2, 1) := by decide +kernel
theorem dX8_countBy_2 : decode cX8_countBy 2 = .ok (.invokevirtual 70, 3) := by decide +kernel
theorem dX8_countBy_5 : decode cX8_countBy 5 = .ok (.istore_n 3, 1) := by decide +kernel
theorem dX8_countBy_6 : decode cX8_countBy 6 = .ok (.aload_n 0, 1) := by decide +kernel
theorem dX8_countBy_7 : decode cX8_countBy 7 = .ok (.iload_n 1, 1) := by decide +kernel
theorem dX8_countBy_8 : decode cX8_countBy 8 = .ok (.invokevirtual 74, 3) := by decide +kernel
theorem dX8_countBy_11 : decode cX8_countBy 11 = .ok (.ifCond .eq 13, 3) := by decide +kernel
theorem dX8_countBy_14 : decode cX8_countBy 14 = .ok (.iload_n 3, 1) := by decide +kernel
theorem dX8_countBy_15 : decode cX8_countBy 15 = .ok (.aload_n 0, 1) := by decide +kernel
theorem dX8_countBy_16 : decode cX8_countBy 16 = .ok (.aload_n 2, 1) := by decide +kernel
theorem dX8_countBy_17 : decode cX8_countBy 17 = .ok (.invokevirtual 77, 3) := by decide +kernel
theorem dX8_countBy_20 : decode cX8_countBy 20 = .ok (.isub, 1) := by decide +kernel
theorem dX8_countBy_21 : decode cX8_countBy 21 = .ok (.goto 4, 3) := by decide +kernel
theorem dX8_countBy_24 : decode cX8_countBy 24 = .ok (.iload_n 3, 1) := by decide +kernel
theorem dX8_countBy_25 : decode cX8_countBy 25 = .ok (.ireturn, 1) := by decide +kernel
theorem dX8_syllablesOf_0 : decode cX8_syllablesOf 0 = .ok (.iconst 0, 1) := by decide +kernel
theorem dX8_syllablesOf_1 : decode cX8_syllablesOf 1 = .ok (.istore_n 2, 1) := by decide +kernel
theorem dX8_syllablesOf_2 : decode cX8_syllablesOf 2 = .ok (.iconst 0, 1) := by decide +kernel
theorem dX8_syllablesOf_3 : decode cX8_syllablesOf 3 = .ok (.istore_n 3, 1) := by decide +kernel
theorem dX8_syllablesOf_4 : decode cX8_syllablesOf 4 = .ok (.iload_n 3, 1) := by decide +kernel
theorem dX8_syllablesOf_5 : decode cX8_syllablesOf 5 = .ok (.aload_n 1, 1) := by decide +kernel
theorem dX8_syllablesOf_6 : decode cX8_syllablesOf 6 = .ok (.getfield 80, 3) := by decide +kernel
theorem dX8_syllablesOf_9 : decode cX8_syllablesOf 9 = .ok (.if_icmp .ge 24, 3) := by decide +kernel
theorem dX8_syllablesOf_12 : decode cX8_syllablesOf 12 = .ok (.iload_n 2, 1) := by decide +kernel
theorem dX8_syllablesOf_13 : decode cX8_syllablesOf 13 = .ok (.aload_n 0, 1) := by decide +kernel
theorem dX8_syllablesOf_14 : decode cX8_syllablesOf 14 = .ok (.getfield 15, 3) := by decide +kernel
theorem dX8_syllablesOf_17 : decode cX8_syllablesOf 17 = .ok (.aload_n 1, 1) := by decide +kernel
theorem dX8_syllablesOf_18 : decode cX8_syllablesOf 18 = .ok (.iload_n 3, 1) := by decide +kernel
theorem dX8_syllablesOf_19 : decode cX8_syllablesOf 19 = .ok (.invokevirtual 85, 3) := by decide +kernel
theorem dX8_syllablesOf_22 : decode cX8_syllablesOf 22 = .ok (.invokestatic 58, 3) := by decide +kernel
theorem dX8_syllablesOf_25 : decode cX8_syllablesOf 25 = .ok (.iadd, 1) := by decide +kernel
theorem dX8_syllablesOf_26 : decode cX8_syllablesOf 26 = .ok (.istore_n 2, 1) := by decide +kernel
theorem dX8_syllablesOf_27 : decode cX8_syllablesOf 27 = .ok (.iinc 3 1, 3) := by decide +kernel
theorem dX8_syllablesOf_30 : decode cX8_syllablesOf 30 = .ok (.goto (-26), 3) := by decide +kernel
theorem dX8_syllablesOf_33 : decode cX8_syllablesOf 33 = .ok (.iload_n 2, 1) := by decide +kernel
theorem dX8_syllablesOf_34 : decode cX8_syllablesOf 34 = .ok (.ireturn, 1) := by decide +kernel
theorem dX8_elisionsIn_0 : decode cX8_elisionsIn 0 = .ok (.iconst 0, 1) := by decide +kernel
theorem dX8_elisionsIn_1 : decode cX8_elisionsIn 1 = .ok (.istore_n 2, 1) := by decide +kernel
theorem dX8_elisionsIn_2 : decode cX8_elisionsIn 2 = .ok (.iconst 0, 1) := by decide +kernel
theorem dX8_elisionsIn_3 : decode cX8_elisionsIn 3 = .ok (.istore_n 3, 1) := by decide +kernel
theorem dX8_elisionsIn_4 : decode cX8_elisionsIn 4 = .ok (.iload_n 3, 1) := by decide +kernel
theorem dX8_elisionsIn_5 : decode cX8_elisionsIn 5 = .ok (.aload_n 1, 1) := by decide +kernel
theorem dX8_elisionsIn_6 : decode cX8_elisionsIn 6 = .ok (.getfield 80, 3) := by decide +kernel
theorem dX8_elisionsIn_9 : decode cX8_elisionsIn 9 = .ok (.iconst 1, 1) := by decide +kernel
theorem dX8_elisionsIn_10 : decode cX8_elisionsIn 10 = .ok (.isub, 1) := by decide +kernel
theorem dX8_elisionsIn_11 : decode cX8_elisionsIn 11 = .ok (.if_icmp .ge 28, 3) := by decide +kernel
theorem dX8_elisionsIn_14 : decode cX8_elisionsIn 14 = .ok (.aload_n 0, 1) := by decide +kernel
theorem dX8_elisionsIn_15 : decode cX8_elisionsIn 15 = .ok (.getfield 9, 3) := by decide +kernel
theorem dX8_elisionsIn_18 : decode cX8_elisionsIn 18 = .ok (.aload_n 1, 1) := by decide +kernel
theorem dX8_elisionsIn_19 : decode cX8_elisionsIn 19 = .ok (.iload_n 3, 1) := by decide +kernel
theorem dX8_elisionsIn_20 : decode cX8_elisionsIn 20 = .ok (.invokevirtual 85, 3) := by decide +kernel
theorem dX8_elisionsIn_23 : decode cX8_elisionsIn 23 = .ok (.invokestatic 58, 3) := by decide +kernel
theorem dX8_elisionsIn_26 : decode cX8_elisionsIn 26 = .ok (.iconst 1, 1) := by decide +kernel
theorem dX8_elisionsIn_27 : decode cX8_elisionsIn 27 = .ok (.if_icmp .ne 6, 3) := by decide +kernel
theorem dX8_elisionsIn_30 : decode cX8_elisionsIn 30 = .ok (.iinc 2 1, 3) := by decide +kernel
theorem dX8_elisionsIn_33 : decode cX8_elisionsIn 33 = .ok (.iinc 3 1, 3) := by decide +kernel
theorem dX8_elisionsIn_36 : decode cX8_elisionsIn 36 = .ok (.goto (-32), 3) := by decide +kernel
theorem dX8_elisionsIn_39 : decode cX8_elisionsIn 39 = .ok (.iload_n 2, 1) := by decide +kernel
theorem dX8_elisionsIn_40 : decode cX8_elisionsIn 40 = .ok (.ireturn, 1) := by decide +kernel
theorem dX8_fits_0 : decode cX8_fits 0 = .ok (.aload_n 0, 1) := by decide +kernel
theorem dX8_fits_1 : decode cX8_fits 1 = .ok (.getfield 55, 3) := by decide +kernel
theorem dX8_fits_4 : decode cX8_fits 4 = .ok (.ifCond .eq 23, 3) := by decide +kernel
theorem dX8_fits_7 : decode cX8_fits 7 = .ok (.iload_n 1, 1) := by decide +kernel
theorem dX8_fits_8 : decode cX8_fits 8 = .ok (.ifCond .lt 19, 3) := by decide +kernel
theorem dX8_fits_11 : decode cX8_fits 11 = .ok (.iload_n 1, 1) := by decide +kernel
theorem dX8_fits_12 : decode cX8_fits 12 = .ok (.bipush 9, 2) := by decide +kernel
theorem dX8_fits_14 : decode cX8_fits 14 = .ok (.if_icmp .ge 13, 3) := by decide +kernel
theorem dX8_fits_17 : decode cX8_fits 17 = .ok (.aload_n 0, 1) := by decide +kernel
theorem dX8_fits_18 : decode cX8_fits 18 = .ok (.getfield 9, 3) := by decide +kernel
theorem dX8_fits_21 : decode cX8_fits 21 = .ok (.iload_n 1, 1) := by decide +kernel
theorem dX8_fits_22 : decode cX8_fits 22 = .ok (.iaload, 1) := by decide +kernel
theorem dX8_fits_23 : decode cX8_fits 23 = .ok (.iconst 3, 1) := by decide +kernel
theorem dX8_fits_24 : decode cX8_fits 24 = .ok (.if_icmp .ne 5, 3) := by decide +kernel
theorem dX8_fits_27 : decode cX8_fits 27 = .ok (.iconst 1, 1) := by decide +kernel
theorem dX8_fits_28 : decode cX8_fits 28 = .ok (.ireturn, 1) := by decide +kernel
theorem dX8_fits_29 : decode cX8_fits 29 = .ok (.aload_n 0, 1) := by decide +kernel
theorem dX8_fits_30 : decode cX8_fits 30 = .ok (.getfield 55, 3) := by decide +kernel
theorem dX8_fits_33 : decode cX8_fits 33 = .ok (.iconst 1, 1) := by decide +kernel
theorem dX8_fits_34 : decode cX8_fits 34 = .ok (.if_icmp .ne 7, 3) := by decide +kernel
theorem dX8_fits_37 : decode cX8_fits 37 = .ok (.iconst 0, 1) := by decide +kernel
theorem dX8_fits_38 : decode cX8_fits 38 = .ok (.goto 4, 3) := by decide +kernel
theorem dX8_fits_41 : decode cX8_fits 41 = .ok (.iconst 1, 1) := by decide +kernel
theorem dX8_fits_42 : decode cX8_fits 42 = .ok (.istore_n 3, 1) := by decide +kernel
theorem dX8_fits_43 : decode cX8_fits 43 = .ok (.iload_n 2, 1) := by decide +kernel
theorem dX8_fits_44 : decode cX8_fits 44 = .ok (.aload_n 0, 1) := by decide +kernel
theorem dX8_fits_45 : decode cX8_fits 45 = .ok (.getfield 18, 3) := by decide +kernel
theorem dX8_fits_48 : decode cX8_fits 48 = .ok (.iload_n 1, 1) := by decide +kernel
theorem dX8_fits_49 : decode cX8_fits 49 = .ok (.iaload, 1) := by decide +kernel
theorem dX8_fits_50 : decode cX8_fits 50 = .ok (.iadd, 1) := by decide +kernel
theorem dX8_fits_51 : decode cX8_fits 51 = .ok (.iconst 1, 1) := by decide +kernel
theorem dX8_fits_52 : decode cX8_fits 52 = .ok (.iand, 1) := by decide +kernel
theorem dX8_fits_53 : decode cX8_fits 53 = .ok (.iload_n 3, 1) := by decide +kernel
theorem dX8_fits_54 : decode cX8_fits 54 = .ok (.if_icmp .ne 7, 3) := by decide +kernel
theorem dX8_fits_57 : decode cX8_fits 57 = .ok (.iconst 1, 1) := by decide +kernel
theorem dX8_fits_58 : decode cX8_fits 58 = .ok (.goto 4, 3) := by decide +kernel
theorem dX8_fits_61 : decode cX8_fits 61 = .ok (.iconst 0, 1) := by decide +kernel
theorem dX8_fits_62 : decode cX8_fits 62 = .ok (.ireturn, 1) := by decide +kernel
theorem dX8_isInMetre_0 : decode cX8_isInMetre 0 = .ok (.iconst 0, 1) := by decide +kernel
theorem dX8_isInMetre_1 : decode cX8_isInMetre 1 = .ok (.istore_n 2, 1) := by decide +kernel
theorem dX8_isInMetre_2 : decode cX8_isInMetre 2 = .ok (.iconst 0, 1) := by decide +kernel
theorem dX8_isInMetre_3 : decode cX8_isInMetre 3 = .ok (.istore_n 3, 1) := by decide +kernel
theorem dX8_isInMetre_4 : decode cX8_isInMetre 4 = .ok (.iload_n 3, 1) := by decide +kernel
theorem dX8_isInMetre_5 : decode cX8_isInMetre 5 = .ok (.aload_n 1, 1) := by decide +kernel
theorem dX8_isInMetre_6 : decode cX8_isInMetre 6 = .ok (.getfield 80, 3) := by decide +kernel
theorem dX8_isInMetre_9 : decode cX8_isInMetre 9 = .ok (.if_icmp .ge 39, 3) := by decide +kernel
theorem dX8_isInMetre_12 : decode cX8_isInMetre 12 = .ok (.aload_n 0, 1) := by decide +kernel
theorem dX8_isInMetre_13 : decode cX8_isInMetre 13 = .ok (.aload_n 1, 1) := by decide +kernel
theorem dX8_isInMetre_14 : decode cX8_isInMetre 14 = .ok (.iload_n 3, 1) := by decide +kernel
theorem dX8_isInMetre_15 : decode cX8_isInMetre 15 = .ok (.invokevirtual 85, 3) := by decide +kernel
theorem dX8_isInMetre_18 : decode cX8_isInMetre 18 = .ok (.iload_n 2, 1) := by decide +kernel
theorem dX8_isInMetre_19 : decode cX8_isInMetre 19 = .ok (.invokevirtual 88, 3) := by decide +kernel
theorem dX8_isInMetre_22 : decode cX8_isInMetre 22 = .ok (.ifCond .ne 5, 3) := by decide +kernel
theorem dX8_isInMetre_25 : decode cX8_isInMetre 25 = .ok (.iconst 0, 1) := by decide +kernel
theorem dX8_isInMetre_26 : decode cX8_isInMetre 26 = .ok (.ireturn, 1) := by decide +kernel
theorem dX8_isInMetre_27 : decode cX8_isInMetre 27 = .ok (.iload_n 2, 1) := by decide +kernel
theorem dX8_isInMetre_28 : decode cX8_isInMetre 28 = .ok (.aload_n 0, 1) := by decide +kernel
theorem dX8_isInMetre_29 : decode cX8_isInMetre 29 = .ok (.getfield 15, 3) := by decide +kernel
theorem dX8_isInMetre_32 : decode cX8_isInMetre 32 = .ok (.aload_n 1, 1) := by decide +kernel
theorem dX8_isInMetre_33 : decode cX8_isInMetre 33 = .ok (.iload_n 3, 1) := by decide +kernel
theorem dX8_isInMetre_34 : decode cX8_isInMetre 34 = .ok (.invokevirtual 85, 3) := by decide +kernel
theorem dX8_isInMetre_37 : decode cX8_isInMetre 37 = .ok (.invokestatic 58, 3) := by decide +kernel
theorem dX8_isInMetre_40 : decode cX8_isInMetre 40 = .ok (.iadd, 1) := by decide +kernel
theorem dX8_isInMetre_41 : decode cX8_isInMetre 41 = .ok (.istore_n 2, 1) := by decide +kernel
theorem dX8_isInMetre_42 : decode cX8_isInMetre 42 = .ok (.iinc 3 1, 3) := by decide +kernel
theorem dX8_isInMetre_45 : decode cX8_isInMetre 45 = .ok (.goto (-41), 3) := by decide +kernel
theorem dX8_isInMetre_48 : decode cX8_isInMetre 48 = .ok (.iconst 1, 1) := by decide +kernel
theorem dX8_isInMetre_49 : decode cX8_isInMetre 49 = .ok (.ireturn, 1) := by decide +kernel
theorem dX8_admits_0 : decode cX8_admits 0 = .ok (.aload_n 1, 1) := by decide +kernel
theorem dX8_admits_1 : decode cX8_admits 1 = .ok (.getfield 80, 3) := by decide +kernel
theorem dX8_admits_4 : decode cX8_admits 4 = .ok (.ifCond .eq 28, 3) := by decide +kernel
theorem dX8_admits_7 : decode cX8_admits 7 = .ok (.aload_n 0, 1) := by decide +kernel
theorem dX8_admits_8 : decode cX8_admits 8 = .ok (.iload_n 3, 1) := by decide +kernel
theorem dX8_admits_9 : decode cX8_admits 9 = .ok (.aload_n 1, 1) := by decide +kernel
theorem dX8_admits_10 : decode cX8_admits 10 = .ok (.invokevirtual 92, 3) := by decide +kernel
theorem dX8_admits_13 : decode cX8_admits 13 = .ok (.aload_n 0, 1) := by decide +kernel
theorem dX8_admits_14 : decode cX8_admits 14 = .ok (.getfield 27, 3) := by decide +kernel
theorem dX8_admits_17 : decode cX8_admits 17 = .ok (.iload_n 2, 1) := by decide +kernel
theorem dX8_admits_18 : decode cX8_admits 18 = .ok (.invokestatic 58, 3) := by decide +kernel
theorem dX8_admits_21 : decode cX8_admits 21 = .ok (.if_icmp .ne 11, 3) := by decide +kernel
theorem dX8_admits_24 : decode cX8_admits 24 = .ok (.aload_n 0, 1) := by decide +kernel
theorem dX8_admits_25 : decode cX8_admits 25 = .ok (.aload_n 1, 1) := by decide +kernel
theorem dX8_admits_26 : decode cX8_admits 26 = .ok (.invokevirtual 96, 3) := by decide +kernel
theorem dX8_admits_29 : decode cX8_admits 29 = .ok (.ifCond .ne 5, 3) := by decide +kernel
theorem dX8_admits_32 : decode cX8_admits 32 = .ok (.iconst 0, 1) := by decide +kernel
theorem dX8_admits_33 : decode cX8_admits 33 = .ok (.ireturn, 1) := by decide +kernel
theorem dX8_admits_34 : decode cX8_admits 34 = .ok (.aload_n 0, 1) := by decide +kernel
theorem dX8_admits_35 : decode cX8_admits 35 = .ok (.iload_n 3, 1) := by decide +kernel
theorem dX8_admits_36 : decode cX8_admits 36 = .ok (.invokevirtual 100, 3) := by decide +kernel
theorem dX8_admits_39 : decode cX8_admits 39 = .ok (.ifCond .ne 26, 3) := by decide +kernel
theorem dX8_admits_42 : decode cX8_admits 42 = .ok (.aload_n 0, 1) := by decide +kernel
theorem dX8_admits_43 : decode cX8_admits 43 = .ok (.aload_n 1, 1) := by decide +kernel
theorem dX8_admits_44 : decode cX8_admits 44 = .ok (.invokevirtual 103, 3) := by decide +kernel
theorem dX8_admits_47 : decode cX8_admits 47 = .ok (.aload_n 0, 1) := by decide +kernel
theorem dX8_admits_48 : decode cX8_admits 48 = .ok (.aload_n 0, 1) := by decide +kernel
theorem dX8_admits_49 : decode cX8_admits 49 = .ok (.getfield 30, 3) := by decide +kernel
theorem dX8_admits_52 : decode cX8_admits 52 = .ok (.iload_n 2, 1) := by decide +kernel
theorem dX8_admits_53 : decode cX8_admits 53 = .ok (.invokestatic 58, 3) := by decide +kernel
theorem dX8_admits_56 : decode cX8_admits 56 = .ok (.invokevirtual 107, 3) := by decide +kernel
theorem dX8_admits_59 : decode cX8_admits 59 = .ok (.invokevirtual 110, 3) := by decide +kernel
theorem dX8_admits_62 : decode cX8_admits 62 = .ok (.ifCond .eq 7, 3) := by decide +kernel
theorem dX8_admits_65 : decode cX8_admits 65 = .ok (.iconst 1, 1) := by decide +kernel
theorem dX8_admits_66 : decode cX8_admits 66 = .ok (.goto 4, 3) := by decide +kernel
theorem dX8_admits_69 : decode cX8_admits 69 = .ok (.iconst 0, 1) := by decide +kernel
theorem dX8_admits_70 : decode cX8_admits 70 = .ok (.ireturn, 1) := by decide +kernel
theorem dX8_linesOf_0 : decode cX8_linesOf 0 = .ok (.iconst 1, 1) := by decide +kernel
theorem dX8_linesOf_1 : decode cX8_linesOf 1 = .ok (.istore_n 2, 1) := by decide +kernel
theorem dX8_linesOf_2 : decode cX8_linesOf 2 = .ok (.iconst 0, 1) := by decide +kernel
theorem dX8_linesOf_3 : decode cX8_linesOf 3 = .ok (.istore_n 3, 1) := by decide +kernel
theorem dX8_linesOf_4 : decode cX8_linesOf 4 = .ok (.iload_n 3, 1) := by decide +kernel
theorem dX8_linesOf_5 : decode cX8_linesOf 5 = .ok (.iload_n 1, 1) := by decide +kernel
theorem dX8_linesOf_6 : decode cX8_linesOf 6 = .ok (.if_icmp .ge 22, 3) := by decide +kernel
theorem dX8_linesOf_9 : decode cX8_linesOf 9 = .ok (.iload_n 3, 1) := by decide +kernel
theorem dX8_linesOf_10 : decode cX8_linesOf 10 = .ok (.bipush 6, 2) := by decide +kernel
theorem dX8_linesOf_12 : decode cX8_linesOf 12 = .ok (.if_icmp .ge 16, 3) := by decide +kernel
theorem dX8_linesOf_15 : decode cX8_linesOf 15 = .ok (.iload_n 2, 1) := by decide +kernel
theorem dX8_linesOf_16 : decode cX8_linesOf 16 = .ok (.aload_n 0, 1) := by decide +kernel
theorem dX8_linesOf_17 : decode cX8_linesOf 17 = .ok (.getfield 45, 3) := by decide +kernel
theorem dX8_linesOf_20 : decode cX8_linesOf 20 = .ok (.imul, 1) := by decide +kernel
theorem dX8_linesOf_21 : decode cX8_linesOf 21 = .ok (.istore_n 2, 1) := by decide +kernel
theorem dX8_linesOf_22 : decode cX8_linesOf 22 = .ok (.iinc 3 1, 3) := by decide +kernel
theorem dX8_linesOf_25 : decode cX8_linesOf 25 = .ok (.goto (-21), 3) := by decide +kernel
theorem dX8_linesOf_28 : decode cX8_linesOf 28 = .ok (.iload_n 2, 1) := by decide +kernel
theorem dX8_linesOf_29 : decode cX8_linesOf 29 = .ok (.ireturn, 1) := by decide +kernel
theorem dX9_init_0 : decode cX9_init 0 = .ok (.aload_n 0, 1) := by decide +kernel
theorem dX9_init_1 : decode cX9_init 1 = .ok (.invokespecial 3, 3) := by decide +kernel
theorem dX9_init_4 : decode cX9_init 4 = .ok (.aload_n 0, 1) := by decide +kernel
theorem dX9_init_5 : decode cX9_init 5 = .ok (.new 9, 3) := by decide +kernel
theorem dX9_init_8 : decode cX9_init 8 = .ok (.dup, 1) := by decide +kernel
theorem dX9_init_9 : decode cX9_init 9 = .ok (.invokespecial 11, 3) := by decide +kernel
theorem dX9_init_12 : decode cX9_init 12 = .ok (.putfield 12, 3) := by decide +kernel
theorem dX9_init_15 : decode cX9_init 15 = .ok (.aload_n 0, 1) := by decide +kernel
theorem dX9_init_16 : decode cX9_init 16 = .ok (.new 16, 3) := by decide +kernel
theorem dX9_init_19 : decode cX9_init 19 = .ok (.dup, 1) := by decide +kernel
theorem dX9_init_20 : decode cX9_init 20 = .ok (.invokespecial 18, 3) := by decide +kernel
theorem dX9_init_23 : decode cX9_init 23 = .ok (.putfield 19, 3) := by decide +kernel
theorem dX9_init_26 : decode cX9_init 26 = .ok (.aload_n 0, 1) := by decide +kernel
theorem dX9_init_27 : decode cX9_init 27 = .ok (.new 23, 3) := by decide +kernel
theorem dX9_init_30 : decode cX9_init 30 = .ok (.dup, 1) := by decide +kernel
theorem dX9_init_31 : decode cX9_init 31 = .ok (.invokespecial 25, 3) := by decide +kernel
theorem dX9_init_34 : decode cX9_init 34 = .ok (.putfield 26, 3) := by decide +kernel
theorem dX9_init_37 : decode cX9_init 37 = .ok (.aload_n 0, 1) := by decide +kernel
theorem dX9_init_38 : decode cX9_init 38 = .ok (.new 30, 3) := by decide +kernel
theorem dX9_init_41 : decode cX9_init 41 = .ok (.dup, 1) := by decide +kernel
theorem dX9_init_42 : decode cX9_init 42 = .ok (.invokespecial 32, 3) := by decide +kernel
theorem dX9_init_45 : decode cX9_init 45 = .ok (.putfield 33, 3) := by decide +kernel
theorem dX9_init_48 : decode cX9_init 48 = .ok (.aload_n 0, 1) := by decide +kernel
theorem dX9_init_49 : decode cX9_init 49 = .ok (.new 37, 3) := by decide +kernel
theorem dX9_init_52 : decode cX9_init 52 = .ok (.dup, 1) := by decide +kernel
theorem dX9_init_53 : decode cX9_init 53 = .ok (.aload_n 0, 1) := by decide +kernel
theorem dX9_init_54 : decode cX9_init 54 = .ok (.getfield 12, 3) := by decide +kernel
theorem dX9_init_57 : decode cX9_init 57 = .ok (.invokespecial 39, 3) := by decide +kernel
theorem dX9_init_60 : decode cX9_init 60 = .ok (.putfield 42, 3) := by decide +kernel
theorem dX9_init_63 : decode cX9_init 63 = .ok (.aload_n 0, 1) := by decide +kernel
theorem dX9_init_64 : decode cX9_init 64 = .ok (.new 46, 3) := by decide +kernel
theorem dX9_init_67 : decode cX9_init 67 = .ok (.dup, 1) := by decide +kernel
theorem dX9_init_68 : decode cX9_init 68 = .ok (.aload_n 0, 1) := by decide +kernel
theorem dX9_init_69 : decode cX9_init 69 = .ok (.getfield 12, 3) := by decide +kernel
theorem dX9_init_72 : decode cX9_init 72 = .ok (.aload_n 0, 1) := by decide +kernel
theorem dX9_init_73 : decode cX9_init 73 = .ok (.getfield 42, 3) := by decide +kernel
theorem dX9_init_76 : decode cX9_init 76 = .ok (.aload_n 0, 1) := by decide +kernel
theorem dX9_init_77 : decode cX9_init 77 = .ok (.getfield 33, 3) := by decide +kernel
theorem dX9_init_80 : decode cX9_init 80 = .ok (.invokespecial 48, 3) := by decide +kernel
theorem dX9_init_83 : decode cX9_init 83 = .ok (.putfield 51, 3) := by decide +kernel
theorem dX9_init_86 : decode cX9_init 86 = .ok (.aload_n 0, 1) := by decide +kernel
theorem dX9_init_87 : decode cX9_init 87 = .ok (.new 55, 3) := by decide +kernel
theorem dX9_init_90 : decode cX9_init 90 = .ok (.dup, 1) := by decide +kernel
theorem dX9_init_91 : decode cX9_init 91 = .ok (.aload_n 0, 1) := by decide +kernel
theorem dX9_init_92 : decode cX9_init 92 = .ok (.getfield 12, 3) := by decide +kernel
theorem dX9_init_95 : decode cX9_init 95 = .ok (.invokespecial 57, 3) := by decide +kernel
theorem dX9_init_98 : decode cX9_init 98 = .ok (.putfield 58, 3) := by decide +kernel
theorem dX9_init_101 : decode cX9_init 101 = .ok (.aload_n 0, 1) := by decide +kernel
theorem dX9_init_102 : decode cX9_init 102 = .ok (.new 62, 3) := by decide +kernel
theorem dX9_init_105 : decode cX9_init 105 = .ok (.dup, 1) := by decide +kernel
theorem dX9_init_106 : decode cX9_init 106 = .ok (.aload_n 0, 1) := by decide +kernel
theorem dX9_init_107 : decode cX9_init 107 = .ok (.getfield 12, 3) := by decide +kernel
theorem dX9_init_110 : decode cX9_init 110 = .ok (.invokespecial 64, 3) := by decide +kernel
theorem dX9_init_113 : decode cX9_init 113 = .ok (.putfield 65, 3) := by decide +kernel
theorem dX9_init_116 : decode cX9_init 116 = .ok (.aload_n 0, 1) := by decide +kernel
theorem dX9_init_117 : decode cX9_init 117 = .ok (.new 69, 3) := by decide +kernel
theorem dX9_init_120 : decode cX9_init 120 = .ok (.dup, 1) := by decide +kernel
theorem dX9_init_121 : decode cX9_init 121 = .ok (.aload_n 0, 1) := by decide +kernel
theorem dX9_init_122 : decode cX9_init 122 = .ok (.getfield 12, 3) := by decide +kernel
theorem dX9_init_125 : decode cX9_init 125 = .ok (.invokespecial 71, 3) := by decide +kernel
theorem dX9_init_128 : decode cX9_init 128 = .ok (.putfield 72, 3) := by decide +kernel
theorem dX9_init_131 : decode cX9_init 131 = .ok (.aload_n 0, 1) := by decide +kernel
theorem dX9_init_132 : decode cX9_init 132 = .ok (.bipush 6, 2) := by decide +kernel
theorem dX9_init_134 : decode cX9_init 134 = .ok (.newarray .int, 2) := by decide +kernel
theorem dX9_init_136 : decode cX9_init 136 = .ok (.putfield 76, 3) := by decide +kernel
theorem dX9_init_139 : decode cX9_init 139 = .ok (.return_, 1) := by decide +kernel
theorem dX9_write_0 : decode cX9_write 0 = .ok (.iload_n 1, 1) := by decide +kernel
theorem dX9_write_1 : decode cX9_write 1 = .ok (.ifCond .lt 10, 3) := by decide +kernel
theorem dX9_write_4 : decode cX9_write 4 = .ok (.iload_n 1, 1) := by decide +kernel
theorem dX9_write_5 : decode cX9_write 5 = .ok (.sipush 256, 3) := by decide +kernel
theorem dX9_write_8 : decode cX9_write 8 = .ok (.if_icmp .lt 6, 3) := by decide +kernel
theorem dX9_write_11 : decode cX9_write 11 = .ok (.bipush (-3), 2) := by decide +kernel
theorem dX9_write_13 : decode cX9_write 13 = .ok (.ireturn, 1) := by decide +kernel
theorem dX9_write_14 : decode cX9_write 14 = .ok (.aload_n 0, 1) := by decide +kernel
theorem dX9_write_15 : decode cX9_write 15 = .ok (.getfield 19, 3) := by decide +kernel
theorem dX9_write_18 : decode cX9_write 18 = .ok (.getfield 80, 3) := by decide +kernel
theorem dX9_write_21 : decode cX9_write 21 = .ok (.sipush 160, 3) := by decide +kernel
theorem dX9_write_24 : decode cX9_write 24 = .ok (.if_icmp .lt 6, 3) := by decide +kernel
theorem dX9_write_27 : decode cX9_write 27 = .ok (.bipush (-5), 2) := by decide +kernel
theorem dX9_write_29 : decode cX9_write 29 = .ok (.ireturn, 1) := by decide +kernel
theorem dX9_write_30 : decode cX9_write 30 = .ok (.aload_n 0, 1) := by decide +kernel
theorem dX9_write_31 : decode cX9_write 31 = .ok (.getfield 19, 3) := by decide +kernel
theorem dX9_write_34 : decode cX9_write 34 = .ok (.iload_n 1, 1) := by decide +kernel
theorem dX9_write_35 : decode cX9_write 35 = .ok (.invokevirtual 84, 3) := by decide +kernel
theorem dX9_write_38 : decode cX9_write 38 = .ok (.ireturn, 1) := by decide +kernel
theorem dX9_erase_0 : decode cX9_erase 0 = .ok (.aload_n 0, 1) := by decide +kernel
theorem dX9_erase_1 : decode cX9_erase 1 = .ok (.getfield 19, 3) := by decide +kernel
theorem dX9_erase_4 : decode cX9_erase 4 = .ok (.invokevirtual 88, 3) := by decide +kernel
theorem dX9_erase_7 : decode cX9_erase 7 = .ok (.ireturn, 1) := by decide +kernel
theorem dX9_fault_0 : decode cX9_fault 0 = .ok (.aload_n 0, 1) := by decide +kernel
theorem dX9_fault_1 : decode cX9_fault 1 = .ok (.getfield 19, 3) := by decide +kernel
theorem dX9_fault_4 : decode cX9_fault 4 = .ok (.aload_n 0, 1) := by decide +kernel
theorem dX9_fault_5 : decode cX9_fault 5 = .ok (.getfield 12, 3) := by decide +kernel
theorem dX9_fault_8 : decode cX9_fault 8 = .ok (.invokevirtual 92, 3) := by decide +kernel
theorem dX9_fault_11 : decode cX9_fault 11 = .ok (.ireturn, 1) := by decide +kernel
theorem dX9_customs_0 : decode cX9_customs 0 = .ok (.aload_n 0, 1) := by decide +kernel
theorem dX9_customs_1 : decode cX9_customs 1 = .ok (.getfield 19, 3) := by decide +kernel
theorem dX9_customs_4 : decode cX9_customs 4 = .ok (.aload_n 0, 1) := by decide +kernel
theorem dX9_customs_5 : decode cX9_customs 5 = .ok (.getfield 12, 3) := by decide +kernel
theorem dX9_customs_8 : decode cX9_customs 8 = .ok (.invokevirtual 92, 3) := by decide +kernel
theorem dX9_customs_11 : decode cX9_customs 11 = .ok (.iconst (-1), 1) := by decide +kernel
theorem dX9_customs_12 : decode cX9_customs 12 = .ok (.if_icmp .eq 6, 3) := by decide +kernel
theorem dX9_customs_15 : decode cX9_customs 15 = .ok (.bipush (-4), 2) := by decide +kernel
theorem dX9_customs_17 : decode cX9_customs 17 = .ok (.ireturn, 1) := by decide +kernel
theorem dX9_customs_18 : decode cX9_customs 18 = .ok (.iconst 0, 1) := by decide +kernel
theorem dX9_customs_19 : decode cX9_customs 19 = .ok (.istore_n 1, 1) := by decide +kernel
theorem dX9_customs_20 : decode cX9_customs 20 = .ok (.iload_n 1, 1) := by decide +kernel
theorem dX9_customs_21 : decode cX9_customs 21 = .ok (.aload_n 0, 1) := by decide +kernel
theorem dX9_customs_22 : decode cX9_customs 22 = .ok (.getfield 19, 3) := by decide +kernel
theorem dX9_customs_25 : decode cX9_customs 25 = .ok (.getfield 96, 3) := by decide +kernel
theorem dX9_customs_28 : decode cX9_customs 28 = .ok (.if_icmp .ge 21, 3) := by decide +kernel
theorem dX9_customs_31 : decode cX9_customs 31 = .ok (.aload_n 0, 1) := by decide +kernel
theorem dX9_customs_32 : decode cX9_customs 32 = .ok (.getfield 19, 3) := by decide +kernel
theorem dX9_customs_35 : decode cX9_customs 35 = .ok (.iload_n 1, 1) := by decide +kernel
theorem dX9_customs_36 : decode cX9_customs 36 = .ok (.aload_n 0, 1) := by decide +kernel
theorem dX9_customs_37 : decode cX9_customs 37 = .ok (.getfield 12, 3) := by decide +kernel
theorem dX9_customs_40 : decode cX9_customs 40 = .ok (.invokevirtual 99, 3) := by decide +kernel
theorem dX9_customs_43 : decode cX9_customs 43 = .ok (.iinc 1 1, 3) := by decide +kernel
theorem dX9_customs_46 : decode cX9_customs 46 = .ok (.goto (-26), 3) := by decide +kernel
theorem dX9_customs_49 : decode cX9_customs 49 = .ok (.aload_n 0, 1) := by decide +kernel
theorem dX9_customs_50 : decode cX9_customs 50 = .ok (.getfield 19, 3) := by decide +kernel
theorem dX9_customs_53 : decode cX9_customs 53 = .ok (.getfield 96, 3) := by decide +kernel
theorem dX9_customs_56 : decode cX9_customs 56 = .ok (.istore_n 1, 1) := by decide +kernel
theorem dX9_customs_57 : decode cX9_customs 57 = .ok (.aload_n 0, 1) := by decide +kernel
theorem dX9_customs_58 : decode cX9_customs 58 = .ok (.getfield 19, 3) := by decide +kernel
theorem dX9_customs_61 : decode cX9_customs 61 = .ok (.invokevirtual 88, 3) := by decide +kernel
theorem dX9_customs_64 : decode cX9_customs 64 = .ok (.pop, 1) := by decide +kernel
theorem dX9_customs_65 : decode cX9_customs 65 = .ok (.aload_n 0, 1) := by decide +kernel
theorem dX9_customs_66 : decode cX9_customs 66 = .ok (.getfield 26, 3) := by decide +kernel
theorem dX9_customs_69 : decode cX9_customs 69 = .ok (.invokevirtual 103, 3) := by decide +kernel
theorem dX9_customs_72 : decode cX9_customs 72 = .ok (.aload_n 0, 1) := by decide +kernel
theorem dX9_customs_73 : decode cX9_customs 73 = .ok (.getfield 33, 3) := by decide +kernel
theorem dX9_customs_76 : decode cX9_customs 76 = .ok (.invokevirtual 106, 3) := by decide +kernel
theorem dX9_customs_79 : decode cX9_customs 79 = .ok (.pop, 1) := by decide +kernel
theorem dX9_customs_80 : decode cX9_customs 80 = .ok (.aload_n 0, 1) := by decide +kernel
theorem dX9_customs_81 : decode cX9_customs 81 = .ok (.getfield 72, 3) := by decide +kernel
theorem dX9_customs_84 : decode cX9_customs 84 = .ok (.invokevirtual 107, 3) := by decide +kernel
theorem dX9_customs_87 : decode cX9_customs 87 = .ok (.iload_n 1, 1) := by decide +kernel
theorem dX9_customs_88 : decode cX9_customs 88 = .ok (.ireturn, 1) := by decide +kernel
theorem dX9_word_0 : decode cX9_word 0 = .ok (.aload_n 0, 1) := by decide +kernel
theorem dX9_word_1 : decode cX9_word 1 = .ok (.getfield 12, 3) := by decide +kernel
theorem dX9_word_4 : decode cX9_word 4 = .ok (.iload_n 1, 1) := by decide +kernel
theorem dX9_word_5 : decode cX9_word 5 = .ok (.invokevirtual 110, 3) := by decide +kernel
theorem dX9_word_8 : decode cX9_word 8 = .ok (.ifCond .ne 6, 3) := by decide +kernel
theorem dX9_word_11 : decode cX9_word 11 = .ok (.bipush (-2), 2) := by decide +kernel
theorem dX9_word_13 : decode cX9_word 13 = .ok (.ireturn, 1) := by decide +kernel
theorem dX9_word_14 : decode cX9_word 14 = .ok (.iload_n 2, 1) := by decide +kernel
theorem dX9_word_15 : decode cX9_word 15 = .ok (.tableswitch 77 0 3 #[29, 41, 53, 65], 29) := by decide +kernel
theorem dX9_word_44 : decode cX9_word 44 = .ok (.aload_n 0, 1) := by decide +kernel
theorem dX9_word_45 : decode cX9_word 45 = .ok (.getfield 12, 3) := by decide +kernel
theorem dX9_word_48 : decode cX9_word 48 = .ok (.getfield 114, 3) := by decide +kernel
theorem dX9_word_51 : decode cX9_word 51 = .ok (.iload_n 1, 1) := by decide +kernel
theorem dX9_word_52 : decode cX9_word 52 = .ok (.invokestatic 117, 3) := by decide +kernel
theorem dX9_word_55 : decode cX9_word 55 = .ok (.ireturn, 1) := by decide +kernel
theorem dX9_word_56 : decode cX9_word 56 = .ok (.aload_n 0, 1) := by decide +kernel
theorem dX9_word_57 : decode cX9_word 57 = .ok (.getfield 12, 3) := by decide +kernel
theorem dX9_word_60 : decode cX9_word 60 = .ok (.getfield 121, 3) := by decide +kernel
theorem dX9_word_63 : decode cX9_word 63 = .ok (.iload_n 1, 1) := by decide +kernel
theorem dX9_word_64 : decode cX9_word 64 = .ok (.invokestatic 117, 3) := by decide +kernel
theorem dX9_word_67 : decode cX9_word 67 = .ok (.ireturn, 1) := by decide +kernel
theorem dX9_word_68 : decode cX9_word 68 = .ok (.aload_n 0, 1) := by decide +kernel
theorem dX9_word_69 : decode cX9_word 69 = .ok (.getfield 12, 3) := by decide +kernel
theorem dX9_word_72 : decode cX9_word 72 = .ok (.getfield 124, 3) := by decide +kernel
theorem dX9_word_75 : decode cX9_word 75 = .ok (.iload_n 1, 1) := by decide +kernel
theorem dX9_word_76 : decode cX9_word 76 = .ok (.invokestatic 117, 3) := by decide +kernel
theorem dX9_word_79 : decode cX9_word 79 = .ok (.ireturn, 1) := by decide +kernel
theorem dX9_word_80 : decode cX9_word 80 = .ok (.aload_n 0, 1) := by decide +kernel
theorem dX9_word_81 : decode cX9_word 81 = .ok (.getfield 12, 3) := by decide +kernel
theorem dX9_word_84 : decode cX9_word 84 = .ok (.getfield 127, 3) := by decide +kernel
theorem dX9_word_87 : decode cX9_word 87 = .ok (.iload_n 1, 1) := by decide +kernel
theorem dX9_word_88 : decode cX9_word 88 = .ok (.invokestatic 117, 3) := by decide +kernel
theorem dX9_word_91 : decode cX9_word 91 = .ok (.ireturn, 1) := by decide +kernel
theorem dX9_word_92 : decode cX9_word 92 = .ok (.bipush (-3), 2) := by decide +kernel
theorem dX9_word_94 : decode cX9_word 94 = .ok (.ireturn, 1) := by decide +kernel
theorem dX9_ware_0 : decode cX9_ware 0 = .ok (.aload_n 0, 1) := by decide +kernel
theorem dX9_ware_1 : decode cX9_ware 1 = .ok (.getfield 12, 3) := by decide +kernel
theorem dX9_ware_4 : decode cX9_ware 4 = .ok (.iload_n 1, 1) := by decide +kernel
theorem dX9_ware_5 : decode cX9_ware 5 = .ok (.invokevirtual 130, 3) := by decide +kernel
theorem dX9_ware_8 : decode cX9_ware 8 = .ok (.ifCond .ne 6, 3) := by decide +kernel
theorem dX9_ware_11 : decode cX9_ware 11 = .ok (.bipush (-2), 2) := by decide +kernel
theorem dX9_ware_13 : decode cX9_ware 13 = .ok (.ireturn, 1) := by decide +kernel
theorem dX9_ware_14 : decode cX9_ware 14 = .ok (.iload_n 2, 1) := by decide +kernel
theorem dX9_ware_15 : decode cX9_ware 15 = .ok (.tableswitch 58 0 2 #[25, 37, 49], 25) := by decide +kernel
theorem dX9_ware_40 : decode cX9_ware 40 = .ok (.aload_n 0, 1) := by decide +kernel
theorem dX9_ware_41 : decode cX9_ware 41 = .ok (.getfield 12, 3) := by decide +kernel
theorem dX9_ware_44 : decode cX9_ware 44 = .ok (.getfield 133, 3) := by decide +kernel
theorem dX9_ware_47 : decode cX9_ware 47 = .ok (.iload_n 1, 1) := by decide +kernel
theorem dX9_ware_48 : decode cX9_ware 48 = .ok (.invokestatic 117, 3) := by decide +kernel
theorem dX9_ware_51 : decode cX9_ware 51 = .ok (.ireturn, 1) := by decide +kernel
theorem dX9_ware_52 : decode cX9_ware 52 = .ok (.aload_n 0, 1) := by decide +kernel
theorem dX9_ware_53 : decode cX9_ware 53 = .ok (.getfield 12, 3) := by decide +kernel
theorem dX9_ware_56 : decode cX9_ware 56 = .ok (.getfield 136, 3) := by decide +kernel
theorem dX9_ware_59 : decode cX9_ware 59 = .ok (.iload_n 1, 1) := by decide +kernel
theorem dX9_ware_60 : decode cX9_ware 60 = .ok (.invokestatic 117, 3) := by decide +kernel
theorem dX9_ware_63 : decode cX9_ware 63 = .ok (.ireturn, 1) := by decide +kernel
theorem dX9_ware_64 : decode cX9_ware 64 = .ok (.aload_n 0, 1) := by decide +kernel
theorem dX9_ware_65 : decode cX9_ware 65 = .ok (.getfield 26, 3) := by decide +kernel
theorem dX9_ware_68 : decode cX9_ware 68 = .ok (.iload_n 1, 1) := by decide +kernel
theorem dX9_ware_69 : decode cX9_ware 69 = .ok (.invokevirtual 139, 3) := by decide +kernel
theorem dX9_ware_72 : decode cX9_ware 72 = .ok (.ireturn, 1) := by decide +kernel
theorem dX9_ware_73 : decode cX9_ware 73 = .ok (.bipush (-3), 2) := by decide +kernel
theorem dX9_ware_75 : decode cX9_ware 75 = .ok (.ireturn, 1) := by decide +kernel
theorem dX9_clerk_0 : decode cX9_clerk 0 = .ok (.aload_n 0, 1) := by decide +kernel
theorem dX9_clerk_1 : decode cX9_clerk 1 = .ok (.getfield 12, 3) := by decide +kernel
theorem dX9_clerk_4 : decode cX9_clerk 4 = .ok (.iload_n 1, 1) := by decide +kernel
theorem dX9_clerk_5 : decode cX9_clerk 5 = .ok (.invokevirtual 142, 3) := by decide +kernel
theorem dX9_clerk_8 : decode cX9_clerk 8 = .ok (.ifCond .ne 6, 3) := by decide +kernel
theorem dX9_clerk_11 : decode cX9_clerk 11 = .ok (.bipush (-2), 2) := by decide +kernel
theorem dX9_clerk_13 : decode cX9_clerk 13 = .ok (.ireturn, 1) := by decide +kernel
theorem dX9_clerk_14 : decode cX9_clerk 14 = .ok (.aload_n 0, 1) := by decide +kernel
theorem dX9_clerk_15 : decode cX9_clerk 15 = .ok (.getfield 12, 3) := by decide +kernel
theorem dX9_clerk_18 : decode cX9_clerk 18 = .ok (.getfield 145, 3) := by decide +kernel
theorem dX9_clerk_21 : decode cX9_clerk 21 = .ok (.iload_n 1, 1) := by decide +kernel
theorem dX9_clerk_22 : decode cX9_clerk 22 = .ok (.invokestatic 117, 3) := by decide +kernel
theorem dX9_clerk_25 : decode cX9_clerk 25 = .ok (.ireturn, 1) := by decide +kernel
theorem dX9_rhyme_0 : decode cX9_rhyme 0 = .ok (.iload_n 1, 1) := by decide +kernel
theorem dX9_rhyme_1 : decode cX9_rhyme 1 = .ok (.ifCond .lt 9, 3) := by decide +kernel
theorem dX9_rhyme_4 : decode cX9_rhyme 4 = .ok (.iload_n 1, 1) := by decide +kernel
theorem dX9_rhyme_5 : decode cX9_rhyme 5 = .ok (.bipush 6, 2) := by decide +kernel
theorem dX9_rhyme_7 : decode cX9_rhyme 7 = .ok (.if_icmp .lt 6, 3) := by decide +kernel
theorem dX9_rhyme_10 : decode cX9_rhyme 10 = .ok (.bipush (-2), 2) := by decide +kernel
theorem dX9_rhyme_12 : decode cX9_rhyme 12 = .ok (.ireturn, 1) := by decide +kernel
theorem dX9_rhyme_13 : decode cX9_rhyme 13 = .ok (.iload_n 2, 1) := by decide +kernel
theorem dX9_rhyme_14 : decode cX9_rhyme 14 = .ok (.tableswitch 56 0 2 #[26, 35, 47], 26) := by decide +kernel
theorem dX9_rhyme_40 : decode cX9_rhyme 40 = .ok (.aload_n 0, 1) := by decide +kernel
theorem dX9_rhyme_41 : decode cX9_rhyme 41 = .ok (.getfield 26, 3) := by decide +kernel
theorem dX9_rhyme_44 : decode cX9_rhyme 44 = .ok (.iload_n 1, 1) := by decide +kernel
theorem dX9_rhyme_45 : decode cX9_rhyme 45 = .ok (.invokevirtual 148, 3) := by decide +kernel
theorem dX9_rhyme_48 : decode cX9_rhyme 48 = .ok (.ireturn, 1) := by decide +kernel
theorem dX9_rhyme_49 : decode cX9_rhyme 49 = .ok (.aload_n 0, 1) := by decide +kernel
theorem dX9_rhyme_50 : decode cX9_rhyme 50 = .ok (.getfield 12, 3) := by decide +kernel
theorem dX9_rhyme_53 : decode cX9_rhyme 53 = .ok (.getfield 151, 3) := by decide +kernel
theorem dX9_rhyme_56 : decode cX9_rhyme 56 = .ok (.iload_n 1, 1) := by decide +kernel
theorem dX9_rhyme_57 : decode cX9_rhyme 57 = .ok (.invokestatic 117, 3) := by decide +kernel
theorem dX9_rhyme_60 : decode cX9_rhyme 60 = .ok (.ireturn, 1) := by decide +kernel
theorem dX9_rhyme_61 : decode cX9_rhyme 61 = .ok (.aload_n 0, 1) := by decide +kernel
theorem dX9_rhyme_62 : decode cX9_rhyme 62 = .ok (.getfield 12, 3) := by decide +kernel
theorem dX9_rhyme_65 : decode cX9_rhyme 65 = .ok (.iload_n 1, 1) := by decide +kernel
theorem dX9_rhyme_66 : decode cX9_rhyme 66 = .ok (.invokevirtual 154, 3) := by decide +kernel
theorem dX9_rhyme_69 : decode cX9_rhyme 69 = .ok (.ireturn, 1) := by decide +kernel
theorem dX9_rhyme_70 : decode cX9_rhyme 70 = .ok (.bipush (-3), 2) := by decide +kernel
theorem dX9_rhyme_72 : decode cX9_rhyme 72 = .ok (.ireturn, 1) := by decide +kernel
theorem dX9_as_0 : decode cX9_as 0 = .ok (.aload_n 0, 1) := by decide +kernel
theorem dX9_as_1 : decode cX9_as 1 = .ok (.getfield 12, 3) := by decide +kernel
theorem dX9_as_4 : decode cX9_as 4 = .ok (.iload_n 1, 1) := by decide +kernel
theorem dX9_as_5 : decode cX9_as 5 = .ok (.invokevirtual 110, 3) := by decide +kernel
theorem dX9_as_8 : decode cX9_as 8 = .ok (.ifCond .ne 6, 3) := by decide +kernel
theorem dX9_as_11 : decode cX9_as 11 = .ok (.bipush (-2), 2) := by decide +kernel
theorem dX9_as_13 : decode cX9_as 13 = .ok (.ireturn, 1) := by decide +kernel
theorem dX9_as_14 : decode cX9_as 14 = .ok (.iload_n 2, 1) := by decide +kernel
theorem dX9_as_15 : decode cX9_as 15 = .ok (.ifCond .lt 8, 3) := by decide +kernel
theorem dX9_as_18 : decode cX9_as 18 = .ok (.iload_n 2, 1) := by decide +kernel
theorem dX9_as_19 : decode cX9_as 19 = .ok (.iconst 5, 1) := by decide +kernel
theorem dX9_as_20 : decode cX9_as 20 = .ok (.if_icmp .lt 6, 3) := by decide +kernel
theorem dX9_as_23 : decode cX9_as 23 = .ok (.bipush (-3), 2) := by decide +kernel
theorem dX9_as_25 : decode cX9_as 25 = .ok (.ireturn, 1) := by decide +kernel
theorem dX9_as_26 : decode cX9_as 26 = .ok (.getstatic 157, 3) := by decide +kernel
theorem dX9_as_29 : decode cX9_as 29 = .ok (.aload_n 0, 1) := by decide +kernel
theorem dX9_as_30 : decode cX9_as 30 = .ok (.getfield 12, 3) := by decide +kernel
theorem dX9_as_33 : decode cX9_as 33 = .ok (.getfield 114, 3) := by decide +kernel
theorem dX9_as_36 : decode cX9_as 36 = .ok (.iload_n 1, 1) := by decide +kernel
theorem dX9_as_37 : decode cX9_as 37 = .ok (.invokestatic 117, 3) := by decide +kernel
theorem dX9_as_40 : decode cX9_as 40 = .ok (.invokestatic 117, 3) := by decide +kernel
theorem dX9_as_43 : decode cX9_as 43 = .ok (.iload_n 2, 1) := by decide +kernel
theorem dX9_as_44 : decode cX9_as 44 = .ok (.invokestatic 160, 3) := by decide +kernel
theorem dX9_as_47 : decode cX9_as 47 = .ok (.ifCond .ne 6, 3) := by decide +kernel
theorem dX9_as_50 : decode cX9_as 50 = .ok (.bipush (-4), 2) := by decide +kernel
theorem dX9_as_52 : decode cX9_as 52 = .ok (.ireturn, 1) := by decide +kernel
theorem dX9_as_53 : decode cX9_as 53 = .ok (.aload_n 0, 1) := by decide +kernel
theorem dX9_as_54 : decode cX9_as 54 = .ok (.getfield 12, 3) := by decide +kernel
theorem dX9_as_57 : decode cX9_as 57 = .ok (.iload_n 1, 1) := by decide +kernel
theorem dX9_as_58 : decode cX9_as 58 = .ok (.invokevirtual 164, 3) := by decide +kernel
theorem dX9_as_61 : decode cX9_as 61 = .ok (.ireturn, 1) := by decide +kernel
theorem dX9_clerkAs_0 : decode cX9_clerkAs 0 = .ok (.aload_n 0, 1) := by decide +kernel
theorem dX9_clerkAs_1 : decode cX9_clerkAs 1 = .ok (.getfield 12, 3) := by decide +kernel
theorem dX9_clerkAs_4 : decode cX9_clerkAs 4 = .ok (.iload_n 1, 1) := by decide +kernel
theorem dX9_clerkAs_5 : decode cX9_clerkAs 5 = .ok (.invokevirtual 142, 3) := by decide +kernel
theorem dX9_clerkAs_8 : decode cX9_clerkAs 8 = .ok (.ifCond .ne 6, 3) := by decide +kernel
theorem dX9_clerkAs_11 : decode cX9_clerkAs 11 = .ok (.bipush (-2), 2) := by decide +kernel
theorem dX9_clerkAs_13 : decode cX9_clerkAs 13 = .ok (.ireturn, 1) := by decide +kernel
theorem dX9_clerkAs_14 : decode cX9_clerkAs 14 = .ok (.iload_n 2, 1) := by decide +kernel
theorem dX9_clerkAs_15 : decode cX9_clerkAs 15 = .ok (.ifCond .lt 8, 3) := by decide +kernel
theorem dX9_clerkAs_18 : decode cX9_clerkAs 18 = .ok (.iload_n 2, 1) := by decide +kernel
theorem dX9_clerkAs_19 : decode cX9_clerkAs 19 = .ok (.iconst 4, 1) := by decide +kernel
theorem dX9_clerkAs_20 : decode cX9_clerkAs 20 = .ok (.if_icmp .lt 6, 3) := by decide +kernel
theorem dX9_clerkAs_23 : decode cX9_clerkAs 23 = .ok (.bipush (-3), 2) := by decide +kernel
theorem dX9_clerkAs_25 : decode cX9_clerkAs 25 = .ok (.ireturn, 1) := by decide +kernel
theorem dX9_clerkAs_26 : decode cX9_clerkAs 26 = .ok (.getstatic 167, 3) := by decide +kernel
theorem dX9_clerkAs_29 : decode cX9_clerkAs 29 = .ok (.aload_n 0, 1) := by decide +kernel
theorem dX9_clerkAs_30 : decode cX9_clerkAs 30 = .ok (.getfield 12, 3) := by decide +kernel
theorem dX9_clerkAs_33 : decode cX9_clerkAs 33 = .ok (.getfield 145, 3) := by decide +kernel
theorem dX9_clerkAs_36 : decode cX9_clerkAs 36 = .ok (.iload_n 1, 1) := by decide +kernel
theorem dX9_clerkAs_37 : decode cX9_clerkAs 37 = .ok (.invokestatic 117, 3) := by decide +kernel
theorem dX9_clerkAs_40 : decode cX9_clerkAs 40 = .ok (.invokestatic 117, 3) := by decide +kernel
theorem dX9_clerkAs_43 : decode cX9_clerkAs 43 = .ok (.iload_n 2, 1) := by decide +kernel
theorem dX9_clerkAs_44 : decode cX9_clerkAs 44 = .ok (.invokestatic 160, 3) := by decide +kernel
theorem dX9_clerkAs_47 : decode cX9_clerkAs 47 = .ok (.ifCond .ne 6, 3) := by decide +kernel
theorem dX9_clerkAs_50 : decode cX9_clerkAs 50 = .ok (.bipush (-4), 2) := by decide +kernel
theorem dX9_clerkAs_52 : decode cX9_clerkAs 52 = .ok (.ireturn, 1) := by decide +kernel
theorem dX9_clerkAs_53 : decode cX9_clerkAs 53 = .ok (.aload_n 0, 1) := by decide +kernel
theorem dX9_clerkAs_54 : decode cX9_clerkAs 54 = .ok (.getfield 12, 3) := by decide +kernel
theorem dX9_clerkAs_57 : decode cX9_clerkAs 57 = .ok (.iload_n 1, 1) := by decide +kernel
theorem dX9_clerkAs_58 : decode cX9_clerkAs 58 = .ok (.aload_n 0, 1) := by decide +kernel
theorem dX9_clerkAs_59 : decode cX9_clerkAs 59 = .ok (.getfield 33, 3) := by decide +kernel
theorem dX9_clerkAs_62 : decode cX9_clerkAs 62 = .ok (.invokevirtual 170, 3) := by decide +kernel
theorem dX9_clerkAs_65 : decode cX9_clerkAs 65 = .ok (.ireturn, 1) := by decide +kernel
theorem dX9_put_0 : decode cX9_put 0 = .ok (.aload_n 0, 1) := by decide +kernel
theorem dX9_put_1 : decode cX9_put 1 = .ok (.getfield 12, 3) := by decide +kernel
theorem dX9_put_4 : decode cX9_put 4 = .ok (.iload_n 1, 1) := by decide +kernel
theorem dX9_put_5 : decode cX9_put 5 = .ok (.invokevirtual 110, 3) := by decide +kernel
theorem dX9_put_8 : decode cX9_put 8 = .ok (.ifCond .ne 6, 3) := by decide +kernel
theorem dX9_put_11 : decode cX9_put 11 = .ok (.bipush (-2), 2) := by decide +kernel
theorem dX9_put_13 : decode cX9_put 13 = .ok (.ireturn, 1) := by decide +kernel
theorem dX9_put_14 : decode cX9_put 14 = .ok (.aload_n 0, 1) := by decide +kernel
theorem dX9_put_15 : decode cX9_put 15 = .ok (.getfield 33, 3) := by decide +kernel
theorem dX9_put_18 : decode cX9_put 18 = .ok (.getfield 174, 3) := by decide +kernel
theorem dX9_put_21 : decode cX9_put 21 = .ok (.bipush 6, 2) := by decide +kernel
theorem dX9_put_23 : decode cX9_put 23 = .ok (.if_icmp .lt 6, 3) := by decide +kernel
theorem dX9_put_26 : decode cX9_put 26 = .ok (.bipush (-5), 2) := by decide +kernel
theorem dX9_put_28 : decode cX9_put 28 = .ok (.ireturn, 1) := by decide +kernel
theorem dX9_put_29 : decode cX9_put 29 = .ok (.aload_n 0, 1) := by decide +kernel
theorem dX9_put_30 : decode cX9_put 30 = .ok (.getfield 33, 3) := by decide +kernel
theorem dX9_put_33 : decode cX9_put 33 = .ok (.iload_n 1, 1) := by decide +kernel
theorem dX9_put_34 : decode cX9_put 34 = .ok (.invokevirtual 175, 3) := by decide +kernel
theorem dX9_put_37 : decode cX9_put 37 = .ok (.ireturn, 1) := by decide +kernel
theorem dX9_wipe_0 : decode cX9_wipe 0 = .ok (.aload_n 0, 1) := by decide +kernel
theorem dX9_wipe_1 : decode cX9_wipe 1 = .ok (.getfield 33, 3) := by decide +kernel
theorem dX9_wipe_4 : decode cX9_wipe 4 = .ok (.invokevirtual 106, 3) := by decide +kernel
theorem dX9_wipe_7 : decode cX9_wipe 7 = .ok (.ireturn, 1) := by decide +kernel
theorem dX9_line_0 : decode cX9_line 0 = .ok (.iload_n 1, 1) := by decide +kernel
theorem dX9_line_1 : decode cX9_line 1 = .ok (.ifCond .lt 14, 3) := by decide +kernel
theorem dX9_line_4 : decode cX9_line 4 = .ok (.iload_n 1, 1) := by decide +kernel
theorem dX9_line_5 : decode cX9_line 5 = .ok (.aload_n 0, 1) := by decide +kernel
theorem dX9_line_6 : decode cX9_line 6 = .ok (.getfield 33, 3) := by decide +kernel
theorem dX9_line_9 : decode cX9_line 9 = .ok (.getfield 174, 3) := by decide +kernel
theorem dX9_line_12 : decode cX9_line 12 = .ok (.if_icmp .lt 6, 3) := by decide +kernel
theorem dX9_line_15 : decode cX9_line 15 = .ok (.bipush (-3), 2) := by decide +kernel
theorem dX9_line_17 : decode cX9_line 17 = .ok (.ireturn, 1) := by decide +kernel
theorem dX9_line_18 : decode cX9_line 18 = .ok (.aload_n 0, 1) := by decide +kernel
theorem dX9_line_19 : decode cX9_line 19 = .ok (.getfield 33, 3) := by decide +kernel
theorem dX9_line_22 : decode cX9_line 22 = .ok (.iload_n 1, 1) := by decide +kernel
theorem dX9_line_23 : decode cX9_line 23 = .ok (.invokevirtual 176, 3) := by decide +kernel
theorem dX9_line_26 : decode cX9_line 26 = .ok (.ireturn, 1) := by decide +kernel
theorem dX9_counts_0 : decode cX9_counts 0 = .ok (.aload_n 0, 1) := by decide +kernel
theorem dX9_counts_1 : decode cX9_counts 1 = .ok (.getfield 12, 3) := by decide +kernel
theorem dX9_counts_4 : decode cX9_counts 4 = .ok (.iload_n 1, 1) := by decide +kernel
theorem dX9_counts_5 : decode cX9_counts 5 = .ok (.invokevirtual 142, 3) := by decide +kernel
theorem dX9_counts_8 : decode cX9_counts 8 = .ok (.ifCond .ne 6, 3) := by decide +kernel
theorem dX9_counts_11 : decode cX9_counts 11 = .ok (.bipush (-2), 2) := by decide +kernel
theorem dX9_counts_13 : decode cX9_counts 13 = .ok (.ireturn, 1) := by decide +kernel
theorem dX9_counts_14 : decode cX9_counts 14 = .ok (.aload_n 0, 1) := by decide +kernel
theorem dX9_counts_15 : decode cX9_counts 15 = .ok (.getfield 12, 3) := by decide +kernel
theorem dX9_counts_18 : decode cX9_counts 18 = .ok (.iload_n 1, 1) := by decide +kernel
theorem dX9_counts_19 : decode cX9_counts 19 = .ok (.aload_n 0, 1) := by decide +kernel
theorem dX9_counts_20 : decode cX9_counts 20 = .ok (.getfield 33, 3) := by decide +kernel
theorem dX9_counts_23 : decode cX9_counts 23 = .ok (.invokevirtual 170, 3) := by decide +kernel
theorem dX9_counts_26 : decode cX9_counts 26 = .ok (.ireturn, 1) := by decide +kernel
theorem dX9_scans_0 : decode cX9_scans 0 = .ok (.aload_n 0, 1) := by decide +kernel
theorem dX9_scans_1 : decode cX9_scans 1 = .ok (.getfield 12, 3) := by decide +kernel
theorem dX9_scans_4 : decode cX9_scans 4 = .ok (.aload_n 0, 1) := by decide +kernel
theorem dX9_scans_5 : decode cX9_scans 5 = .ok (.getfield 33, 3) := by decide +kernel
theorem dX9_scans_8 : decode cX9_scans 8 = .ok (.invokevirtual 179, 3) := by decide +kernel
theorem dX9_scans_11 : decode cX9_scans 11 = .ok (.ifCond .eq 7, 3) := by decide +kernel
theorem dX9_scans_14 : decode cX9_scans 14 = .ok (.iconst 1, 1) := by decide +kernel
theorem dX9_scans_15 : decode cX9_scans 15 = .ok (.goto 4, 3) := by decide +kernel
theorem dX9_scans_18 : decode cX9_scans 18 = .ok (.iconst 0, 1) := by decide +kernel
theorem dX9_scans_19 : decode cX9_scans 19 = .ok (.ireturn, 1) := by decide +kernel
theorem dX9_passes_0 : decode cX9_passes 0 = .ok (.aload_n 0, 1) := by decide +kernel
theorem dX9_passes_1 : decode cX9_passes 1 = .ok (.iload_n 1, 1) := by decide +kernel
theorem dX9_passes_2 : decode cX9_passes 2 = .ok (.iload_n 2, 1) := by decide +kernel
theorem dX9_passes_3 : decode cX9_passes 3 = .ok (.invokevirtual 183, 3) := by decide +kernel
theorem dX9_passes_6 : decode cX9_passes 6 = .ok (.ifCond .ne 6, 3) := by decide +kernel
theorem dX9_passes_9 : decode cX9_passes 9 = .ok (.bipush (-2), 2) := by decide +kernel
theorem dX9_passes_11 : decode cX9_passes 11 = .ok (.ireturn, 1) := by decide +kernel
theorem dX9_passes_12 : decode cX9_passes 12 = .ok (.aload_n 0, 1) := by decide +kernel
theorem dX9_passes_13 : decode cX9_passes 13 = .ok (.getfield 12, 3) := by decide +kernel
theorem dX9_passes_16 : decode cX9_passes 16 = .ok (.aload_n 0, 1) := by decide +kernel
theorem dX9_passes_17 : decode cX9_passes 17 = .ok (.getfield 33, 3) := by decide +kernel
theorem dX9_passes_20 : decode cX9_passes 20 = .ok (.iload_n 1, 1) := by decide +kernel
theorem dX9_passes_21 : decode cX9_passes 21 = .ok (.iload_n 2, 1) := by decide +kernel
theorem dX9_passes_22 : decode cX9_passes 22 = .ok (.invokevirtual 186, 3) := by decide +kernel
theorem dX9_passes_25 : decode cX9_passes 25 = .ok (.ifCond .eq 7, 3) := by decide +kernel
theorem dX9_passes_28 : decode cX9_passes 28 = .ok (.iconst 1, 1) := by decide +kernel
theorem dX9_passes_29 : decode cX9_passes 29 = .ok (.goto 4, 3) := by decide +kernel
theorem dX9_passes_32 : decode cX9_passes 32 = .ok (.iconst 0, 1) := by decide +kernel
theorem dX9_passes_33 : decode cX9_passes 33 = .ok (.ireturn, 1) := by decide +kernel
theorem dX9_declare_0 : decode cX9_declare 0 = .ok (.aload_n 0, 1) := by decide +kernel
theorem dX9_declare_1 : decode cX9_declare 1 = .ok (.iload_n 1, 1) := by decide +kernel
theorem dX9_declare_2 : decode cX9_declare 2 = .ok (.iload_n 2, 1) := by decide +kernel
theorem dX9_declare_3 : decode cX9_declare 3 = .ok (.invokevirtual 183, 3) := by decide +kernel
theorem dX9_declare_6 : decode cX9_declare 6 = .ok (.ifCond .ne 6, 3) := by decide +kernel
theorem dX9_declare_9 : decode cX9_declare 9 = .ok (.bipush (-2), 2) := by decide +kernel
theorem dX9_declare_11 : decode cX9_declare 11 = .ok (.ireturn, 1) := by decide +kernel
theorem dX9_declare_12 : decode cX9_declare 12 = .ok (.aload_n 0, 1) := by decide +kernel
theorem dX9_declare_13 : decode cX9_declare 13 = .ok (.getfield 26, 3) := by decide +kernel
theorem dX9_declare_16 : decode cX9_declare 16 = .ok (.iload_n 1, 1) := by decide +kernel
theorem dX9_declare_17 : decode cX9_declare 17 = .ok (.invokevirtual 139, 3) := by decide +kernel
theorem dX9_declare_20 : decode cX9_declare 20 = .ok (.ifCond .eq 6, 3) := by decide +kernel
theorem dX9_declare_23 : decode cX9_declare 23 = .ok (.bipush (-4), 2) := by decide +kernel
theorem dX9_declare_25 : decode cX9_declare 25 = .ok (.ireturn, 1) := by decide +kernel
theorem dX9_declare_26 : decode cX9_declare 26 = .ok (.aload_n 0, 1) := by decide +kernel
theorem dX9_declare_27 : decode cX9_declare 27 = .ok (.getfield 26, 3) := by decide +kernel
theorem dX9_declare_30 : decode cX9_declare 30 = .ok (.invokevirtual 190, 3) := by decide +kernel
theorem dX9_declare_33 : decode cX9_declare 33 = .ok (.ifCond .eq 6, 3) := by decide +kernel
theorem dX9_declare_36 : decode cX9_declare 36 = .ok (.bipush (-5), 2) := by decide +kernel
theorem dX9_declare_38 : decode cX9_declare 38 = .ok (.ireturn, 1) := by decide +kernel
theorem dX9_declare_39 : decode cX9_declare 39 = .ok (.aload_n 0, 1) := by decide +kernel
theorem dX9_declare_40 : decode cX9_declare 40 = .ok (.getfield 26, 3) := by decide +kernel
theorem dX9_declare_43 : decode cX9_declare 43 = .ok (.invokevirtual 194, 3) := by decide +kernel
theorem dX9_declare_46 : decode cX9_declare 46 = .ok (.aload_n 0, 1) := by decide +kernel
theorem dX9_declare_47 : decode cX9_declare 47 = .ok (.getfield 12, 3) := by decide +kernel
theorem dX9_declare_50 : decode cX9_declare 50 = .ok (.aload_n 0, 1) := by decide +kernel
theorem dX9_declare_51 : decode cX9_declare 51 = .ok (.getfield 33, 3) := by decide +kernel
theorem dX9_declare_54 : decode cX9_declare 54 = .ok (.invokevirtual 197, 3) := by decide +kernel
theorem dX9_declare_57 : decode cX9_declare 57 = .ok (.invokevirtual 200, 3) := by decide +kernel
theorem dX9_declare_60 : decode cX9_declare 60 = .ok (.istore_n 3, 1) := by decide +kernel
theorem dX9_declare_61 : decode cX9_declare 61 = .ok (.aload_n 0, 1) := by decide +kernel
theorem dX9_declare_62 : decode cX9_declare 62 = .ok (.getfield 12, 3) := by decide +kernel
theorem dX9_declare_65 : decode cX9_declare 65 = .ok (.aload_n 0, 1) := by decide +kernel
theorem dX9_declare_66 : decode cX9_declare 66 = .ok (.getfield 33, 3) := by decide +kernel
theorem dX9_declare_69 : decode cX9_declare 69 = .ok (.iload_n 1, 1) := by decide +kernel
theorem dX9_declare_70 : decode cX9_declare 70 = .ok (.iload_n 2, 1) := by decide +kernel
theorem dX9_declare_71 : decode cX9_declare 71 = .ok (.invokevirtual 186, 3) := by decide +kernel
theorem dX9_declare_74 : decode cX9_declare 74 = .ok (.ifCond .eq 22, 3) := by decide +kernel
theorem dX9_declare_77 : decode cX9_declare 77 = .ok (.aload_n 0, 1) := by decide +kernel
theorem dX9_declare_78 : decode cX9_declare 78 = .ok (.getfield 12, 3) := by decide +kernel
theorem dX9_declare_81 : decode cX9_declare 81 = .ok (.iload_n 3, 1) := by decide +kernel
theorem dX9_declare_82 : decode cX9_declare 82 = .ok (.aload_n 0, 1) := by decide +kernel
theorem dX9_declare_83 : decode cX9_declare 83 = .ok (.getfield 26, 3) := by decide +kernel
theorem dX9_declare_86 : decode cX9_declare 86 = .ok (.iload_n 3, 1) := by decide +kernel
theorem dX9_declare_87 : decode cX9_declare 87 = .ok (.invokevirtual 148, 3) := by decide +kernel
theorem dX9_declare_90 : decode cX9_declare 90 = .ok (.invokevirtual 203, 3) := by decide +kernel
theorem dX9_declare_93 : decode cX9_declare 93 = .ok (.ifCond .eq 14, 3) := by decide +kernel
theorem dX9_declare_96 : decode cX9_declare 96 = .ok (.aload_n 0, 1) := by decide +kernel
theorem dX9_declare_97 : decode cX9_declare 97 = .ok (.getfield 26, 3) := by decide +kernel
theorem dX9_declare_100 : decode cX9_declare 100 = .ok (.iload_n 1, 1) := by decide +kernel
theorem dX9_declare_101 : decode cX9_declare 101 = .ok (.iconst 2, 1) := by decide +kernel
theorem dX9_declare_102 : decode cX9_declare 102 = .ok (.iconst 0, 1) := by decide +kernel
theorem dX9_declare_103 : decode cX9_declare 103 = .ok (.invokevirtual 206, 3) := by decide +kernel
theorem dX9_declare_106 : decode cX9_declare 106 = .ok (.ireturn, 1) := by decide +kernel
theorem dX9_declare_107 : decode cX9_declare 107 = .ok (.aload_n 0, 1) := by decide +kernel
theorem dX9_declare_108 : decode cX9_declare 108 = .ok (.getfield 26, 3) := by decide +kernel
theorem dX9_declare_111 : decode cX9_declare 111 = .ok (.iload_n 3, 1) := by decide +kernel
theorem dX9_declare_112 : decode cX9_declare 112 = .ok (.invokevirtual 210, 3) := by decide +kernel
theorem dX9_declare_115 : decode cX9_declare 115 = .ok (.aload_n 0, 1) := by decide +kernel
theorem dX9_declare_116 : decode cX9_declare 116 = .ok (.getfield 26, 3) := by decide +kernel
theorem dX9_declare_119 : decode cX9_declare 119 = .ok (.iload_n 1, 1) := by decide +kernel
theorem dX9_declare_120 : decode cX9_declare 120 = .ok (.iconst 1, 1) := by decide +kernel
theorem dX9_declare_121 : decode cX9_declare 121 = .ok (.aload_n 0, 1) := by decide +kernel
theorem dX9_declare_122 : decode cX9_declare 122 = .ok (.getfield 12, 3) := by decide +kernel
theorem dX9_declare_125 : decode cX9_declare 125 = .ok (.getfield 133, 3) := by decide +kernel
theorem dX9_declare_128 : decode cX9_declare 128 = .ok (.iload_n 1, 1) := by decide +kernel
theorem dX9_declare_129 : decode cX9_declare 129 = .ok (.invokestatic 117, 3) := by decide +kernel
theorem dX9_declare_132 : decode cX9_declare 132 = .ok (.invokevirtual 206, 3) := by decide +kernel
theorem dX9_declare_135 : decode cX9_declare 135 = .ok (.ireturn, 1) := by decide +kernel
theorem dX9_prose_0 : decode cX9_prose 0 = .ok (.aload_n 0, 1) := by decide +kernel
theorem dX9_prose_1 : decode cX9_prose 1 = .ok (.getfield 12, 3) := by decide +kernel
theorem dX9_prose_4 : decode cX9_prose 4 = .ok (.iload_n 1, 1) := by decide +kernel
theorem dX9_prose_5 : decode cX9_prose 5 = .ok (.invokevirtual 130, 3) := by decide +kernel
theorem dX9_prose_8 : decode cX9_prose 8 = .ok (.ifCond .ne 6, 3) := by decide +kernel
theorem dX9_prose_11 : decode cX9_prose 11 = .ok (.bipush (-2), 2) := by decide +kernel
theorem dX9_prose_13 : decode cX9_prose 13 = .ok (.ireturn, 1) := by decide +kernel
theorem dX9_prose_14 : decode cX9_prose 14 = .ok (.aload_n 0, 1) := by decide +kernel
theorem dX9_prose_15 : decode cX9_prose 15 = .ok (.getfield 26, 3) := by decide +kernel
theorem dX9_prose_18 : decode cX9_prose 18 = .ok (.iload_n 1, 1) := by decide +kernel
theorem dX9_prose_19 : decode cX9_prose 19 = .ok (.invokevirtual 139, 3) := by decide +kernel
theorem dX9_prose_22 : decode cX9_prose 22 = .ok (.ifCond .eq 6, 3) := by decide +kernel
theorem dX9_prose_25 : decode cX9_prose 25 = .ok (.bipush (-4), 2) := by decide +kernel
theorem dX9_prose_27 : decode cX9_prose 27 = .ok (.ireturn, 1) := by decide +kernel
theorem dX9_prose_28 : decode cX9_prose 28 = .ok (.aload_n 0, 1) := by decide +kernel
theorem dX9_prose_29 : decode cX9_prose 29 = .ok (.getfield 26, 3) := by decide +kernel
theorem dX9_prose_32 : decode cX9_prose 32 = .ok (.invokevirtual 190, 3) := by decide +kernel
theorem dX9_prose_35 : decode cX9_prose 35 = .ok (.ifCond .eq 6, 3) := by decide +kernel
theorem dX9_prose_38 : decode cX9_prose 38 = .ok (.bipush (-5), 2) := by decide +kernel
theorem dX9_prose_40 : decode cX9_prose 40 = .ok (.ireturn, 1) := by decide +kernel
theorem dX9_prose_41 : decode cX9_prose 41 = .ok (.aload_n 0, 1) := by decide +kernel
theorem dX9_prose_42 : decode cX9_prose 42 = .ok (.getfield 26, 3) := by decide +kernel
theorem dX9_prose_45 : decode cX9_prose 45 = .ok (.invokevirtual 194, 3) := by decide +kernel
theorem dX9_prose_48 : decode cX9_prose 48 = .ok (.aload_n 0, 1) := by decide +kernel
theorem dX9_prose_49 : decode cX9_prose 49 = .ok (.getfield 26, 3) := by decide +kernel
theorem dX9_prose_52 : decode cX9_prose 52 = .ok (.iload_n 1, 1) := by decide +kernel
theorem dX9_prose_53 : decode cX9_prose 53 = .ok (.iconst 3, 1) := by decide +kernel
theorem dX9_prose_54 : decode cX9_prose 54 = .ok (.iconst 3, 1) := by decide +kernel
theorem dX9_prose_55 : decode cX9_prose 55 = .ok (.aload_n 0, 1) := by decide +kernel
theorem dX9_prose_56 : decode cX9_prose 56 = .ok (.getfield 12, 3) := by decide +kernel
theorem dX9_prose_59 : decode cX9_prose 59 = .ok (.getfield 133, 3) := by decide +kernel
theorem dX9_prose_62 : decode cX9_prose 62 = .ok (.iload_n 1, 1) := by decide +kernel
theorem dX9_prose_63 : decode cX9_prose 63 = .ok (.invokestatic 117, 3) := by decide +kernel
theorem dX9_prose_66 : decode cX9_prose 66 = .ok (.imul, 1) := by decide +kernel
theorem dX9_prose_67 : decode cX9_prose 67 = .ok (.invokevirtual 206, 3) := by decide +kernel
theorem dX9_prose_70 : decode cX9_prose 70 = .ok (.ireturn, 1) := by decide +kernel
theorem dX9_day_0 : decode cX9_day 0 = .ok (.aload_n 0, 1) := by decide +kernel
theorem dX9_day_1 : decode cX9_day 1 = .ok (.getfield 26, 3) := by decide +kernel
theorem dX9_day_4 : decode cX9_day 4 = .ok (.invokevirtual 190, 3) := by decide +kernel
theorem dX9_day_7 : decode cX9_day 7 = .ok (.ifCond .eq 6, 3) := by decide +kernel
theorem dX9_day_10 : decode cX9_day 10 = .ok (.bipush (-5), 2) := by decide +kernel
theorem dX9_day_12 : decode cX9_day 12 = .ok (.ireturn, 1) := by decide +kernel
theorem dX9_day_13 : decode cX9_day 13 = .ok (.aload_n 0, 1) := by decide +kernel
theorem dX9_day_14 : decode cX9_day 14 = .ok (.getfield 26, 3) := by decide +kernel
theorem dX9_day_17 : decode cX9_day 17 = .ok (.invokevirtual 194, 3) := by decide +kernel
theorem dX9_day_20 : decode cX9_day 20 = .ok (.aload_n 0, 1) := by decide +kernel
theorem dX9_day_21 : decode cX9_day 21 = .ok (.getfield 26, 3) := by decide +kernel
theorem dX9_day_24 : decode cX9_day 24 = .ok (.invokevirtual 214, 3) := by decide +kernel
theorem dX9_day_27 : decode cX9_day 27 = .ok (.ireturn, 1) := by decide +kernel
theorem dX9_undo_0 : decode cX9_undo 0 = .ok (.aload_n 0, 1) := by decide +kernel
theorem dX9_undo_1 : decode cX9_undo 1 = .ok (.getfield 26, 3) := by decide +kernel
theorem dX9_undo_4 : decode cX9_undo 4 = .ok (.getfield 217, 3) := by decide +kernel
theorem dX9_undo_7 : decode cX9_undo 7 = .ok (.ifCond .ne 6, 3) := by decide +kernel
theorem dX9_undo_10 : decode cX9_undo 10 = .ok (.bipush (-4), 2) := by decide +kernel
theorem dX9_undo_12 : decode cX9_undo 12 = .ok (.ireturn, 1) := by decide +kernel
theorem dX9_undo_13 : decode cX9_undo 13 = .ok (.aload_n 0, 1) := by decide +kernel
theorem dX9_undo_14 : decode cX9_undo 14 = .ok (.getfield 26, 3) := by decide +kernel
theorem dX9_undo_17 : decode cX9_undo 17 = .ok (.invokevirtual 220, 3) := by decide +kernel
theorem dX9_undo_20 : decode cX9_undo 20 = .ok (.ireturn, 1) := by decide +kernel
theorem dX9_keep_0 : decode cX9_keep 0 = .ok (.iload_n 1, 1) := by decide +kernel
theorem dX9_keep_1 : decode cX9_keep 1 = .ok (.ifCond .lt 8, 3) := by decide +kernel
theorem dX9_keep_4 : decode cX9_keep 4 = .ok (.iload_n 1, 1) := by decide +kernel
theorem dX9_keep_5 : decode cX9_keep 5 = .ok (.iconst 2, 1) := by decide +kernel
theorem dX9_keep_6 : decode cX9_keep 6 = .ok (.if_icmp .lt 6, 3) := by decide +kernel
theorem dX9_keep_9 : decode cX9_keep 9 = .ok (.bipush (-2), 2) := by decide +kernel
theorem dX9_keep_11 : decode cX9_keep 11 = .ok (.ireturn, 1) := by decide +kernel
theorem dX9_keep_12 : decode cX9_keep 12 = .ok (.aload_n 0, 1) := by decide +kernel
theorem dX9_keep_13 : decode cX9_keep 13 = .ok (.getfield 26, 3) := by decide +kernel
theorem dX9_keep_16 : decode cX9_keep 16 = .ok (.iload_n 1, 1) := by decide +kernel
theorem dX9_keep_17 : decode cX9_keep 17 = .ok (.invokevirtual 223, 3) := by decide +kernel
theorem dX9_keep_20 : decode cX9_keep 20 = .ok (.ireturn, 1) := by decide +kernel
theorem dX9_back_0 : decode cX9_back 0 = .ok (.iload_n 1, 1) := by decide +kernel
theorem dX9_back_1 : decode cX9_back 1 = .ok (.ifCond .lt 8, 3) := by decide +kernel
theorem dX9_back_4 : decode cX9_back 4 = .ok (.iload_n 1, 1) := by decide +kernel
theorem dX9_back_5 : decode cX9_back 5 = .ok (.iconst 2, 1) := by decide +kernel
theorem dX9_back_6 : decode cX9_back 6 = .ok (.if_icmp .lt 6, 3) := by decide +kernel
theorem dX9_back_9 : decode cX9_back 9 = .ok (.bipush (-2), 2) := by decide +kernel
theorem dX9_back_11 : decode cX9_back 11 = .ok (.ireturn, 1) := by decide +kernel
theorem dX9_back_12 : decode cX9_back 12 = .ok (.aload_n 0, 1) := by decide +kernel
theorem dX9_back_13 : decode cX9_back 13 = .ok (.getfield 26, 3) := by decide +kernel
theorem dX9_back_16 : decode cX9_back 16 = .ok (.iload_n 1, 1) := by decide +kernel
theorem dX9_back_17 : decode cX9_back 17 = .ok (.invokevirtual 226, 3) := by decide +kernel
theorem dX9_back_20 : decode cX9_back 20 = .ok (.ifCond .ne 6, 3) := by decide +kernel
theorem dX9_back_23 : decode cX9_back 23 = .ok (.bipush (-4), 2) := by decide +kernel
theorem dX9_back_25 : decode cX9_back 25 = .ok (.ireturn, 1) := by decide +kernel
theorem dX9_back_26 : decode cX9_back 26 = .ok (.aload_n 0, 1) := by decide +kernel
theorem dX9_back_27 : decode cX9_back 27 = .ok (.getfield 26, 3) := by decide +kernel
theorem dX9_back_30 : decode cX9_back 30 = .ok (.iload_n 1, 1) := by decide +kernel
theorem dX9_back_31 : decode cX9_back 31 = .ok (.invokevirtual 229, 3) := by decide +kernel
theorem dX9_back_34 : decode cX9_back 34 = .ok (.ireturn, 1) := by decide +kernel
theorem dX9_shortest_0 : decode cX9_shortest 0 = .ok (.aload_n 0, 1) := by decide +kernel
theorem dX9_shortest_1 : decode cX9_shortest 1 = .ok (.iload_n 1, 1) := by decide +kernel
theorem dX9_shortest_2 : decode cX9_shortest 2 = .ok (.iload_n 2, 1) := by decide +kernel
theorem dX9_shortest_3 : decode cX9_shortest 3 = .ok (.invokevirtual 183, 3) := by decide +kernel
theorem dX9_shortest_6 : decode cX9_shortest 6 = .ok (.ifCond .ne 6, 3) := by decide +kernel
theorem dX9_shortest_9 : decode cX9_shortest 9 = .ok (.bipush (-2), 2) := by decide +kernel
theorem dX9_shortest_11 : decode cX9_shortest 11 = .ok (.ireturn, 1) := by decide +kernel
theorem dX9_shortest_12 : decode cX9_shortest 12 = .ok (.iload_n 3, 1) := by decide +kernel
theorem dX9_shortest_13 : decode cX9_shortest 13 = .ok (.ifCond .lt 8, 3) := by decide +kernel
theorem dX9_shortest_16 : decode cX9_shortest 16 = .ok (.iload_n 3, 1) := by decide +kernel
theorem dX9_shortest_17 : decode cX9_shortest 17 = .ok (.iconst 1, 1) := by decide +kernel
theorem dX9_shortest_18 : decode cX9_shortest 18 = .ok (.if_icmp .le 6, 3) := by decide +kernel
theorem dX9_shortest_21 : decode cX9_shortest 21 = .ok (.bipush (-3), 2) := by decide +kernel
theorem dX9_shortest_23 : decode cX9_shortest 23 = .ok (.ireturn, 1) := by decide +kernel
theorem dX9_shortest_24 : decode cX9_shortest 24 = .ok (.aload_n 0, 1) := by decide +kernel
theorem dX9_shortest_25 : decode cX9_shortest 25 = .ok (.getfield 42, 3) := by decide +kernel
theorem dX9_shortest_28 : decode cX9_shortest 28 = .ok (.iload_n 1, 1) := by decide +kernel
theorem dX9_shortest_29 : decode cX9_shortest 29 = .ok (.iload_n 2, 1) := by decide +kernel
theorem dX9_shortest_30 : decode cX9_shortest 30 = .ok (.invokevirtual 232, 3) := by decide +kernel
theorem dX9_shortest_33 : decode cX9_shortest 33 = .ok (.aload_n 0, 1) := by decide +kernel
theorem dX9_shortest_34 : decode cX9_shortest 34 = .ok (.iload_n 3, 1) := by decide +kernel
theorem dX9_shortest_35 : decode cX9_shortest 35 = .ok (.invokevirtual 236, 3) := by decide +kernel
theorem dX9_shortest_38 : decode cX9_shortest 38 = .ok (.ireturn, 1) := by decide +kernel
theorem dX9_shortestWord_0 : decode cX9_shortestWord 0 = .ok (.aload_n 0, 1) := by decide +kernel
theorem dX9_shortestWord_1 : decode cX9_shortestWord 1 = .ok (.iload_n 1, 1) := by decide +kernel
theorem dX9_shortestWord_2 : decode cX9_shortestWord 2 = .ok (.iload_n 2, 1) := by decide +kernel
theorem dX9_shortestWord_3 : decode cX9_shortestWord 3 = .ok (.invokevirtual 183, 3) := by decide +kernel
theorem dX9_shortestWord_6 : decode cX9_shortestWord 6 = .ok (.ifCond .ne 6, 3) := by decide +kernel
theorem dX9_shortestWord_9 : decode cX9_shortestWord 9 = .ok (.bipush (-2), 2) := by decide +kernel
theorem dX9_shortestWord_11 : decode cX9_shortestWord 11 = .ok (.ireturn, 1) := by decide +kernel
theorem dX9_shortestWord_12 : decode cX9_shortestWord 12 = .ok (.iload_n 3, 1) := by decide +kernel
theorem dX9_shortestWord_13 : decode cX9_shortestWord 13 = .ok (.ifCond .ge 6, 3) := by decide +kernel
theorem dX9_shortestWord_16 : decode cX9_shortestWord 16 = .ok (.bipush (-3), 2) := by decide +kernel
theorem dX9_shortestWord_18 : decode cX9_shortestWord 18 = .ok (.ireturn, 1) := by decide +kernel
theorem dX9_shortestWord_19 : decode cX9_shortestWord 19 = .ok (.aload_n 0, 1) := by decide +kernel
theorem dX9_shortestWord_20 : decode cX9_shortestWord 20 = .ok (.getfield 42, 3) := by decide +kernel
theorem dX9_shortestWord_23 : decode cX9_shortestWord 23 = .ok (.iload_n 1, 1) := by decide +kernel
theorem dX9_shortestWord_24 : decode cX9_shortestWord 24 = .ok (.iload_n 2, 1) := by decide +kernel
theorem dX9_shortestWord_25 : decode cX9_shortestWord 25 = .ok (.invokevirtual 232, 3) := by decide +kernel
theorem dX9_shortestWord_28 : decode cX9_shortestWord 28 = .ok (.aload_n 0, 1) := by decide +kernel
theorem dX9_shortestWord_29 : decode cX9_shortestWord 29 = .ok (.getfield 51, 3) := by decide +kernel
theorem dX9_shortestWord_32 : decode cX9_shortestWord 32 = .ok (.aload_n 0, 1) := by decide +kernel
theorem dX9_shortestWord_33 : decode cX9_shortestWord 33 = .ok (.getfield 51, 3) := by decide +kernel
theorem dX9_shortestWord_36 : decode cX9_shortestWord 36 = .ok (.invokevirtual 239, 3) := by decide +kernel
theorem dX9_shortestWord_39 : decode cX9_shortestWord 39 = .ok (.invokevirtual 242, 3) := by decide +kernel
theorem dX9_shortestWord_42 : decode cX9_shortestWord 42 = .ok (.aload_n 0, 1) := by decide +kernel
theorem dX9_shortestWord_43 : decode cX9_shortestWord 43 = .ok (.getfield 51, 3) := by decide +kernel
theorem dX9_shortestWord_46 : decode cX9_shortestWord 46 = .ok (.getfield 245, 3) := by decide +kernel
theorem dX9_shortestWord_49 : decode cX9_shortestWord 49 = .ok (.iload_n 3, 1) := by decide +kernel
theorem dX9_shortestWord_50 : decode cX9_shortestWord 50 = .ok (.invokevirtual 176, 3) := by decide +kernel
theorem dX9_shortestWord_53 : decode cX9_shortestWord 53 = .ok (.ireturn, 1) := by decide +kernel
theorem dX9_forAll_0 : decode cX9_forAll 0 = .ok (.aload_n 0, 1) := by decide +kernel
theorem dX9_forAll_1 : decode cX9_forAll 1 = .ok (.getfield 12, 3) := by decide +kernel
theorem dX9_forAll_4 : decode cX9_forAll 4 = .ok (.iload_n 1, 1) := by decide +kernel
theorem dX9_forAll_5 : decode cX9_forAll 5 = .ok (.invokevirtual 130, 3) := by decide +kernel
theorem dX9_forAll_8 : decode cX9_forAll 8 = .ok (.ifCond .ne 6, 3) := by decide +kernel
theorem dX9_forAll_11 : decode cX9_forAll 11 = .ok (.bipush (-2), 2) := by decide +kernel
theorem dX9_forAll_13 : decode cX9_forAll 13 = .ok (.ireturn, 1) := by decide +kernel
theorem dX9_forAll_14 : decode cX9_forAll 14 = .ok (.iload_n 2, 1) := by decide +kernel
theorem dX9_forAll_15 : decode cX9_forAll 15 = .ok (.ifCond .lt 8, 3) := by decide +kernel
theorem dX9_forAll_18 : decode cX9_forAll 18 = .ok (.iload_n 2, 1) := by decide +kernel
theorem dX9_forAll_19 : decode cX9_forAll 19 = .ok (.iconst 1, 1) := by decide +kernel
theorem dX9_forAll_20 : decode cX9_forAll 20 = .ok (.if_icmp .le 6, 3) := by decide +kernel
theorem dX9_forAll_23 : decode cX9_forAll 23 = .ok (.bipush (-3), 2) := by decide +kernel
theorem dX9_forAll_25 : decode cX9_forAll 25 = .ok (.ireturn, 1) := by decide +kernel
theorem dX9_forAll_26 : decode cX9_forAll 26 = .ok (.aload_n 0, 1) := by decide +kernel
theorem dX9_forAll_27 : decode cX9_forAll 27 = .ok (.getfield 12, 3) := by decide +kernel
theorem dX9_forAll_30 : decode cX9_forAll 30 = .ok (.getfield 248, 3) := by decide +kernel
theorem dX9_forAll_33 : decode cX9_forAll 33 = .ok (.ifCond .ne 6, 3) := by decide +kernel
theorem dX9_forAll_36 : decode cX9_forAll 36 = .ok (.bipush (-4), 2) := by decide +kernel
theorem dX9_forAll_38 : decode cX9_forAll 38 = .ok (.ireturn, 1) := by decide +kernel
theorem dX9_forAll_39 : decode cX9_forAll 39 = .ok (.aload_n 0, 1) := by decide +kernel
theorem dX9_forAll_40 : decode cX9_forAll 40 = .ok (.getfield 42, 3) := by decide +kernel
theorem dX9_forAll_43 : decode cX9_forAll 43 = .ok (.iload_n 1, 1) := by decide +kernel
theorem dX9_forAll_44 : decode cX9_forAll 44 = .ok (.invokevirtual 251, 3) := by decide +kernel
theorem dX9_forAll_47 : decode cX9_forAll 47 = .ok (.aload_n 0, 1) := by decide +kernel
theorem dX9_forAll_48 : decode cX9_forAll 48 = .ok (.iload_n 2, 1) := by decide +kernel
theorem dX9_forAll_49 : decode cX9_forAll 49 = .ok (.invokevirtual 236, 3) := by decide +kernel
theorem dX9_forAll_52 : decode cX9_forAll 52 = .ok (.ireturn, 1) := by decide +kernel
theorem dX9_hidden_0 : decode cX9_hidden 0 = .ok (.iload_n 1, 1) := by decide +kernel
theorem dX9_hidden_1 : decode cX9_hidden 1 = .ok (.iconst 1, 1) := by decide +kernel
theorem dX9_hidden_2 : decode cX9_hidden 2 = .ok (.if_icmp .lt 8, 3) := by decide +kernel
theorem dX9_hidden_5 : decode cX9_hidden 5 = .ok (.iload_n 1, 1) := by decide +kernel
theorem dX9_hidden_6 : decode cX9_hidden 6 = .ok (.iconst 4, 1) := by decide +kernel
theorem dX9_hidden_7 : decode cX9_hidden 7 = .ok (.if_icmp .le 6, 3) := by decide +kernel
theorem dX9_hidden_10 : decode cX9_hidden 10 = .ok (.bipush (-3), 2) := by decide +kernel
theorem dX9_hidden_12 : decode cX9_hidden 12 = .ok (.ireturn, 1) := by decide +kernel
theorem dX9_hidden_13 : decode cX9_hidden 13 = .ok (.aload_n 0, 1) := by decide +kernel
theorem dX9_hidden_14 : decode cX9_hidden 14 = .ok (.getfield 58, 3) := by decide +kernel
theorem dX9_hidden_17 : decode cX9_hidden 17 = .ok (.iload_n 1, 1) := by decide +kernel
theorem dX9_hidden_18 : decode cX9_hidden 18 = .ok (.invokevirtual 254, 3) := by decide +kernel
theorem dX9_hidden_21 : decode cX9_hidden 21 = .ok (.ireturn, 1) := by decide +kernel
theorem dX9_altered_0 : decode cX9_altered 0 = .ok (.aload_n 0, 1) := by decide +kernel
theorem dX9_altered_1 : decode cX9_altered 1 = .ok (.iload_n 1, 1) := by decide +kernel
theorem dX9_altered_2 : decode cX9_altered 2 = .ok (.iload_n 2, 1) := by decide +kernel
theorem dX9_altered_3 : decode cX9_altered 3 = .ok (.invokevirtual 183, 3) := by decide +kernel
theorem dX9_altered_6 : decode cX9_altered 6 = .ok (.ifCond .ne 6, 3) := by decide +kernel
theorem dX9_altered_9 : decode cX9_altered 9 = .ok (.bipush (-2), 2) := by decide +kernel
theorem dX9_altered_11 : decode cX9_altered 11 = .ok (.ireturn, 1) := by decide +kernel
theorem dX9_altered_12 : decode cX9_altered 12 = .ok (.iload_n 3, 1) := by decide +kernel
theorem dX9_altered_13 : decode cX9_altered 13 = .ok (.iconst (-1), 1) := by decide +kernel
theorem dX9_altered_14 : decode cX9_altered 14 = .ok (.if_icmp .ge 6, 3) := by decide +kernel
theorem dX9_altered_17 : decode cX9_altered 17 = .ok (.bipush (-3), 2) := by decide +kernel
theorem dX9_altered_19 : decode cX9_altered 19 = .ok (.ireturn, 1) := by decide +kernel
theorem dX9_altered_20 : decode cX9_altered 20 = .ok (.aload_n 0, 1) := by decide +kernel
theorem dX9_altered_21 : decode cX9_altered 21 = .ok (.getfield 42, 3) := by decide +kernel
theorem dX9_altered_24 : decode cX9_altered 24 = .ok (.iload_n 1, 1) := by decide +kernel
theorem dX9_altered_25 : decode cX9_altered 25 = .ok (.iload_n 2, 1) := by decide +kernel
theorem dX9_altered_26 : decode cX9_altered 26 = .ok (.invokevirtual 232, 3) := by decide +kernel
theorem dX9_altered_29 : decode cX9_altered 29 = .ok (.aload_n 0, 1) := by decide +kernel
theorem dX9_altered_30 : decode cX9_altered 30 = .ok (.getfield 51, 3) := by decide +kernel
theorem dX9_altered_33 : decode cX9_altered 33 = .ok (.invokevirtual 257, 3) := by decide +kernel
theorem dX9_altered_36 : decode cX9_altered 36 = .ok (.istore 4, 2) := by decide +kernel
theorem dX9_altered_38 : decode cX9_altered 38 = .ok (.iload_n 3, 1) := by decide +kernel
theorem dX9_altered_39 : decode cX9_altered 39 = .ok (.iconst (-1), 1) := by decide +kernel
theorem dX9_altered_40 : decode cX9_altered 40 = .ok (.if_icmp .eq 9, 3) := by decide +kernel
theorem dX9_altered_43 : decode cX9_altered 43 = .ok (.iload 4, 2) := by decide +kernel
theorem dX9_altered_45 : decode cX9_altered 45 = .ok (.iconst (-1), 1) := by decide +kernel
theorem dX9_altered_46 : decode cX9_altered 46 = .ok (.if_icmp .ne 6, 3) := by decide +kernel
theorem dX9_altered_49 : decode cX9_altered 49 = .ok (.iload 4, 2) := by decide +kernel
theorem dX9_altered_51 : decode cX9_altered 51 = .ok (.ireturn, 1) := by decide +kernel
theorem dX9_altered_52 : decode cX9_altered 52 = .ok (.aload_n 0, 1) := by decide +kernel
theorem dX9_altered_53 : decode cX9_altered 53 = .ok (.getfield 51, 3) := by decide +kernel
theorem dX9_altered_56 : decode cX9_altered 56 = .ok (.aload_n 0, 1) := by decide +kernel
theorem dX9_altered_57 : decode cX9_altered 57 = .ok (.getfield 33, 3) := by decide +kernel
theorem dX9_altered_60 : decode cX9_altered 60 = .ok (.getfield 174, 3) := by decide +kernel
theorem dX9_altered_63 : decode cX9_altered 63 = .ok (.invokevirtual 242, 3) := by decide +kernel
theorem dX9_altered_66 : decode cX9_altered 66 = .ok (.aload_n 0, 1) := by decide +kernel
theorem dX9_altered_67 : decode cX9_altered 67 = .ok (.getfield 51, 3) := by decide +kernel
theorem dX9_altered_70 : decode cX9_altered 70 = .ok (.getfield 245, 3) := by decide +kernel
theorem dX9_altered_73 : decode cX9_altered 73 = .ok (.iload_n 3, 1) := by decide +kernel
theorem dX9_altered_74 : decode cX9_altered 74 = .ok (.invokevirtual 176, 3) := by decide +kernel
theorem dX9_altered_77 : decode cX9_altered 77 = .ok (.ireturn, 1) := by decide +kernel
theorem dX9_laden_0 : decode cX9_laden 0 = .ok (.iload_n 1, 1) := by decide +kernel
theorem dX9_laden_1 : decode cX9_laden 1 = .ok (.iconst 1, 1) := by decide +kernel
theorem dX9_laden_2 : decode cX9_laden 2 = .ok (.if_icmp .lt 18, 3) := by decide +kernel
theorem dX9_laden_5 : decode cX9_laden 5 = .ok (.iload_n 1, 1) := by decide +kernel
theorem dX9_laden_6 : decode cX9_laden 6 = .ok (.bipush 72, 2) := by decide +kernel
theorem dX9_laden_8 : decode cX9_laden 8 = .ok (.if_icmp .gt 12, 3) := by decide +kernel
theorem dX9_laden_11 : decode cX9_laden 11 = .ok (.iload_n 2, 1) := by decide +kernel
theorem dX9_laden_12 : decode cX9_laden 12 = .ok (.ifCond .lt 8, 3) := by decide +kernel
theorem dX9_laden_15 : decode cX9_laden 15 = .ok (.iload_n 2, 1) := by decide +kernel
theorem dX9_laden_16 : decode cX9_laden 16 = .ok (.iconst 2, 1) := by decide +kernel
theorem dX9_laden_17 : decode cX9_laden 17 = .ok (.if_icmp .le 6, 3) := by decide +kernel
theorem dX9_laden_20 : decode cX9_laden 20 = .ok (.bipush (-3), 2) := by decide +kernel
theorem dX9_laden_22 : decode cX9_laden 22 = .ok (.ireturn, 1) := by decide +kernel
theorem dX9_laden_23 : decode cX9_laden 23 = .ok (.aload_n 0, 1) := by decide +kernel
theorem dX9_laden_24 : decode cX9_laden 24 = .ok (.getfield 65, 3) := by decide +kernel
theorem dX9_laden_27 : decode cX9_laden 27 = .ok (.iload_n 1, 1) := by decide +kernel
theorem dX9_laden_28 : decode cX9_laden 28 = .ok (.invokevirtual 260, 3) := by decide +kernel
theorem dX9_laden_31 : decode cX9_laden 31 = .ok (.iload_n 2, 1) := by decide +kernel
theorem dX9_laden_32 : decode cX9_laden 32 = .ok (.ifCond .ne 11, 3) := by decide +kernel
theorem dX9_laden_35 : decode cX9_laden 35 = .ok (.aload_n 0, 1) := by decide +kernel
theorem dX9_laden_36 : decode cX9_laden 36 = .ok (.getfield 65, 3) := by decide +kernel
theorem dX9_laden_39 : decode cX9_laden 39 = .ok (.getfield 263, 3) := by decide +kernel
theorem dX9_laden_42 : decode cX9_laden 42 = .ok (.ireturn, 1) := by decide +kernel
theorem dX9_laden_43 : decode cX9_laden 43 = .ok (.iload_n 2, 1) := by decide +kernel
theorem dX9_laden_44 : decode cX9_laden 44 = .ok (.iconst 1, 1) := by decide +kernel
theorem dX9_laden_45 : decode cX9_laden 45 = .ok (.if_icmp .ne 13, 3) := by decide +kernel
theorem dX9_laden_48 : decode cX9_laden 48 = .ok (.aload_n 0, 1) := by decide +kernel
theorem dX9_laden_49 : decode cX9_laden 49 = .ok (.getfield 65, 3) := by decide +kernel
theorem dX9_laden_52 : decode cX9_laden 52 = .ok (.getfield 266, 3) := by decide +kernel
theorem dX9_laden_55 : decode cX9_laden 55 = .ok (.goto 10, 3) := by decide +kernel
theorem dX9_laden_58 : decode cX9_laden 58 = .ok (.aload_n 0, 1) := by decide +kernel
theorem dX9_laden_59 : decode cX9_laden 59 = .ok (.getfield 65, 3) := by decide +kernel
theorem dX9_laden_62 : decode cX9_laden 62 = .ok (.getfield 269, 3) := by decide +kernel
theorem dX9_laden_65 : decode cX9_laden 65 = .ok (.ireturn, 1) := by decide +kernel
theorem dX9_left_0 : decode cX9_left 0 = .ok (.iload_n 1, 1) := by decide +kernel
theorem dX9_left_1 : decode cX9_left 1 = .ok (.ifCond .ne 8, 3) := by decide +kernel
theorem dX9_left_4 : decode cX9_left 4 = .ok (.aload_n 0, 1) := by decide +kernel
theorem dX9_left_5 : decode cX9_left 5 = .ok (.invokevirtual 272, 3) := by decide +kernel
theorem dX9_left_8 : decode cX9_left 8 = .ok (.ireturn, 1) := by decide +kernel
theorem dX9_left_9 : decode cX9_left 9 = .ok (.iload_n 1, 1) := by decide +kernel
theorem dX9_left_10 : decode cX9_left 10 = .ok (.iconst 1, 1) := by decide +kernel
theorem dX9_left_11 : decode cX9_left 11 = .ok (.if_icmp .ne 8, 3) := by decide +kernel
theorem dX9_left_14 : decode cX9_left 14 = .ok (.aload_n 0, 1) := by decide +kernel
theorem dX9_left_15 : decode cX9_left 15 = .ok (.invokevirtual 275, 3) := by decide +kernel
theorem dX9_left_18 : decode cX9_left 18 = .ok (.ireturn, 1) := by decide +kernel
theorem dX9_left_19 : decode cX9_left 19 = .ok (.bipush (-3), 2) := by decide +kernel
theorem dX9_left_21 : decode cX9_left 21 = .ok (.ireturn, 1) := by decide +kernel
theorem dX9_odds_0 : decode cX9_odds 0 = .ok (.aload_n 0, 1) := by decide +kernel
theorem dX9_odds_1 : decode cX9_odds 1 = .ok (.iload_n 1, 1) := by decide +kernel
theorem dX9_odds_2 : decode cX9_odds 2 = .ok (.iload_n 2, 1) := by decide +kernel
theorem dX9_odds_3 : decode cX9_odds 3 = .ok (.invokevirtual 183, 3) := by decide +kernel
theorem dX9_odds_6 : decode cX9_odds 6 = .ok (.ifCond .ne 6, 3) := by decide +kernel
theorem dX9_odds_9 : decode cX9_odds 9 = .ok (.bipush (-2), 2) := by decide +kernel
theorem dX9_odds_11 : decode cX9_odds 11 = .ok (.ireturn, 1) := by decide +kernel
theorem dX9_odds_12 : decode cX9_odds 12 = .ok (.iload_n 3, 1) := by decide +kernel
theorem dX9_odds_13 : decode cX9_odds 13 = .ok (.iconst 1, 1) := by decide +kernel
theorem dX9_odds_14 : decode cX9_odds 14 = .ok (.if_icmp .lt 19, 3) := by decide +kernel
theorem dX9_odds_17 : decode cX9_odds 17 = .ok (.iload_n 3, 1) := by decide +kernel
theorem dX9_odds_18 : decode cX9_odds 18 = .ok (.iconst 4, 1) := by decide +kernel
theorem dX9_odds_19 : decode cX9_odds 19 = .ok (.if_icmp .gt 14, 3) := by decide +kernel
theorem dX9_odds_22 : decode cX9_odds 22 = .ok (.iload 4, 2) := by decide +kernel
theorem dX9_odds_24 : decode cX9_odds 24 = .ok (.ifCond .lt 9, 3) := by decide +kernel
theorem dX9_odds_27 : decode cX9_odds 27 = .ok (.iload 4, 2) := by decide +kernel
theorem dX9_odds_29 : decode cX9_odds 29 = .ok (.iconst 1, 1) := by decide +kernel
theorem dX9_odds_30 : decode cX9_odds 30 = .ok (.if_icmp .le 6, 3) := by decide +kernel
theorem dX9_odds_33 : decode cX9_odds 33 = .ok (.bipush (-3), 2) := by decide +kernel
theorem dX9_odds_35 : decode cX9_odds 35 = .ok (.ireturn, 1) := by decide +kernel
theorem dX9_odds_36 : decode cX9_odds 36 = .ok (.aload_n 0, 1) := by decide +kernel
theorem dX9_odds_37 : decode cX9_odds 37 = .ok (.getfield 12, 3) := by decide +kernel
theorem dX9_odds_40 : decode cX9_odds 40 = .ok (.getfield 278, 3) := by decide +kernel
theorem dX9_odds_43 : decode cX9_odds 43 = .ok (.ifCond .ne 6, 3) := by decide +kernel
theorem dX9_odds_46 : decode cX9_odds 46 = .ok (.bipush (-4), 2) := by decide +kernel
theorem dX9_odds_48 : decode cX9_odds 48 = .ok (.ireturn, 1) := by decide +kernel
theorem dX9_odds_49 : decode cX9_odds 49 = .ok (.aload_n 0, 1) := by decide +kernel
theorem dX9_odds_50 : decode cX9_odds 50 = .ok (.getfield 42, 3) := by decide +kernel
theorem dX9_odds_53 : decode cX9_odds 53 = .ok (.iload_n 1, 1) := by decide +kernel
theorem dX9_odds_54 : decode cX9_odds 54 = .ok (.iload_n 2, 1) := by decide +kernel
theorem dX9_odds_55 : decode cX9_odds 55 = .ok (.invokevirtual 232, 3) := by decide +kernel
theorem dX9_odds_58 : decode cX9_odds 58 = .ok (.aload_n 0, 1) := by decide +kernel
theorem dX9_odds_59 : decode cX9_odds 59 = .ok (.getfield 51, 3) := by decide +kernel
theorem dX9_odds_62 : decode cX9_odds 62 = .ok (.iload_n 3, 1) := by decide +kernel
theorem dX9_odds_63 : decode cX9_odds 63 = .ok (.invokevirtual 281, 3) := by decide +kernel
theorem dX9_odds_66 : decode cX9_odds 66 = .ok (.istore 5, 2) := by decide +kernel
theorem dX9_odds_68 : decode cX9_odds 68 = .ok (.aload_n 0, 1) := by decide +kernel
theorem dX9_odds_69 : decode cX9_odds 69 = .ok (.getfield 12, 3) := by decide +kernel
theorem dX9_odds_72 : decode cX9_odds 72 = .ok (.iload_n 3, 1) := by decide +kernel
theorem dX9_odds_73 : decode cX9_odds 73 = .ok (.invokevirtual 284, 3) := by decide +kernel
theorem dX9_odds_76 : decode cX9_odds 76 = .ok (.istore 6, 2) := by decide +kernel
theorem dX9_odds_78 : decode cX9_odds 78 = .ok (.iload 5, 2) := by decide +kernel
theorem dX9_odds_80 : decode cX9_odds 80 = .ok (.iload 6, 2) := by decide +kernel
theorem dX9_odds_82 : decode cX9_odds 82 = .ok (.invokestatic 285, 3) := by decide +kernel
theorem dX9_odds_85 : decode cX9_odds 85 = .ok (.istore 7, 2) := by decide +kernel
theorem dX9_odds_87 : decode cX9_odds 87 = .ok (.iload 7, 2) := by decide +kernel
theorem dX9_odds_89 : decode cX9_odds 89 = .ok (.ifCond .ne 5, 3) := by decide +kernel
theorem dX9_odds_92 : decode cX9_odds 92 = .ok (.iconst (-1), 1) := by decide +kernel
theorem dX9_odds_93 : decode cX9_odds 93 = .ok (.ireturn, 1) := by decide +kernel
theorem dX9_odds_94 : decode cX9_odds 94 = .ok (.iload 4, 2) := by decide +kernel
theorem dX9_odds_96 : decode cX9_odds 96 = .ok (.ifCond .ne 11, 3) := by decide +kernel
theorem dX9_odds_99 : decode cX9_odds 99 = .ok (.iload 5, 2) := by decide +kernel
theorem dX9_odds_101 : decode cX9_odds 101 = .ok (.iload 7, 2) := by decide +kernel
theorem dX9_odds_103 : decode cX9_odds 103 = .ok (.idiv, 1) := by decide +kernel
theorem dX9_odds_104 : decode cX9_odds 104 = .ok (.goto 8, 3) := by decide +kernel
theorem dX9_odds_107 : decode cX9_odds 107 = .ok (.iload 6, 2) := by decide +kernel
theorem dX9_odds_109 : decode cX9_odds 109 = .ok (.iload 7, 2) := by decide +kernel
theorem dX9_odds_111 : decode cX9_odds 111 = .ok (.idiv, 1) := by decide +kernel
theorem dX9_odds_112 : decode cX9_odds 112 = .ok (.ireturn, 1) := by decide +kernel
theorem dX9_year_0 : decode cX9_year 0 = .ok (.aload_n 0, 1) := by decide +kernel
theorem dX9_year_1 : decode cX9_year 1 = .ok (.getfield 12, 3) := by decide +kernel
theorem dX9_year_4 : decode cX9_year 4 = .ok (.getfield 248, 3) := by decide +kernel
theorem dX9_year_7 : decode cX9_year 7 = .ok (.ifCond .ne 6, 3) := by decide +kernel
theorem dX9_year_10 : decode cX9_year 10 = .ok (.bipush (-4), 2) := by decide +kernel
theorem dX9_year_12 : decode cX9_year 12 = .ok (.ireturn, 1) := by decide +kernel
theorem dX9_year_13 : decode cX9_year 13 = .ok (.iconst 0, 1) := by decide +kernel
theorem dX9_year_14 : decode cX9_year 14 = .ok (.istore_n 1, 1) := by decide +kernel
theorem dX9_year_15 : decode cX9_year 15 = .ok (.iload_n 1, 1) := by decide +kernel
theorem dX9_year_16 : decode cX9_year 16 = .ok (.bipush 6, 2) := by decide +kernel
theorem dX9_year_18 : decode cX9_year 18 = .ok (.if_icmp .ge 23, 3) := by decide +kernel
theorem dX9_year_21 : decode cX9_year 21 = .ok (.aload_n 0, 1) := by decide +kernel
theorem dX9_year_22 : decode cX9_year 22 = .ok (.getfield 76, 3) := by decide +kernel
theorem dX9_year_25 : decode cX9_year 25 = .ok (.iload_n 1, 1) := by decide +kernel
theorem dX9_year_26 : decode cX9_year 26 = .ok (.aload_n 0, 1) := by decide +kernel
theorem dX9_year_27 : decode cX9_year 27 = .ok (.getfield 26, 3) := by decide +kernel
theorem dX9_year_30 : decode cX9_year 30 = .ok (.iload_n 1, 1) := by decide +kernel
theorem dX9_year_31 : decode cX9_year 31 = .ok (.invokevirtual 148, 3) := by decide +kernel
theorem dX9_year_34 : decode cX9_year 34 = .ok (.iastore, 1) := by decide +kernel
theorem dX9_year_35 : decode cX9_year 35 = .ok (.iinc 1 1, 3) := by decide +kernel
theorem dX9_year_38 : decode cX9_year 38 = .ok (.goto (-23), 3) := by decide +kernel
theorem dX9_year_41 : decode cX9_year 41 = .ok (.iconst 0, 1) := by decide +kernel
theorem dX9_year_42 : decode cX9_year 42 = .ok (.istore_n 1, 1) := by decide +kernel
theorem dX9_year_43 : decode cX9_year 43 = .ok (.iconst 0, 1) := by decide +kernel
theorem dX9_year_44 : decode cX9_year 44 = .ok (.istore_n 2, 1) := by decide +kernel
theorem dX9_year_45 : decode cX9_year 45 = .ok (.iload_n 2, 1) := by decide +kernel
theorem dX9_year_46 : decode cX9_year 46 = .ok (.aload_n 0, 1) := by decide +kernel
theorem dX9_year_47 : decode cX9_year 47 = .ok (.getfield 12, 3) := by decide +kernel
theorem dX9_year_50 : decode cX9_year 50 = .ok (.getfield 289, 3) := by decide +kernel
theorem dX9_year_53 : decode cX9_year 53 = .ok (.if_icmp .ge 28, 3) := by decide +kernel
theorem dX9_year_56 : decode cX9_year 56 = .ok (.aload_n 0, 1) := by decide +kernel
theorem dX9_year_57 : decode cX9_year 57 = .ok (.getfield 26, 3) := by decide +kernel
theorem dX9_year_60 : decode cX9_year 60 = .ok (.iload_n 2, 1) := by decide +kernel
theorem dX9_year_61 : decode cX9_year 61 = .ok (.invokevirtual 139, 3) := by decide +kernel
theorem dX9_year_64 : decode cX9_year 64 = .ok (.ifCond .ne 11, 3) := by decide +kernel
theorem dX9_year_67 : decode cX9_year 67 = .ok (.iload_n 1, 1) := by decide +kernel
theorem dX9_year_68 : decode cX9_year 68 = .ok (.aload_n 0, 1) := by decide +kernel
theorem dX9_year_69 : decode cX9_year 69 = .ok (.iload_n 2, 1) := by decide +kernel
theorem dX9_year_70 : decode cX9_year 70 = .ok (.invokevirtual 292, 3) := by decide +kernel
theorem dX9_year_73 : decode cX9_year 73 = .ok (.iadd, 1) := by decide +kernel
theorem dX9_year_74 : decode cX9_year 74 = .ok (.istore_n 1, 1) := by decide +kernel
theorem dX9_year_75 : decode cX9_year 75 = .ok (.iinc 2 1, 3) := by decide +kernel
theorem dX9_year_78 : decode cX9_year 78 = .ok (.goto (-33), 3) := by decide +kernel
theorem dX9_year_81 : decode cX9_year 81 = .ok (.iload_n 1, 1) := by decide +kernel
theorem dX9_year_82 : decode cX9_year 82 = .ok (.ireturn, 1) := by decide +kernel
theorem dX9_secret_0 : decode cX9_secret 0 = .ok (.iload_n 1, 1) := by decide +kernel
theorem dX9_secret_1 : decode cX9_secret 1 = .ok (.iconst 1, 1) := by decide +kernel
theorem dX9_secret_2 : decode cX9_secret 2 = .ok (.if_icmp .lt 8, 3) := by decide +kernel
theorem dX9_secret_5 : decode cX9_secret 5 = .ok (.iload_n 1, 1) := by decide +kernel
theorem dX9_secret_6 : decode cX9_secret 6 = .ok (.iconst 3, 1) := by decide +kernel
theorem dX9_secret_7 : decode cX9_secret 7 = .ok (.if_icmp .le 6, 3) := by decide +kernel
theorem dX9_secret_10 : decode cX9_secret 10 = .ok (.bipush (-3), 2) := by decide +kernel
theorem dX9_secret_12 : decode cX9_secret 12 = .ok (.ireturn, 1) := by decide +kernel
theorem dX9_secret_13 : decode cX9_secret 13 = .ok (.aload_n 0, 1) := by decide +kernel
theorem dX9_secret_14 : decode cX9_secret 14 = .ok (.getfield 72, 3) := by decide +kernel
theorem dX9_secret_17 : decode cX9_secret 17 = .ok (.iload_n 1, 1) := by decide +kernel
theorem dX9_secret_18 : decode cX9_secret 18 = .ok (.invokevirtual 295, 3) := by decide +kernel
theorem dX9_secret_21 : decode cX9_secret 21 = .ok (.ireturn, 1) := by decide +kernel
theorem dX9_counted_0 : decode cX9_counted 0 = .ok (.aload_n 0, 1) := by decide +kernel
theorem dX9_counted_1 : decode cX9_counted 1 = .ok (.getfield 12, 3) := by decide +kernel
theorem dX9_counted_4 : decode cX9_counted 4 = .ok (.iload_n 1, 1) := by decide +kernel
theorem dX9_counted_5 : decode cX9_counted 5 = .ok (.invokevirtual 142, 3) := by decide +kernel
theorem dX9_counted_8 : decode cX9_counted 8 = .ok (.ifCond .ne 6, 3) := by decide +kernel
theorem dX9_counted_11 : decode cX9_counted 11 = .ok (.bipush (-2), 2) := by decide +kernel
theorem dX9_counted_13 : decode cX9_counted 13 = .ok (.ireturn, 1) := by decide +kernel
theorem dX9_counted_14 : decode cX9_counted 14 = .ok (.iload_n 2, 1) := by decide +kernel
theorem dX9_counted_15 : decode cX9_counted 15 = .ok (.ifCond .lt 9, 3) := by decide +kernel
theorem dX9_counted_18 : decode cX9_counted 18 = .ok (.iload_n 2, 1) := by decide +kernel
theorem dX9_counted_19 : decode cX9_counted 19 = .ok (.bipush 24, 2) := by decide +kernel
theorem dX9_counted_21 : decode cX9_counted 21 = .ok (.if_icmp .le 6, 3) := by decide +kernel
theorem dX9_counted_24 : decode cX9_counted 24 = .ok (.bipush (-3), 2) := by decide +kernel
theorem dX9_counted_26 : decode cX9_counted 26 = .ok (.ireturn, 1) := by decide +kernel
theorem dX9_counted_27 : decode cX9_counted 27 = .ok (.aload_n 0, 1) := by decide +kernel
theorem dX9_counted_28 : decode cX9_counted 28 = .ok (.getfield 72, 3) := by decide +kernel
theorem dX9_counted_31 : decode cX9_counted 31 = .ok (.getfield 297, 3) := by decide +kernel
theorem dX9_counted_34 : decode cX9_counted 34 = .ok (.ifCond .ne 6, 3) := by decide +kernel
theorem dX9_counted_37 : decode cX9_counted 37 = .ok (.bipush (-4), 2) := by decide +kernel
theorem dX9_counted_39 : decode cX9_counted 39 = .ok (.ireturn, 1) := by decide +kernel
theorem dX9_counted_40 : decode cX9_counted 40 = .ok (.aload_n 0, 1) := by decide +kernel
theorem dX9_counted_41 : decode cX9_counted 41 = .ok (.getfield 72, 3) := by decide +kernel
theorem dX9_counted_44 : decode cX9_counted 44 = .ok (.getfield 298, 3) := by decide +kernel
theorem dX9_counted_47 : decode cX9_counted 47 = .ok (.bipush 6, 2) := by decide +kernel
theorem dX9_counted_49 : decode cX9_counted 49 = .ok (.if_icmp .lt 6, 3) := by decide +kernel
theorem dX9_counted_52 : decode cX9_counted 52 = .ok (.bipush (-5), 2) := by decide +kernel
theorem dX9_counted_54 : decode cX9_counted 54 = .ok (.ireturn, 1) := by decide +kernel
theorem dX9_counted_55 : decode cX9_counted 55 = .ok (.aload_n 0, 1) := by decide +kernel
theorem dX9_counted_56 : decode cX9_counted 56 = .ok (.getfield 72, 3) := by decide +kernel
theorem dX9_counted_59 : decode cX9_counted 59 = .ok (.iload_n 1, 1) := by decide +kernel
theorem dX9_counted_60 : decode cX9_counted 60 = .ok (.iload_n 2, 1) := by decide +kernel
theorem dX9_counted_61 : decode cX9_counted 61 = .ok (.invokevirtual 301, 3) := by decide +kernel
theorem dX9_counted_64 : decode cX9_counted 64 = .ok (.ireturn, 1) := by decide +kernel
theorem dX9_canBe_0 : decode cX9_canBe 0 = .ok (.iload_n 1, 1) := by decide +kernel
theorem dX9_canBe_1 : decode cX9_canBe 1 = .ok (.ifCond .lt 8, 3) := by decide +kernel
theorem dX9_canBe_4 : decode cX9_canBe 4 = .ok (.iload_n 1, 1) := by decide +kernel
theorem dX9_canBe_5 : decode cX9_canBe 5 = .ok (.iconst 1, 1) := by decide +kernel
theorem dX9_canBe_6 : decode cX9_canBe 6 = .ok (.if_icmp .le 6, 3) := by decide +kernel
theorem dX9_canBe_9 : decode cX9_canBe 9 = .ok (.bipush (-3), 2) := by decide +kernel
theorem dX9_canBe_11 : decode cX9_canBe 11 = .ok (.ireturn, 1) := by decide +kernel
theorem dX9_canBe_12 : decode cX9_canBe 12 = .ok (.aload_n 0, 1) := by decide +kernel
theorem dX9_canBe_13 : decode cX9_canBe 13 = .ok (.getfield 72, 3) := by decide +kernel
theorem dX9_canBe_16 : decode cX9_canBe 16 = .ok (.getfield 297, 3) := by decide +kernel
theorem dX9_canBe_19 : decode cX9_canBe 19 = .ok (.ifCond .ne 6, 3) := by decide +kernel
theorem dX9_canBe_22 : decode cX9_canBe 22 = .ok (.bipush (-4), 2) := by decide +kernel
theorem dX9_canBe_24 : decode cX9_canBe 24 = .ok (.ireturn, 1) := by decide +kernel
theorem dX9_canBe_25 : decode cX9_canBe 25 = .ok (.aload_n 0, 1) := by decide +kernel
theorem dX9_canBe_26 : decode cX9_canBe 26 = .ok (.getfield 72, 3) := by decide +kernel
theorem dX9_canBe_29 : decode cX9_canBe 29 = .ok (.invokevirtual 303, 3) := by decide +kernel
theorem dX9_canBe_32 : decode cX9_canBe 32 = .ok (.iload_n 1, 1) := by decide +kernel
theorem dX9_canBe_33 : decode cX9_canBe 33 = .ok (.ifCond .ne 13, 3) := by decide +kernel
theorem dX9_canBe_36 : decode cX9_canBe 36 = .ok (.aload_n 0, 1) := by decide +kernel
theorem dX9_canBe_37 : decode cX9_canBe 37 = .ok (.getfield 72, 3) := by decide +kernel
theorem dX9_canBe_40 : decode cX9_canBe 40 = .ok (.getfield 306, 3) := by decide +kernel
theorem dX9_canBe_43 : decode cX9_canBe 43 = .ok (.goto 10, 3) := by decide +kernel
theorem dX9_canBe_46 : decode cX9_canBe 46 = .ok (.aload_n 0, 1) := by decide +kernel
theorem dX9_canBe_47 : decode cX9_canBe 47 = .ok (.getfield 72, 3) := by decide +kernel
theorem dX9_canBe_50 : decode cX9_canBe 50 = .ok (.getfield 309, 3) := by decide +kernel
theorem dX9_canBe_53 : decode cX9_canBe 53 = .ok (.ireturn, 1) := by decide +kernel
theorem dX9_canBeWord_0 : decode cX9_canBeWord 0 = .ok (.iload_n 1, 1) := by decide +kernel
theorem dX9_canBeWord_1 : decode cX9_canBeWord 1 = .ok (.ifCond .lt 12, 3) := by decide +kernel
theorem dX9_canBeWord_4 : decode cX9_canBeWord 4 = .ok (.iload_n 2, 1) := by decide +kernel
theorem dX9_canBeWord_5 : decode cX9_canBeWord 5 = .ok (.ifCond .lt 8, 3) := by decide +kernel
theorem dX9_canBeWord_8 : decode cX9_canBeWord 8 = .ok (.iload_n 2, 1) := by decide +kernel
theorem dX9_canBeWord_9 : decode cX9_canBeWord 9 = .ok (.iconst 1, 1) := by decide +kernel
theorem dX9_canBeWord_10 : decode cX9_canBeWord 10 = .ok (.if_icmp .le 6, 3) := by decide +kernel
theorem dX9_canBeWord_13 : decode cX9_canBeWord 13 = .ok (.bipush (-3), 2) := by decide +kernel
theorem dX9_canBeWord_15 : decode cX9_canBeWord 15 = .ok (.ireturn, 1) := by decide +kernel
theorem dX9_canBeWord_16 : decode cX9_canBeWord 16 = .ok (.aload_n 0, 1) := by decide +kernel
theorem dX9_canBeWord_17 : decode cX9_canBeWord 17 = .ok (.getfield 72, 3) := by decide +kernel
theorem dX9_canBeWord_20 : decode cX9_canBeWord 20 = .ok (.getfield 297, 3) := by decide +kernel
theorem dX9_canBeWord_23 : decode cX9_canBeWord 23 = .ok (.ifCond .ne 6, 3) := by decide +kernel
theorem dX9_canBeWord_26 : decode cX9_canBeWord 26 = .ok (.bipush (-4), 2) := by decide +kernel
theorem dX9_canBeWord_28 : decode cX9_canBeWord 28 = .ok (.ireturn, 1) := by decide +kernel
theorem dX9_canBeWord_29 : decode cX9_canBeWord 29 = .ok (.aload_n 0, 1) := by decide +kernel
theorem dX9_canBeWord_30 : decode cX9_canBeWord 30 = .ok (.getfield 72, 3) := by decide +kernel
theorem dX9_canBeWord_33 : decode cX9_canBeWord 33 = .ok (.invokevirtual 303, 3) := by decide +kernel
theorem dX9_canBeWord_36 : decode cX9_canBeWord 36 = .ok (.iload_n 2, 1) := by decide +kernel
theorem dX9_canBeWord_37 : decode cX9_canBeWord 37 = .ok (.ifCond .ne 17, 3) := by decide +kernel
theorem dX9_canBeWord_40 : decode cX9_canBeWord 40 = .ok (.aload_n 0, 1) := by decide +kernel
theorem dX9_canBeWord_41 : decode cX9_canBeWord 41 = .ok (.getfield 72, 3) := by decide +kernel
theorem dX9_canBeWord_44 : decode cX9_canBeWord 44 = .ok (.getfield 310, 3) := by decide +kernel
theorem dX9_canBeWord_47 : decode cX9_canBeWord 47 = .ok (.iload_n 1, 1) := by decide +kernel
theorem dX9_canBeWord_48 : decode cX9_canBeWord 48 = .ok (.invokevirtual 176, 3) := by decide +kernel
theorem dX9_canBeWord_51 : decode cX9_canBeWord 51 = .ok (.goto 14, 3) := by decide +kernel
theorem dX9_canBeWord_54 : decode cX9_canBeWord 54 = .ok (.aload_n 0, 1) := by decide +kernel
theorem dX9_canBeWord_55 : decode cX9_canBeWord 55 = .ok (.getfield 72, 3) := by decide +kernel
theorem dX9_canBeWord_58 : decode cX9_canBeWord 58 = .ok (.getfield 311, 3) := by decide +kernel
theorem dX9_canBeWord_61 : decode cX9_canBeWord 61 = .ok (.iload_n 1, 1) := by decide +kernel
theorem dX9_canBeWord_62 : decode cX9_canBeWord 62 = .ok (.invokevirtual 176, 3) := by decide +kernel
theorem dX9_canBeWord_65 : decode cX9_canBeWord 65 = .ok (.ireturn, 1) := by decide +kernel
theorem dX9_count_0 : decode cX9_count 0 = .ok (.iload_n 1, 1) := by decide +kernel
theorem dX9_count_1 : decode cX9_count 1 = .ok (.tableswitch 144 0 10 #[59, 67, 75, 83, 91, 99, 107, 112, 120, 128, 136], 59) := by decide +kernel
theorem dX9_count_60 : decode cX9_count 60 = .ok (.aload_n 0, 1) := by decide +kernel
theorem dX9_count_61 : decode cX9_count 61 = .ok (.getfield 12, 3) := by decide +kernel
theorem dX9_count_64 : decode cX9_count 64 = .ok (.getfield 278, 3) := by decide +kernel
theorem dX9_count_67 : decode cX9_count 67 = .ok (.ireturn, 1) := by decide +kernel
theorem dX9_count_68 : decode cX9_count 68 = .ok (.aload_n 0, 1) := by decide +kernel
theorem dX9_count_69 : decode cX9_count 69 = .ok (.getfield 12, 3) := by decide +kernel
theorem dX9_count_72 : decode cX9_count 72 = .ok (.getfield 289, 3) := by decide +kernel
theorem dX9_count_75 : decode cX9_count 75 = .ok (.ireturn, 1) := by decide +kernel
theorem dX9_count_76 : decode cX9_count 76 = .ok (.aload_n 0, 1) := by decide +kernel
theorem dX9_count_77 : decode cX9_count 77 = .ok (.getfield 12, 3) := by decide +kernel
theorem dX9_count_80 : decode cX9_count 80 = .ok (.getfield 248, 3) := by decide +kernel
theorem dX9_count_83 : decode cX9_count 83 = .ok (.ireturn, 1) := by decide +kernel
theorem dX9_count_84 : decode cX9_count 84 = .ok (.aload_n 0, 1) := by decide +kernel
theorem dX9_count_85 : decode cX9_count 85 = .ok (.getfield 12, 3) := by decide +kernel
theorem dX9_count_88 : decode cX9_count 88 = .ok (.getfield 314, 3) := by decide +kernel
theorem dX9_count_91 : decode cX9_count 91 = .ok (.ireturn, 1) := by decide +kernel
theorem dX9_count_92 : decode cX9_count 92 = .ok (.aload_n 0, 1) := by decide +kernel
theorem dX9_count_93 : decode cX9_count 93 = .ok (.getfield 26, 3) := by decide +kernel
theorem dX9_count_96 : decode cX9_count 96 = .ok (.invokevirtual 317, 3) := by decide +kernel
theorem dX9_count_99 : decode cX9_count 99 = .ok (.ireturn, 1) := by decide +kernel
theorem dX9_count_100 : decode cX9_count 100 = .ok (.aload_n 0, 1) := by decide +kernel
theorem dX9_count_101 : decode cX9_count 101 = .ok (.getfield 26, 3) := by decide +kernel
theorem dX9_count_104 : decode cX9_count 104 = .ok (.invokevirtual 320, 3) := by decide +kernel
theorem dX9_count_107 : decode cX9_count 107 = .ok (.ireturn, 1) := by decide +kernel
theorem dX9_count_108 : decode cX9_count 108 = .ok (.aload_n 0, 1) := by decide +kernel
theorem dX9_count_109 : decode cX9_count 109 = .ok (.invokevirtual 323, 3) := by decide +kernel
theorem dX9_count_112 : decode cX9_count 112 = .ok (.ireturn, 1) := by decide +kernel
theorem dX9_count_113 : decode cX9_count 113 = .ok (.aload_n 0, 1) := by decide +kernel
theorem dX9_count_114 : decode cX9_count 114 = .ok (.getfield 33, 3) := by decide +kernel
theorem dX9_count_117 : decode cX9_count 117 = .ok (.getfield 174, 3) := by decide +kernel
theorem dX9_count_120 : decode cX9_count 120 = .ok (.ireturn, 1) := by decide +kernel
theorem dX9_count_121 : decode cX9_count 121 = .ok (.aload_n 0, 1) := by decide +kernel
theorem dX9_count_122 : decode cX9_count 122 = .ok (.getfield 72, 3) := by decide +kernel
theorem dX9_count_125 : decode cX9_count 125 = .ok (.getfield 298, 3) := by decide +kernel
theorem dX9_count_128 : decode cX9_count 128 = .ok (.ireturn, 1) := by decide +kernel
theorem dX9_count_129 : decode cX9_count 129 = .ok (.aload_n 0, 1) := by decide +kernel
theorem dX9_count_130 : decode cX9_count 130 = .ok (.getfield 26, 3) := by decide +kernel
theorem dX9_count_133 : decode cX9_count 133 = .ok (.getfield 217, 3) := by decide +kernel
theorem dX9_count_136 : decode cX9_count 136 = .ok (.ireturn, 1) := by decide +kernel
theorem dX9_count_137 : decode cX9_count 137 = .ok (.aload_n 0, 1) := by decide +kernel
theorem dX9_count_138 : decode cX9_count 138 = .ok (.getfield 19, 3) := by decide +kernel
theorem dX9_count_141 : decode cX9_count 141 = .ok (.getfield 80, 3) := by decide +kernel
theorem dX9_count_144 : decode cX9_count 144 = .ok (.ireturn, 1) := by decide +kernel
theorem dX9_count_145 : decode cX9_count 145 = .ok (.bipush (-3), 2) := by decide +kernel
theorem dX9_count_147 : decode cX9_count 147 = .ok (.ireturn, 1) := by decide +kernel
theorem dX9_areKnown_0 : decode cX9_areKnown 0 = .ok (.aload_n 0, 1) := by decide +kernel
theorem dX9_areKnown_1 : decode cX9_areKnown 1 = .ok (.getfield 12, 3) := by decide +kernel
theorem dX9_areKnown_4 : decode cX9_areKnown 4 = .ok (.iload_n 1, 1) := by decide +kernel
theorem dX9_areKnown_5 : decode cX9_areKnown 5 = .ok (.invokevirtual 130, 3) := by decide +kernel
theorem dX9_areKnown_8 : decode cX9_areKnown 8 = .ok (.ifCond .eq 18, 3) := by decide +kernel
theorem dX9_areKnown_11 : decode cX9_areKnown 11 = .ok (.aload_n 0, 1) := by decide +kernel
theorem dX9_areKnown_12 : decode cX9_areKnown 12 = .ok (.getfield 12, 3) := by decide +kernel
theorem dX9_areKnown_15 : decode cX9_areKnown 15 = .ok (.iload_n 2, 1) := by decide +kernel
theorem dX9_areKnown_16 : decode cX9_areKnown 16 = .ok (.invokevirtual 142, 3) := by decide +kernel
theorem dX9_areKnown_19 : decode cX9_areKnown 19 = .ok (.ifCond .eq 7, 3) := by decide +kernel
theorem dX9_areKnown_22 : decode cX9_areKnown 22 = .ok (.iconst 1, 1) := by decide +kernel
theorem dX9_areKnown_23 : decode cX9_areKnown 23 = .ok (.goto 4, 3) := by decide +kernel
theorem dX9_areKnown_26 : decode cX9_areKnown 26 = .ok (.iconst 0, 1) := by decide +kernel
theorem dX9_areKnown_27 : decode cX9_areKnown 27 = .ok (.ireturn, 1) := by decide +kernel
theorem dX9_fewestOrHowMany_0 : decode cX9_fewestOrHowMany 0 = .ok (.aload_n 0, 1) := by decide +kernel
theorem dX9_fewestOrHowMany_1 : decode cX9_fewestOrHowMany 1 = .ok (.getfield 51, 3) := by decide +kernel
theorem dX9_fewestOrHowMany_4 : decode cX9_fewestOrHowMany 4 = .ok (.invokevirtual 239, 3) := by decide +kernel
theorem dX9_fewestOrHowMany_7 : decode cX9_fewestOrHowMany 7 = .ok (.istore_n 2, 1) := by decide +kernel
theorem dX9_fewestOrHowMany_8 : decode cX9_fewestOrHowMany 8 = .ok (.iload_n 1, 1) := by decide +kernel
theorem dX9_fewestOrHowMany_9 : decode cX9_fewestOrHowMany 9 = .ok (.ifCond .eq 8, 3) := by decide +kernel
theorem dX9_fewestOrHowMany_12 : decode cX9_fewestOrHowMany 12 = .ok (.iload_n 2, 1) := by decide +kernel
theorem dX9_fewestOrHowMany_13 : decode cX9_fewestOrHowMany 13 = .ok (.iconst (-1), 1) := by decide +kernel
theorem dX9_fewestOrHowMany_14 : decode cX9_fewestOrHowMany 14 = .ok (.if_icmp .ne 5, 3) := by decide +kernel
theorem dX9_fewestOrHowMany_17 : decode cX9_fewestOrHowMany 17 = .ok (.iload_n 2, 1) := by decide +kernel
theorem dX9_fewestOrHowMany_18 : decode cX9_fewestOrHowMany 18 = .ok (.ireturn, 1) := by decide +kernel
theorem dX9_fewestOrHowMany_19 : decode cX9_fewestOrHowMany 19 = .ok (.aload_n 0, 1) := by decide +kernel
theorem dX9_fewestOrHowMany_20 : decode cX9_fewestOrHowMany 20 = .ok (.getfield 51, 3) := by decide +kernel
theorem dX9_fewestOrHowMany_23 : decode cX9_fewestOrHowMany 23 = .ok (.iload_n 2, 1) := by decide +kernel
theorem dX9_fewestOrHowMany_24 : decode cX9_fewestOrHowMany 24 = .ok (.invokevirtual 281, 3) := by decide +kernel
theorem dX9_fewestOrHowMany_27 : decode cX9_fewestOrHowMany 27 = .ok (.ireturn, 1) := by decide +kernel
theorem dX9_openWares_0 : decode cX9_openWares 0 = .ok (.iconst 0, 1) := by decide +kernel
theorem dX9_openWares_1 : decode cX9_openWares 1 = .ok (.istore_n 1, 1) := by decide +kernel
theorem dX9_openWares_2 : decode cX9_openWares 2 = .ok (.iconst 0, 1) := by decide +kernel
theorem dX9_openWares_3 : decode cX9_openWares 3 = .ok (.istore_n 2, 1) := by decide +kernel
theorem dX9_openWares_4 : decode cX9_openWares 4 = .ok (.iload_n 2, 1) := by decide +kernel
theorem dX9_openWares_5 : decode cX9_openWares 5 = .ok (.aload_n 0, 1) := by decide +kernel
theorem dX9_openWares_6 : decode cX9_openWares 6 = .ok (.getfield 12, 3) := by decide +kernel
theorem dX9_openWares_9 : decode cX9_openWares 9 = .ok (.getfield 289, 3) := by decide +kernel
theorem dX9_openWares_12 : decode cX9_openWares 12 = .ok (.if_icmp .ge 26, 3) := by decide +kernel
theorem dX9_openWares_15 : decode cX9_openWares 15 = .ok (.aload_n 0, 1) := by decide +kernel
theorem dX9_openWares_16 : decode cX9_openWares 16 = .ok (.getfield 26, 3) := by decide +kernel
theorem dX9_openWares_19 : decode cX9_openWares 19 = .ok (.iload_n 2, 1) := by decide +kernel
theorem dX9_openWares_20 : decode cX9_openWares 20 = .ok (.invokevirtual 139, 3) := by decide +kernel
theorem dX9_openWares_23 : decode cX9_openWares 23 = .ok (.ifCond .ne 9, 3) := by decide +kernel
theorem dX9_openWares_26 : decode cX9_openWares 26 = .ok (.iload_n 1, 1) := by decide +kernel
theorem dX9_openWares_27 : decode cX9_openWares 27 = .ok (.iconst 1, 1) := by decide +kernel
theorem dX9_openWares_28 : decode cX9_openWares 28 = .ok (.iload_n 2, 1) := by decide +kernel
theorem dX9_openWares_29 : decode cX9_openWares 29 = .ok (.ishl, 1) := by decide +kernel
theorem dX9_openWares_30 : decode cX9_openWares 30 = .ok (.ior, 1) := by decide +kernel
theorem dX9_openWares_31 : decode cX9_openWares 31 = .ok (.istore_n 1, 1) := by decide +kernel
theorem dX9_openWares_32 : decode cX9_openWares 32 = .ok (.iinc 2 1, 3) := by decide +kernel
theorem dX9_openWares_35 : decode cX9_openWares 35 = .ok (.goto (-31), 3) := by decide +kernel
theorem dX9_openWares_38 : decode cX9_openWares 38 = .ok (.iload_n 1, 1) := by decide +kernel
theorem dX9_openWares_39 : decode cX9_openWares 39 = .ok (.ireturn, 1) := by decide +kernel
theorem dX9_waresThatRhymesAllow_0 : decode cX9_waresThatRhymesAllow 0 = .ok (.iconst 0, 1) := by decide +kernel
theorem dX9_waresThatRhymesAllow_1 : decode cX9_waresThatRhymesAllow 1 = .ok (.istore_n 1, 1) := by decide +kernel
theorem dX9_waresThatRhymesAllow_2 : decode cX9_waresThatRhymesAllow 2 = .ok (.iconst 0, 1) := by decide +kernel
theorem dX9_waresThatRhymesAllow_3 : decode cX9_waresThatRhymesAllow 3 = .ok (.istore_n 2, 1) := by decide +kernel
theorem dX9_waresThatRhymesAllow_4 : decode cX9_waresThatRhymesAllow 4 = .ok (.iload_n 2, 1) := by decide +kernel
theorem dX9_waresThatRhymesAllow_5 : decode cX9_waresThatRhymesAllow 5 = .ok (.bipush 6, 2) := by decide +kernel
theorem dX9_waresThatRhymesAllow_7 : decode cX9_waresThatRhymesAllow 7 = .ok (.if_icmp .ge 101, 3) := by decide +kernel
theorem dX9_waresThatRhymesAllow_10 : decode cX9_waresThatRhymesAllow 10 = .ok (.iconst 0, 1) := by decide +kernel
theorem dX9_waresThatRhymesAllow_11 : decode cX9_waresThatRhymesAllow 11 = .ok (.istore_n 3, 1) := by decide +kernel
theorem dX9_waresThatRhymesAllow_12 : decode cX9_waresThatRhymesAllow 12 = .ok (.iconst 0, 1) := by decide +kernel
theorem dX9_waresThatRhymesAllow_13 : decode cX9_waresThatRhymesAllow 13 = .ok (.istore 4, 2) := by decide +kernel
theorem dX9_waresThatRhymesAllow_15 : decode cX9_waresThatRhymesAllow 15 = .ok (.iload 4, 2) := by decide +kernel
theorem dX9_waresThatRhymesAllow_17 : decode cX9_waresThatRhymesAllow 17 = .ok (.aload_n 0, 1) := by decide +kernel
theorem dX9_waresThatRhymesAllow_18 : decode cX9_waresThatRhymesAllow 18 = .ok (.getfield 12, 3) := by decide +kernel
theorem dX9_waresThatRhymesAllow_21 : decode cX9_waresThatRhymesAllow 21 = .ok (.getfield 289, 3) := by decide +kernel
theorem dX9_waresThatRhymesAllow_24 : decode cX9_waresThatRhymesAllow 24 = .ok (.if_icmp .ge 47, 3) := by decide +kernel
theorem dX9_waresThatRhymesAllow_27 : decode cX9_waresThatRhymesAllow 27 = .ok (.aload_n 0, 1) := by decide +kernel
theorem dX9_waresThatRhymesAllow_28 : decode cX9_waresThatRhymesAllow 28 = .ok (.getfield 26, 3) := by decide +kernel
theorem dX9_waresThatRhymesAllow_31 : decode cX9_waresThatRhymesAllow 31 = .ok (.iload 4, 2) := by decide +kernel
theorem dX9_waresThatRhymesAllow_33 : decode cX9_waresThatRhymesAllow 33 = .ok (.invokevirtual 139, 3) := by decide +kernel
theorem dX9_waresThatRhymesAllow_36 : decode cX9_waresThatRhymesAllow 36 = .ok (.ifCond .ne 29, 3) := by decide +kernel
theorem dX9_waresThatRhymesAllow_39 : decode cX9_waresThatRhymesAllow 39 = .ok (.aload_n 0, 1) := by decide +kernel
theorem dX9_waresThatRhymesAllow_40 : decode cX9_waresThatRhymesAllow 40 = .ok (.getfield 12, 3) := by decide +kernel
theorem dX9_waresThatRhymesAllow_43 : decode cX9_waresThatRhymesAllow 43 = .ok (.aload_n 0, 1) := by decide +kernel
theorem dX9_waresThatRhymesAllow_44 : decode cX9_waresThatRhymesAllow 44 = .ok (.getfield 12, 3) := by decide +kernel
theorem dX9_waresThatRhymesAllow_47 : decode cX9_waresThatRhymesAllow 47 = .ok (.getfield 136, 3) := by decide +kernel
theorem dX9_waresThatRhymesAllow_50 : decode cX9_waresThatRhymesAllow 50 = .ok (.iload 4, 2) := by decide +kernel
theorem dX9_waresThatRhymesAllow_52 : decode cX9_waresThatRhymesAllow 52 = .ok (.invokestatic 117, 3) := by decide +kernel
theorem dX9_waresThatRhymesAllow_55 : decode cX9_waresThatRhymesAllow 55 = .ok (.invokevirtual 326, 3) := by decide +kernel
theorem dX9_waresThatRhymesAllow_58 : decode cX9_waresThatRhymesAllow 58 = .ok (.iload_n 2, 1) := by decide +kernel
theorem dX9_waresThatRhymesAllow_59 : decode cX9_waresThatRhymesAllow 59 = .ok (.if_icmp .ne 6, 3) := by decide +kernel
theorem dX9_waresThatRhymesAllow_62 : decode cX9_waresThatRhymesAllow 62 = .ok (.iinc 3 1, 3) := by decide +kernel
theorem dX9_waresThatRhymesAllow_65 : decode cX9_waresThatRhymesAllow 65 = .ok (.iinc 4 1, 3) := by decide +kernel
theorem dX9_waresThatRhymesAllow_68 : decode cX9_waresThatRhymesAllow 68 = .ok (.goto (-53), 3) := by decide +kernel
theorem dX9_waresThatRhymesAllow_71 : decode cX9_waresThatRhymesAllow 71 = .ok (.iload_n 1, 1) := by decide +kernel
theorem dX9_waresThatRhymesAllow_72 : decode cX9_waresThatRhymesAllow 72 = .ok (.iload_n 3, 1) := by decide +kernel
theorem dX9_waresThatRhymesAllow_73 : decode cX9_waresThatRhymesAllow 73 = .ok (.iconst 0, 1) := by decide +kernel
theorem dX9_waresThatRhymesAllow_74 : decode cX9_waresThatRhymesAllow 74 = .ok (.aload_n 0, 1) := by decide +kernel
theorem dX9_waresThatRhymesAllow_75 : decode cX9_waresThatRhymesAllow 75 = .ok (.getfield 12, 3) := by decide +kernel
theorem dX9_waresThatRhymesAllow_78 : decode cX9_waresThatRhymesAllow 78 = .ok (.getfield 151, 3) := by decide +kernel
theorem dX9_waresThatRhymesAllow_81 : decode cX9_waresThatRhymesAllow 81 = .ok (.iload_n 2, 1) := by decide +kernel
theorem dX9_waresThatRhymesAllow_82 : decode cX9_waresThatRhymesAllow 82 = .ok (.invokestatic 117, 3) := by decide +kernel
theorem dX9_waresThatRhymesAllow_85 : decode cX9_waresThatRhymesAllow 85 = .ok (.aload_n 0, 1) := by decide +kernel
theorem dX9_waresThatRhymesAllow_86 : decode cX9_waresThatRhymesAllow 86 = .ok (.getfield 26, 3) := by decide +kernel
theorem dX9_waresThatRhymesAllow_89 : decode cX9_waresThatRhymesAllow 89 = .ok (.iload_n 2, 1) := by decide +kernel
theorem dX9_waresThatRhymesAllow_90 : decode cX9_waresThatRhymesAllow 90 = .ok (.invokevirtual 148, 3) := by decide +kernel
theorem dX9_waresThatRhymesAllow_93 : decode cX9_waresThatRhymesAllow 93 = .ok (.isub, 1) := by decide +kernel
theorem dX9_waresThatRhymesAllow_94 : decode cX9_waresThatRhymesAllow 94 = .ok (.invokestatic 329, 3) := by decide +kernel
theorem dX9_waresThatRhymesAllow_97 : decode cX9_waresThatRhymesAllow 97 = .ok (.invokestatic 334, 3) := by decide +kernel
theorem dX9_waresThatRhymesAllow_100 : decode cX9_waresThatRhymesAllow 100 = .ok (.iadd, 1) := by decide +kernel
theorem dX9_waresThatRhymesAllow_101 : decode cX9_waresThatRhymesAllow 101 = .ok (.istore_n 1, 1) := by decide +kernel
theorem dX9_waresThatRhymesAllow_102 : decode cX9_waresThatRhymesAllow 102 = .ok (.iinc 2 1, 3) := by decide +kernel
theorem dX9_waresThatRhymesAllow_105 : decode cX9_waresThatRhymesAllow 105 = .ok (.goto (-101), 3) := by decide +kernel
theorem dX9_waresThatRhymesAllow_108 : decode cX9_waresThatRhymesAllow 108 = .ok (.iload_n 1, 1) := by decide +kernel
theorem dX9_waresThatRhymesAllow_109 : decode cX9_waresThatRhymesAllow 109 = .ok (.ireturn, 1) := by decide +kernel
theorem dX9_portsWornOut_0 : decode cX9_portsWornOut 0 = .ok (.iconst 0, 1) := by decide +kernel
theorem dX9_portsWornOut_1 : decode cX9_portsWornOut 1 = .ok (.istore_n 1, 1) := by decide +kernel
theorem dX9_portsWornOut_2 : decode cX9_portsWornOut 2 = .ok (.iconst 0, 1) := by decide +kernel
theorem dX9_portsWornOut_3 : decode cX9_portsWornOut 3 = .ok (.istore_n 2, 1) := by decide +kernel
theorem dX9_portsWornOut_4 : decode cX9_portsWornOut 4 = .ok (.iload_n 2, 1) := by decide +kernel
theorem dX9_portsWornOut_5 : decode cX9_portsWornOut 5 = .ok (.iconst 4, 1) := by decide +kernel
theorem dX9_portsWornOut_6 : decode cX9_portsWornOut 6 = .ok (.if_icmp .ge 43, 3) := by decide +kernel
theorem dX9_portsWornOut_9 : decode cX9_portsWornOut 9 = .ok (.aload_n 0, 1) := by decide +kernel
theorem dX9_portsWornOut_10 : decode cX9_portsWornOut 10 = .ok (.getfield 12, 3) := by decide +kernel
theorem dX9_portsWornOut_13 : decode cX9_portsWornOut 13 = .ok (.iload_n 2, 1) := by decide +kernel
theorem dX9_portsWornOut_14 : decode cX9_portsWornOut 14 = .ok (.invokevirtual 326, 3) := by decide +kernel
theorem dX9_portsWornOut_17 : decode cX9_portsWornOut 17 = .ok (.istore_n 3, 1) := by decide +kernel
theorem dX9_portsWornOut_18 : decode cX9_portsWornOut 18 = .ok (.aload_n 0, 1) := by decide +kernel
theorem dX9_portsWornOut_19 : decode cX9_portsWornOut 19 = .ok (.getfield 12, 3) := by decide +kernel
theorem dX9_portsWornOut_22 : decode cX9_portsWornOut 22 = .ok (.iload_n 3, 1) := by decide +kernel
theorem dX9_portsWornOut_23 : decode cX9_portsWornOut 23 = .ok (.aload_n 0, 1) := by decide +kernel
theorem dX9_portsWornOut_24 : decode cX9_portsWornOut 24 = .ok (.getfield 26, 3) := by decide +kernel
theorem dX9_portsWornOut_27 : decode cX9_portsWornOut 27 = .ok (.iload_n 3, 1) := by decide +kernel
theorem dX9_portsWornOut_28 : decode cX9_portsWornOut 28 = .ok (.invokevirtual 148, 3) := by decide +kernel
theorem dX9_portsWornOut_31 : decode cX9_portsWornOut 31 = .ok (.invokevirtual 203, 3) := by decide +kernel
theorem dX9_portsWornOut_34 : decode cX9_portsWornOut 34 = .ok (.ifCond .eq 9, 3) := by decide +kernel
theorem dX9_portsWornOut_37 : decode cX9_portsWornOut 37 = .ok (.iload_n 1, 1) := by decide +kernel
theorem dX9_portsWornOut_38 : decode cX9_portsWornOut 38 = .ok (.iconst 1, 1) := by decide +kernel
theorem dX9_portsWornOut_39 : decode cX9_portsWornOut 39 = .ok (.iload_n 2, 1) := by decide +kernel
theorem dX9_portsWornOut_40 : decode cX9_portsWornOut 40 = .ok (.ishl, 1) := by decide +kernel
theorem dX9_portsWornOut_41 : decode cX9_portsWornOut 41 = .ok (.ior, 1) := by decide +kernel
theorem dX9_portsWornOut_42 : decode cX9_portsWornOut 42 = .ok (.istore_n 1, 1) := by decide +kernel
theorem dX9_portsWornOut_43 : decode cX9_portsWornOut 43 = .ok (.iinc 2 1, 3) := by decide +kernel
theorem dX9_portsWornOut_46 : decode cX9_portsWornOut 46 = .ok (.goto (-42), 3) := by decide +kernel
theorem dX9_portsWornOut_49 : decode cX9_portsWornOut 49 = .ok (.iload_n 1, 1) := by decide +kernel
theorem dX9_portsWornOut_50 : decode cX9_portsWornOut 50 = .ok (.ireturn, 1) := by decide +kernel
theorem dX9_paidInYear_0 : decode cX9_paidInYear 0 = .ok (.aload_n 0, 1) := by decide +kernel
theorem dX9_paidInYear_1 : decode cX9_paidInYear 1 = .ok (.getfield 12, 3) := by decide +kernel
theorem dX9_paidInYear_4 : decode cX9_paidInYear 4 = .ok (.getfield 133, 3) := by decide +kernel
theorem dX9_paidInYear_7 : decode cX9_paidInYear 7 = .ok (.iload_n 1, 1) := by decide +kernel
theorem dX9_paidInYear_8 : decode cX9_paidInYear 8 = .ok (.invokestatic 117, 3) := by decide +kernel
theorem dX9_paidInYear_11 : decode cX9_paidInYear 11 = .ok (.istore_n 2, 1) := by decide +kernel
theorem dX9_paidInYear_12 : decode cX9_paidInYear 12 = .ok (.aload_n 0, 1) := by decide +kernel
theorem dX9_paidInYear_13 : decode cX9_paidInYear 13 = .ok (.getfield 42, 3) := by decide +kernel
theorem dX9_paidInYear_16 : decode cX9_paidInYear 16 = .ok (.iload_n 1, 1) := by decide +kernel
theorem dX9_paidInYear_17 : decode cX9_paidInYear 17 = .ok (.iconst 0, 1) := by decide +kernel
theorem dX9_paidInYear_18 : decode cX9_paidInYear 18 = .ok (.invokevirtual 232, 3) := by decide +kernel
theorem dX9_paidInYear_21 : decode cX9_paidInYear 21 = .ok (.aload_n 0, 1) := by decide +kernel
theorem dX9_paidInYear_22 : decode cX9_paidInYear 22 = .ok (.getfield 51, 3) := by decide +kernel
theorem dX9_paidInYear_25 : decode cX9_paidInYear 25 = .ok (.aload_n 0, 1) := by decide +kernel
theorem dX9_paidInYear_26 : decode cX9_paidInYear 26 = .ok (.getfield 51, 3) := by decide +kernel
theorem dX9_paidInYear_29 : decode cX9_paidInYear 29 = .ok (.invokevirtual 239, 3) := by decide +kernel
theorem dX9_paidInYear_32 : decode cX9_paidInYear 32 = .ok (.invokevirtual 242, 3) := by decide +kernel
theorem dX9_paidInYear_35 : decode cX9_paidInYear 35 = .ok (.aload_n 0, 1) := by decide +kernel
theorem dX9_paidInYear_36 : decode cX9_paidInYear 36 = .ok (.getfield 51, 3) := by decide +kernel
theorem dX9_paidInYear_39 : decode cX9_paidInYear 39 = .ok (.getfield 245, 3) := by decide +kernel
theorem dX9_paidInYear_42 : decode cX9_paidInYear 42 = .ok (.getfield 174, 3) := by decide +kernel
theorem dX9_paidInYear_45 : decode cX9_paidInYear 45 = .ok (.ifCond .ne 7, 3) := by decide +kernel
theorem dX9_paidInYear_48 : decode cX9_paidInYear 48 = .ok (.iconst 3, 1) := by decide +kernel
theorem dX9_paidInYear_49 : decode cX9_paidInYear 49 = .ok (.iload_n 2, 1) := by decide +kernel
theorem dX9_paidInYear_50 : decode cX9_paidInYear 50 = .ok (.imul, 1) := by decide +kernel
theorem dX9_paidInYear_51 : decode cX9_paidInYear 51 = .ok (.ireturn, 1) := by decide +kernel
theorem dX9_paidInYear_52 : decode cX9_paidInYear 52 = .ok (.aload_n 0, 1) := by decide +kernel
theorem dX9_paidInYear_53 : decode cX9_paidInYear 53 = .ok (.getfield 12, 3) := by decide +kernel
theorem dX9_paidInYear_56 : decode cX9_paidInYear 56 = .ok (.aload_n 0, 1) := by decide +kernel
theorem dX9_paidInYear_57 : decode cX9_paidInYear 57 = .ok (.getfield 51, 3) := by decide +kernel
theorem dX9_paidInYear_60 : decode cX9_paidInYear 60 = .ok (.getfield 245, 3) := by decide +kernel
theorem dX9_paidInYear_63 : decode cX9_paidInYear 63 = .ok (.invokevirtual 197, 3) := by decide +kernel
theorem dX9_paidInYear_66 : decode cX9_paidInYear 66 = .ok (.invokevirtual 200, 3) := by decide +kernel
theorem dX9_paidInYear_69 : decode cX9_paidInYear 69 = .ok (.istore_n 3, 1) := by decide +kernel
theorem dX9_paidInYear_70 : decode cX9_paidInYear 70 = .ok (.aload_n 0, 1) := by decide +kernel
theorem dX9_paidInYear_71 : decode cX9_paidInYear 71 = .ok (.getfield 12, 3) := by decide +kernel
theorem dX9_paidInYear_74 : decode cX9_paidInYear 74 = .ok (.iload_n 3, 1) := by decide +kernel
theorem dX9_paidInYear_75 : decode cX9_paidInYear 75 = .ok (.aload_n 0, 1) := by decide +kernel
theorem dX9_paidInYear_76 : decode cX9_paidInYear 76 = .ok (.getfield 76, 3) := by decide +kernel
theorem dX9_paidInYear_79 : decode cX9_paidInYear 79 = .ok (.iload_n 3, 1) := by decide +kernel
theorem dX9_paidInYear_80 : decode cX9_paidInYear 80 = .ok (.invokestatic 117, 3) := by decide +kernel
theorem dX9_paidInYear_83 : decode cX9_paidInYear 83 = .ok (.invokevirtual 203, 3) := by decide +kernel
theorem dX9_paidInYear_86 : decode cX9_paidInYear 86 = .ok (.ifCond .eq 7, 3) := by decide +kernel
theorem dX9_paidInYear_89 : decode cX9_paidInYear 89 = .ok (.iconst 3, 1) := by decide +kernel
theorem dX9_paidInYear_90 : decode cX9_paidInYear 90 = .ok (.iload_n 2, 1) := by decide +kernel
theorem dX9_paidInYear_91 : decode cX9_paidInYear 91 = .ok (.imul, 1) := by decide +kernel
theorem dX9_paidInYear_92 : decode cX9_paidInYear 92 = .ok (.ireturn, 1) := by decide +kernel
theorem dX9_paidInYear_93 : decode cX9_paidInYear 93 = .ok (.iload_n 3, 1) := by decide +kernel
theorem dX9_paidInYear_94 : decode cX9_paidInYear 94 = .ok (.ifCond .lt 19, 3) := by decide +kernel
theorem dX9_paidInYear_97 : decode cX9_paidInYear 97 = .ok (.iload_n 3, 1) := by decide +kernel
theorem dX9_paidInYear_98 : decode cX9_paidInYear 98 = .ok (.bipush 6, 2) := by decide +kernel
theorem dX9_paidInYear_100 : decode cX9_paidInYear 100 = .ok (.if_icmp .ge 13, 3) := by decide +kernel
theorem dX9_paidInYear_103 : decode cX9_paidInYear 103 = .ok (.aload_n 0, 1) := by decide +kernel
theorem dX9_paidInYear_104 : decode cX9_paidInYear 104 = .ok (.getfield 76, 3) := by decide +kernel
theorem dX9_paidInYear_107 : decode cX9_paidInYear 107 = .ok (.iload_n 3, 1) := by decide +kernel
theorem dX9_paidInYear_108 : decode cX9_paidInYear 108 = .ok (.dup2, 1) := by decide +kernel
theorem dX9_paidInYear_109 : decode cX9_paidInYear 109 = .ok (.iaload, 1) := by decide +kernel
theorem dX9_paidInYear_110 : decode cX9_paidInYear 110 = .ok (.iconst 1, 1) := by decide +kernel
theorem dX9_paidInYear_111 : decode cX9_paidInYear 111 = .ok (.iadd, 1) := by decide +kernel
theorem dX9_paidInYear_112 : decode cX9_paidInYear 112 = .ok (.iastore, 1) := by decide +kernel
theorem dX9_paidInYear_113 : decode cX9_paidInYear 113 = .ok (.iload_n 2, 1) := by decide +kernel
theorem dX9_paidInYear_114 : decode cX9_paidInYear 114 = .ok (.ireturn, 1) := by decide +kernel
theorem dX9_commonDivisor_0 : decode cX9_commonDivisor 0 = .ok (.iconst 0, 1) := by decide +kernel
theorem dX9_commonDivisor_1 : decode cX9_commonDivisor 1 = .ok (.istore_n 2, 1) := by decide +kernel
theorem dX9_commonDivisor_2 : decode cX9_commonDivisor 2 = .ok (.iload_n 2, 1) := by decide +kernel
theorem dX9_commonDivisor_3 : decode cX9_commonDivisor 3 = .ok (.bipush 100, 2) := by decide +kernel
theorem dX9_commonDivisor_5 : decode cX9_commonDivisor 5 = .ok (.if_icmp .ge 21, 3) := by decide +kernel
theorem dX9_commonDivisor_8 : decode cX9_commonDivisor 8 = .ok (.iload_n 1, 1) := by decide +kernel
theorem dX9_commonDivisor_9 : decode cX9_commonDivisor 9 = .ok (.ifCond .eq 17, 3) := by decide +kernel
theorem dX9_commonDivisor_12 : decode cX9_commonDivisor 12 = .ok (.iload_n 0, 1) := by decide +kernel
theorem dX9_commonDivisor_13 : decode cX9_commonDivisor 13 = .ok (.iload_n 1, 1) := by decide +kernel
theorem dX9_commonDivisor_14 : decode cX9_commonDivisor 14 = .ok (.irem, 1) := by decide +kernel
theorem dX9_commonDivisor_15 : decode cX9_commonDivisor 15 = .ok (.istore_n 3, 1) := by decide +kernel
theorem dX9_commonDivisor_16 : decode cX9_commonDivisor 16 = .ok (.iload_n 1, 1) := by decide +kernel
theorem dX9_commonDivisor_17 : decode cX9_commonDivisor 17 = .ok (.istore_n 0, 1) := by decide +kernel
theorem dX9_commonDivisor_18 : decode cX9_commonDivisor 18 = .ok (.iload_n 3, 1) := by decide +kernel
theorem dX9_commonDivisor_19 : decode cX9_commonDivisor 19 = .ok (.istore_n 1, 1) := by decide +kernel
theorem dX9_commonDivisor_20 : decode cX9_commonDivisor 20 = .ok (.iinc 2 1, 3) := by decide +kernel
theorem dX9_commonDivisor_23 : decode cX9_commonDivisor 23 = .ok (.goto (-21), 3) := by decide +kernel
theorem dX9_commonDivisor_26 : decode cX9_commonDivisor 26 = .ok (.iload_n 0, 1) := by decide +kernel
theorem dX9_commonDivisor_27 : decode cX9_commonDivisor 27 = .ok (.ireturn, 1) := by decide +kernel
theorem dX9_hasBit_0 : decode cX9_hasBit 0 = .ok (.iload_n 0, 1) := by decide +kernel
theorem dX9_hasBit_1 : decode cX9_hasBit 1 = .ok (.iload_n 1, 1) := by decide +kernel
theorem dX9_hasBit_2 : decode cX9_hasBit 2 = .ok (.ishr, 1) := by decide +kernel
theorem dX9_hasBit_3 : decode cX9_hasBit 3 = .ok (.iconst 1, 1) := by decide +kernel
theorem dX9_hasBit_4 : decode cX9_hasBit 4 = .ok (.iand, 1) := by decide +kernel
theorem dX9_hasBit_5 : decode cX9_hasBit 5 = .ok (.iconst 1, 1) := by decide +kernel
theorem dX9_hasBit_6 : decode cX9_hasBit 6 = .ok (.if_icmp .ne 7, 3) := by decide +kernel
theorem dX9_hasBit_9 : decode cX9_hasBit 9 = .ok (.iconst 1, 1) := by decide +kernel
theorem dX9_hasBit_10 : decode cX9_hasBit 10 = .ok (.goto 4, 3) := by decide +kernel
theorem dX9_hasBit_13 : decode cX9_hasBit 13 = .ok (.iconst 0, 1) := by decide +kernel
theorem dX9_hasBit_14 : decode cX9_hasBit 14 = .ok (.ireturn, 1) := by decide +kernel
theorem dX9_at_0 : decode cX9_at 0 = .ok (.iload_n 1, 1) := by decide +kernel
theorem dX9_at_1 : decode cX9_at 1 = .ok (.ifCond .lt 15, 3) := by decide +kernel
theorem dX9_at_4 : decode cX9_at 4 = .ok (.iload_n 1, 1) := by decide +kernel
theorem dX9_at_5 : decode cX9_at 5 = .ok (.aload_n 0, 1) := by decide +kernel
theorem dX9_at_6 : decode cX9_at 6 = .ok (.arraylength, 1) := by decide +kernel
theorem dX9_at_7 : decode cX9_at 7 = .ok (.if_icmp .ge 9, 3) := by decide +kernel
theorem dX9_at_10 : decode cX9_at 10 = .ok (.aload_n 0, 1) := by decide +kernel
theorem dX9_at_11 : decode cX9_at 11 = .ok (.iload_n 1, 1) := by decide +kernel
theorem dX9_at_12 : decode cX9_at 12 = .ok (.iaload, 1) := by decide +kernel
theorem dX9_at_13 : decode cX9_at 13 = .ok (.goto 4, 3) := by decide +kernel
theorem dX9_at_16 : decode cX9_at 16 = .ok (.iconst 0, 1) := by decide +kernel
theorem dX9_at_17 : decode cX9_at 17 = .ok (.ireturn, 1) := by decide +kernel
theorem dX10_in_0 : decode cX10_in 0 = .ok (.lload_n 0, 1) := by decide +kernel
theorem dX10_in_1 : decode cX10_in 1 = .ok (.lload_n 2, 1) := by decide +kernel
theorem dX10_in_2 : decode cX10_in 2 = .ok (.lcmp, 1) := by decide +kernel
theorem dX10_in_3 : decode cX10_in 3 = .ok (.ifCond .lt 14, 3) := by decide +kernel
theorem dX10_in_6 : decode cX10_in 6 = .ok (.lload_n 0, 1) := by decide +kernel
theorem dX10_in_7 : decode cX10_in 7 = .ok (.lload 4, 2) := by decide +kernel
theorem dX10_in_9 : decode cX10_in 9 = .ok (.lcmp, 1) := by decide +kernel
theorem dX10_in_10 : decode cX10_in 10 = .ok (.ifCond .gt 7, 3) := by decide +kernel
theorem dX10_in_13 : decode cX10_in 13 = .ok (.iconst 1, 1) := by decide +kernel
theorem dX10_in_14 : decode cX10_in 14 = .ok (.goto 4, 3) := by decide +kernel
theorem dX10_in_17 : decode cX10_in 17 = .ok (.iconst 0, 1) := by decide +kernel
theorem dX10_in_18 : decode cX10_in 18 = .ok (.ireturn, 1) := by decide +kernel
theorem dX10_init_0 : decode cX10_init 0 = .ok (.aload_n 0, 1) := by decide +kernel
theorem dX10_init_1 : decode cX10_init 1 = .ok (.invokespecial 1, 3) := by decide +kernel
theorem dX10_init_4 : decode cX10_init 4 = .ok (.aload_n 0, 1) := by decide +kernel
theorem dX10_init_5 : decode cX10_init 5 = .ok (.bipush 98, 2) := by decide +kernel
theorem dX10_init_7 : decode cX10_init 7 = .ok (.newarray .int, 2) := by decide +kernel
theorem dX10_init_9 : decode cX10_init 9 = .ok (.putfield 7, 3) := by decide +kernel
theorem dX10_init_12 : decode cX10_init 12 = .ok (.aload_n 0, 1) := by decide +kernel
theorem dX10_init_13 : decode cX10_init 13 = .ok (.sipush 784, 3) := by decide +kernel
theorem dX10_init_16 : decode cX10_init 16 = .ok (.newarray .int, 2) := by decide +kernel
theorem dX10_init_18 : decode cX10_init 18 = .ok (.putfield 13, 3) := by decide +kernel
theorem dX10_init_21 : decode cX10_init 21 = .ok (.aload_n 0, 1) := by decide +kernel
theorem dX10_init_22 : decode cX10_init 22 = .ok (.sipush 196, 3) := by decide +kernel
theorem dX10_init_25 : decode cX10_init 25 = .ok (.newarray .int, 2) := by decide +kernel
theorem dX10_init_27 : decode cX10_init 27 = .ok (.putfield 16, 3) := by decide +kernel
theorem dX10_init_30 : decode cX10_init 30 = .ok (.aload_n 0, 1) := by decide +kernel
theorem dX10_init_31 : decode cX10_init 31 = .ok (.iconst 2, 1) := by decide +kernel
theorem dX10_init_32 : decode cX10_init 32 = .ok (.newarray .boolean, 2) := by decide +kernel
theorem dX10_init_34 : decode cX10_init 34 = .ok (.putfield 19, 3) := by decide +kernel
theorem dX10_init_37 : decode cX10_init 37 = .ok (.aload_n 0, 1) := by decide +kernel
theorem dX10_init_38 : decode cX10_init 38 = .ok (.bipush 6, 2) := by decide +kernel
theorem dX10_init_40 : decode cX10_init 40 = .ok (.newarray .int, 2) := by decide +kernel
theorem dX10_init_42 : decode cX10_init 42 = .ok (.putfield 23, 3) := by decide +kernel
theorem dX10_init_45 : decode cX10_init 45 = .ok (.aload_n 0, 1) := by decide +kernel
theorem dX10_init_46 : decode cX10_init 46 = .ok (.bipush 12, 2) := by decide +kernel
theorem dX10_init_48 : decode cX10_init 48 = .ok (.newarray .int, 2) := by decide +kernel
theorem dX10_init_50 : decode cX10_init 50 = .ok (.putfield 26, 3) := by decide +kernel
theorem dX10_init_53 : decode cX10_init 53 = .ok (.aload_n 0, 1) := by decide +kernel
theorem dX10_init_54 : decode cX10_init 54 = .ok (.sipush 160, 3) := by decide +kernel
theorem dX10_init_57 : decode cX10_init 57 = .ok (.newarray .int, 2) := by decide +kernel
theorem dX10_init_59 : decode cX10_init 59 = .ok (.putfield 29, 3) := by decide +kernel
theorem dX10_init_62 : decode cX10_init 62 = .ok (.aload_n 0, 1) := by decide +kernel
theorem dX10_init_63 : decode cX10_init 63 = .ok (.bipush 56, 2) := by decide +kernel
theorem dX10_init_65 : decode cX10_init 65 = .ok (.newarray .int, 2) := by decide +kernel
theorem dX10_init_67 : decode cX10_init 67 = .ok (.putfield 32, 3) := by decide +kernel
theorem dX10_init_70 : decode cX10_init 70 = .ok (.aload_n 0, 1) := by decide +kernel
theorem dX10_init_71 : decode cX10_init 71 = .ok (.bipush 6, 2) := by decide +kernel
theorem dX10_init_73 : decode cX10_init 73 = .ok (.newarray .int, 2) := by decide +kernel
theorem dX10_init_75 : decode cX10_init 75 = .ok (.putfield 35, 3) := by decide +kernel
theorem dX10_init_78 : decode cX10_init 78 = .ok (.aload_n 0, 1) := by decide +kernel
theorem dX10_init_79 : decode cX10_init 79 = .ok (.bipush 6, 2) := by decide +kernel
theorem dX10_init_81 : decode cX10_init 81 = .ok (.newarray .int, 2) := by decide +kernel
theorem dX10_init_83 : decode cX10_init 83 = .ok (.putfield 38, 3) := by decide +kernel
theorem dX10_init_86 : decode cX10_init 86 = .ok (.aload_n 0, 1) := by decide +kernel
theorem dX10_init_87 : decode cX10_init 87 = .ok (.bipush 6, 2) := by decide +kernel
theorem dX10_init_89 : decode cX10_init 89 = .ok (.newarray .int, 2) := by decide +kernel
theorem dX10_init_91 : decode cX10_init 91 = .ok (.putfield 41, 3) := by decide +kernel
theorem dX10_init_94 : decode cX10_init 94 = .ok (.aload_n 0, 1) := by decide +kernel
theorem dX10_init_95 : decode cX10_init 95 = .ok (.iconst 3, 1) := by decide +kernel
theorem dX10_init_96 : decode cX10_init 96 = .ok (.newarray .int, 2) := by decide +kernel
theorem dX10_init_98 : decode cX10_init 98 = .ok (.putfield 44, 3) := by decide +kernel
theorem dX10_init_101 : decode cX10_init 101 = .ok (.aload_n 0, 1) := by decide +kernel
theorem dX10_init_102 : decode cX10_init 102 = .ok (.invokevirtual 47, 3) := by decide +kernel
theorem dX10_init_105 : decode cX10_init 105 = .ok (.return_, 1) := by decide +kernel
theorem dX10_empties_0 : decode cX10_empties 0 = .ok (.iconst 0, 1) := by decide +kernel
theorem dX10_empties_1 : decode cX10_empties 1 = .ok (.istore_n 1, 1) := by decide +kernel
theorem dX10_empties_2 : decode cX10_empties 2 = .ok (.iload_n 1, 1) := by decide +kernel
theorem dX10_empties_3 : decode cX10_empties 3 = .ok (.bipush 98, 2) := by decide +kernel
theorem dX10_empties_5 : decode cX10_empties 5 = .ok (.if_icmp .ge 34, 3) := by decide +kernel
theorem dX10_empties_8 : decode cX10_empties 8 = .ok (.aload_n 0, 1) := by decide +kernel
theorem dX10_empties_9 : decode cX10_empties 9 = .ok (.getfield 7, 3) := by decide +kernel
theorem dX10_empties_12 : decode cX10_empties 12 = .ok (.iload_n 1, 1) := by decide +kernel
theorem dX10_empties_13 : decode cX10_empties 13 = .ok (.iload_n 1, 1) := by decide +kernel
theorem dX10_empties_14 : decode cX10_empties 14 = .ok (.i2l, 1) := by decide +kernel
theorem dX10_empties_15 : decode cX10_empties 15 = .ok (.ldc2_w 50, 3) := by decide +kernel
theorem dX10_empties_18 : decode cX10_empties 18 = .ok (.ldc2_w 52, 3) := by decide +kernel
theorem dX10_empties_21 : decode cX10_empties 21 = .ok (.invokestatic 54, 3) := by decide +kernel
theorem dX10_empties_24 : decode cX10_empties 24 = .ok (.ifCond .eq 7, 3) := by decide +kernel
theorem dX10_empties_27 : decode cX10_empties 27 = .ok (.iconst 3, 1) := by decide +kernel
theorem dX10_empties_28 : decode cX10_empties 28 = .ok (.goto 4, 3) := by decide +kernel
theorem dX10_empties_31 : decode cX10_empties 31 = .ok (.iconst 0, 1) := by decide +kernel
theorem dX10_empties_32 : decode cX10_empties 32 = .ok (.iastore, 1) := by decide +kernel
theorem dX10_empties_33 : decode cX10_empties 33 = .ok (.iinc 1 1, 3) := by decide +kernel
theorem dX10_empties_36 : decode cX10_empties 36 = .ok (.goto (-34), 3) := by decide +kernel
theorem dX10_empties_39 : decode cX10_empties 39 = .ok (.return_, 1) := by decide +kernel
theorem dX10_isWord_0 : decode cX10_isWord 0 = .ok (.iload_n 1, 1) := by decide +kernel
theorem dX10_isWord_1 : decode cX10_isWord 1 = .ok (.i2l, 1) := by decide +kernel
theorem dX10_isWord_2 : decode cX10_isWord 2 = .ok (.lconst 0, 1) := by decide +kernel
theorem dX10_isWord_3 : decode cX10_isWord 3 = .ok (.aload_n 0, 1) := by decide +kernel
theorem dX10_isWord_4 : decode cX10_isWord 4 = .ok (.getfield 7, 3) := by decide +kernel
theorem dX10_isWord_7 : decode cX10_isWord 7 = .ok (.iconst 0, 1) := by decide +kernel
theorem dX10_isWord_8 : decode cX10_isWord 8 = .ok (.iaload, 1) := by decide +kernel
theorem dX10_isWord_9 : decode cX10_isWord 9 = .ok (.iconst 1, 1) := by decide +kernel
theorem dX10_isWord_10 : decode cX10_isWord 10 = .ok (.isub, 1) := by decide +kernel
theorem dX10_isWord_11 : decode cX10_isWord 11 = .ok (.i2l, 1) := by decide +kernel
theorem dX10_isWord_12 : decode cX10_isWord 12 = .ok (.invokestatic 54, 3) := by decide +kernel
theorem dX10_isWord_15 : decode cX10_isWord 15 = .ok (.ireturn, 1) := by decide +kernel
theorem dX10_isWare_0 : decode cX10_isWare 0 = .ok (.iload_n 1, 1) := by decide +kernel
theorem dX10_isWare_1 : decode cX10_isWare 1 = .ok (.i2l, 1) := by decide +kernel
theorem dX10_isWare_2 : decode cX10_isWare 2 = .ok (.lconst 0, 1) := by decide +kernel
theorem dX10_isWare_3 : decode cX10_isWare 3 = .ok (.aload_n 0, 1) := by decide +kernel
theorem dX10_isWare_4 : decode cX10_isWare 4 = .ok (.getfield 7, 3) := by decide +kernel
theorem dX10_isWare_7 : decode cX10_isWare 7 = .ok (.iconst 1, 1) := by decide +kernel
theorem dX10_isWare_8 : decode cX10_isWare 8 = .ok (.iaload, 1) := by decide +kernel
theorem dX10_isWare_9 : decode cX10_isWare 9 = .ok (.iconst 1, 1) := by decide +kernel
theorem dX10_isWare_10 : decode cX10_isWare 10 = .ok (.isub, 1) := by decide +kernel
theorem dX10_isWare_11 : decode cX10_isWare 11 = .ok (.i2l, 1) := by decide +kernel
theorem dX10_isWare_12 : decode cX10_isWare 12 = .ok (.invokestatic 54, 3) := by decide +kernel
theorem dX10_isWare_15 : decode cX10_isWare 15 = .ok (.ireturn, 1) := by decide +kernel
theorem dX10_isClerk_0 : decode cX10_isClerk 0 = .ok (.iload_n 1, 1) := by decide +kernel
theorem dX10_isClerk_1 : decode cX10_isClerk 1 = .ok (.i2l, 1) := by decide +kernel
theorem dX10_isClerk_2 : decode cX10_isClerk 2 = .ok (.lconst 0, 1) := by decide +kernel
theorem dX10_isClerk_3 : decode cX10_isClerk 3 = .ok (.aload_n 0, 1) := by decide +kernel
theorem dX10_isClerk_4 : decode cX10_isClerk 4 = .ok (.getfield 7, 3) := by decide +kernel
theorem dX10_isClerk_7 : decode cX10_isClerk 7 = .ok (.iconst 2, 1) := by decide +kernel
theorem dX10_isClerk_8 : decode cX10_isClerk 8 = .ok (.iaload, 1) := by decide +kernel
theorem dX10_isClerk_9 : decode cX10_isClerk 9 = .ok (.iconst 1, 1) := by decide +kernel
theorem dX10_isClerk_10 : decode cX10_isClerk 10 = .ok (.isub, 1) := by decide +kernel
theorem dX10_isClerk_11 : decode cX10_isClerk 11 = .ok (.i2l, 1) := by decide +kernel
theorem dX10_isClerk_12 : decode cX10_isClerk 12 = .ok (.invokestatic 54, 3) := by decide +kernel
theorem dX10_isClerk_15 : decode cX10_isClerk 15 = .ok (.ireturn, 1) := by decide +kernel
theorem dX10_areBoth_0 : decode cX10_areBoth 0 = .ok (.aload_n 0, 1) := by decide +kernel
theorem dX10_areBoth_1 : decode cX10_areBoth 1 = .ok (.iload_n 1, 1) := by decide +kernel
theorem dX10_areBoth_2 : decode cX10_areBoth 2 = .ok (.invokevirtual 58, 3) := by decide +kernel
theorem dX10_areBoth_5 : decode cX10_areBoth 5 = .ok (.ifCond .eq 15, 3) := by decide +kernel
theorem dX10_areBoth_8 : decode cX10_areBoth 8 = .ok (.aload_n 0, 1) := by decide +kernel
theorem dX10_areBoth_9 : decode cX10_areBoth 9 = .ok (.iload_n 2, 1) := by decide +kernel
theorem dX10_areBoth_10 : decode cX10_areBoth 10 = .ok (.invokevirtual 62, 3) := by decide +kernel
theorem dX10_areBoth_13 : decode cX10_areBoth 13 = .ok (.ifCond .eq 7, 3) := by decide +kernel
theorem dX10_areBoth_16 : decode cX10_areBoth 16 = .ok (.iconst 1, 1) := by decide +kernel
theorem dX10_areBoth_17 : decode cX10_areBoth 17 = .ok (.goto 4, 3) := by decide +kernel
theorem dX10_areBoth_20 : decode cX10_areBoth 20 = .ok (.iconst 0, 1) := by decide +kernel
theorem dX10_areBoth_21 : decode cX10_areBoth 21 = .ok (.ireturn, 1) := by decide +kernel
theorem dX10_write_0 : decode cX10_write 0 = .ok (.iload_n 1, 1) := by decide +kernel
theorem dX10_write_1 : decode cX10_write 1 = .ok (.i2l, 1) := by decide +kernel
theorem dX10_write_2 : decode cX10_write 2 = .ok (.lconst 0, 1) := by decide +kernel
theorem dX10_write_3 : decode cX10_write 3 = .ok (.ldc2_w 65, 3) := by decide +kernel
theorem dX10_write_6 : decode cX10_write 6 = .ok (.invokestatic 54, 3) := by decide +kernel
theorem dX10_write_9 : decode cX10_write 9 = .ok (.ifCond .ne 6, 3) := by decide +kernel
theorem dX10_write_12 : decode cX10_write 12 = .ok (.bipush (-3), 2) := by decide +kernel
theorem dX10_write_14 : decode cX10_write 14 = .ok (.ireturn, 1) := by decide +kernel
theorem dX10_write_15 : decode cX10_write 15 = .ok (.aload_n 0, 1) := by decide +kernel
theorem dX10_write_16 : decode cX10_write 16 = .ok (.getfield 67, 3) := by decide +kernel
theorem dX10_write_19 : decode cX10_write 19 = .ok (.sipush 160, 3) := by decide +kernel
theorem dX10_write_22 : decode cX10_write 22 = .ok (.if_icmp .ne 6, 3) := by decide +kernel
theorem dX10_write_25 : decode cX10_write 25 = .ok (.bipush (-5), 2) := by decide +kernel
theorem dX10_write_27 : decode cX10_write 27 = .ok (.ireturn, 1) := by decide +kernel
theorem dX10_write_28 : decode cX10_write 28 = .ok (.aload_n 0, 1) := by decide +kernel
theorem dX10_write_29 : decode cX10_write 29 = .ok (.getfield 29, 3) := by decide +kernel
theorem dX10_write_32 : decode cX10_write 32 = .ok (.aload_n 0, 1) := by decide +kernel
theorem dX10_write_33 : decode cX10_write 33 = .ok (.getfield 67, 3) := by decide +kernel
theorem dX10_write_36 : decode cX10_write 36 = .ok (.iload_n 1, 1) := by decide +kernel
theorem dX10_write_37 : decode cX10_write 37 = .ok (.iastore, 1) := by decide +kernel
theorem dX10_write_38 : decode cX10_write 38 = .ok (.aload_n 0, 1) := by decide +kernel
theorem dX10_write_39 : decode cX10_write 39 = .ok (.dup, 1) := by decide +kernel
theorem dX10_write_40 : decode cX10_write 40 = .ok (.getfield 67, 3) := by decide +kernel
theorem dX10_write_43 : decode cX10_write 43 = .ok (.iconst 1, 1) := by decide +kernel
theorem dX10_write_44 : decode cX10_write 44 = .ok (.iadd, 1) := by decide +kernel
theorem dX10_write_45 : decode cX10_write 45 = .ok (.putfield 67, 3) := by decide +kernel
theorem dX10_write_48 : decode cX10_write 48 = .ok (.aload_n 0, 1) := by decide +kernel
theorem dX10_write_49 : decode cX10_write 49 = .ok (.getfield 67, 3) := by decide +kernel
theorem dX10_write_52 : decode cX10_write 52 = .ok (.ireturn, 1) := by decide +kernel
