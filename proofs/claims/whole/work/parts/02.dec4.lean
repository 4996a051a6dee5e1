theorem dX10_shortestOf_13 : decode cX10_shortestOf 13 = .ok (.iload_n 3, 1) := by decide +kernel
theorem dX10_shortestOf_14 : decode cX10_shortestOf 14 = .ok (.invokevirtual 228, 3) := by decide +kernel
theorem dX10_shortestOf_17 : decode cX10_shortestOf 17 = .ok (.istore 4, 2) := by decide +kernel
theorem dX10_shortestOf_19 : decode cX10_shortestOf 19 = .ok (.iconst 0, 1) := by decide +kernel
theorem dX10_shortestOf_20 : decode cX10_shortestOf 20 = .ok (.istore 5, 2) := by decide +kernel
theorem dX10_shortestOf_22 : decode cX10_shortestOf 22 = .ok (.iload 5, 2) := by decide +kernel
theorem dX10_shortestOf_24 : decode cX10_shortestOf 24 = .ok (.iload 4, 2) := by decide +kernel
theorem dX10_shortestOf_26 : decode cX10_shortestOf 26 = .ok (.if_icmp .ge 31, 3) := by decide +kernel
theorem dX10_shortestOf_29 : decode cX10_shortestOf 29 = .ok (.aload_n 0, 1) := by decide +kernel
theorem dX10_shortestOf_30 : decode cX10_shortestOf 30 = .ok (.iload 5, 2) := by decide +kernel
theorem dX10_shortestOf_32 : decode cX10_shortestOf 32 = .ok (.iload_n 3, 1) := by decide +kernel
theorem dX10_shortestOf_33 : decode cX10_shortestOf 33 = .ok (.invokevirtual 231, 3) := by decide +kernel
theorem dX10_shortestOf_36 : decode cX10_shortestOf 36 = .ok (.aload_n 0, 1) := by decide +kernel
theorem dX10_shortestOf_37 : decode cX10_shortestOf 37 = .ok (.iload_n 3, 1) := by decide +kernel
theorem dX10_shortestOf_38 : decode cX10_shortestOf 38 = .ok (.iload_n 1, 1) := by decide +kernel
theorem dX10_shortestOf_39 : decode cX10_shortestOf 39 = .ok (.iload_n 2, 1) := by decide +kernel
theorem dX10_shortestOf_40 : decode cX10_shortestOf 40 = .ok (.invokevirtual 235, 3) := by decide +kernel
theorem dX10_shortestOf_43 : decode cX10_shortestOf 43 = .ok (.ifCond .eq 8, 3) := by decide +kernel
theorem dX10_shortestOf_46 : decode cX10_shortestOf 46 = .ok (.aload_n 0, 1) := by decide +kernel
theorem dX10_shortestOf_47 : decode cX10_shortestOf 47 = .ok (.iload_n 3, 1) := by decide +kernel
theorem dX10_shortestOf_48 : decode cX10_shortestOf 48 = .ok (.invokevirtual 239, 3) := by decide +kernel
theorem dX10_shortestOf_51 : decode cX10_shortestOf 51 = .ok (.iinc 5 1, 3) := by decide +kernel
theorem dX10_shortestOf_54 : decode cX10_shortestOf 54 = .ok (.goto (-32), 3) := by decide +kernel
theorem dX10_shortestOf_57 : decode cX10_shortestOf 57 = .ok (.aload_n 0, 1) := by decide +kernel
theorem dX10_shortestOf_58 : decode cX10_shortestOf 58 = .ok (.getfield 225, 3) := by decide +kernel
theorem dX10_shortestOf_61 : decode cX10_shortestOf 61 = .ok (.ifCond .le 5, 3) := by decide +kernel
theorem dX10_shortestOf_64 : decode cX10_shortestOf 64 = .ok (.iload_n 3, 1) := by decide +kernel
theorem dX10_shortestOf_65 : decode cX10_shortestOf 65 = .ok (.ireturn, 1) := by decide +kernel
theorem dX10_shortestOf_66 : decode cX10_shortestOf 66 = .ok (.iinc 3 1, 3) := by decide +kernel
theorem dX10_shortestOf_69 : decode cX10_shortestOf 69 = .ok (.goto (-62), 3) := by decide +kernel
theorem dX10_shortestOf_72 : decode cX10_shortestOf 72 = .ok (.iconst (-1), 1) := by decide +kernel
theorem dX10_shortestOf_73 : decode cX10_shortestOf 73 = .ok (.ireturn, 1) := by decide +kernel
theorem dX10_shortest_0 : decode cX10_shortest 0 = .ok (.aload_n 0, 1) := by decide +kernel
theorem dX10_shortest_1 : decode cX10_shortest 1 = .ok (.iload_n 1, 1) := by decide +kernel
theorem dX10_shortest_2 : decode cX10_shortest 2 = .ok (.iload_n 2, 1) := by decide +kernel
theorem dX10_shortest_3 : decode cX10_shortest 3 = .ok (.invokevirtual 208, 3) := by decide +kernel
theorem dX10_shortest_6 : decode cX10_shortest 6 = .ok (.ifCond .ne 6, 3) := by decide +kernel
theorem dX10_shortest_9 : decode cX10_shortest 9 = .ok (.bipush (-2), 2) := by decide +kernel
theorem dX10_shortest_11 : decode cX10_shortest 11 = .ok (.ireturn, 1) := by decide +kernel
theorem dX10_shortest_12 : decode cX10_shortest 12 = .ok (.iload_n 3, 1) := by decide +kernel
theorem dX10_shortest_13 : decode cX10_shortest 13 = .ok (.i2l, 1) := by decide +kernel
theorem dX10_shortest_14 : decode cX10_shortest 14 = .ok (.lconst 0, 1) := by decide +kernel
theorem dX10_shortest_15 : decode cX10_shortest 15 = .ok (.lconst 1, 1) := by decide +kernel
theorem dX10_shortest_16 : decode cX10_shortest 16 = .ok (.invokestatic 54, 3) := by decide +kernel
theorem dX10_shortest_19 : decode cX10_shortest 19 = .ok (.ifCond .ne 6, 3) := by decide +kernel
theorem dX10_shortest_22 : decode cX10_shortest 22 = .ok (.bipush (-3), 2) := by decide +kernel
theorem dX10_shortest_24 : decode cX10_shortest 24 = .ok (.ireturn, 1) := by decide +kernel
theorem dX10_shortest_25 : decode cX10_shortest 25 = .ok (.aload_n 0, 1) := by decide +kernel
theorem dX10_shortest_26 : decode cX10_shortest 26 = .ok (.iload_n 1, 1) := by decide +kernel
theorem dX10_shortest_27 : decode cX10_shortest 27 = .ok (.iload_n 2, 1) := by decide +kernel
theorem dX10_shortest_28 : decode cX10_shortest 28 = .ok (.invokevirtual 242, 3) := by decide +kernel
theorem dX10_shortest_31 : decode cX10_shortest 31 = .ok (.istore 4, 2) := by decide +kernel
theorem dX10_shortest_33 : decode cX10_shortest 33 = .ok (.iload 4, 2) := by decide +kernel
theorem dX10_shortest_35 : decode cX10_shortest 35 = .ok (.iconst (-1), 1) := by decide +kernel
theorem dX10_shortest_36 : decode cX10_shortest 36 = .ok (.if_icmp .ne 7, 3) := by decide +kernel
theorem dX10_shortest_39 : decode cX10_shortest 39 = .ok (.iconst (-1), 1) := by decide +kernel
theorem dX10_shortest_40 : decode cX10_shortest 40 = .ok (.goto 16, 3) := by decide +kernel
theorem dX10_shortest_43 : decode cX10_shortest 43 = .ok (.iload_n 3, 1) := by decide +kernel
theorem dX10_shortest_44 : decode cX10_shortest 44 = .ok (.ifCond .ne 8, 3) := by decide +kernel
theorem dX10_shortest_47 : decode cX10_shortest 47 = .ok (.iload 4, 2) := by decide +kernel
theorem dX10_shortest_49 : decode cX10_shortest 49 = .ok (.goto 7, 3) := by decide +kernel
theorem dX10_shortest_52 : decode cX10_shortest 52 = .ok (.aload_n 0, 1) := by decide +kernel
theorem dX10_shortest_53 : decode cX10_shortest 53 = .ok (.getfield 225, 3) := by decide +kernel
theorem dX10_shortest_56 : decode cX10_shortest 56 = .ok (.ireturn, 1) := by decide +kernel
theorem dX10_shortestWord_0 : decode cX10_shortestWord 0 = .ok (.aload_n 0, 1) := by decide +kernel
theorem dX10_shortestWord_1 : decode cX10_shortestWord 1 = .ok (.iload_n 1, 1) := by decide +kernel
theorem dX10_shortestWord_2 : decode cX10_shortestWord 2 = .ok (.iload_n 2, 1) := by decide +kernel
theorem dX10_shortestWord_3 : decode cX10_shortestWord 3 = .ok (.invokevirtual 208, 3) := by decide +kernel
theorem dX10_shortestWord_6 : decode cX10_shortestWord 6 = .ok (.ifCond .ne 6, 3) := by decide +kernel
theorem dX10_shortestWord_9 : decode cX10_shortestWord 9 = .ok (.bipush (-2), 2) := by decide +kernel
theorem dX10_shortestWord_11 : decode cX10_shortestWord 11 = .ok (.ireturn, 1) := by decide +kernel
theorem dX10_shortestWord_12 : decode cX10_shortestWord 12 = .ok (.iload_n 3, 1) := by decide +kernel
theorem dX10_shortestWord_13 : decode cX10_shortestWord 13 = .ok (.ifCond .ge 6, 3) := by decide +kernel
theorem dX10_shortestWord_16 : decode cX10_shortestWord 16 = .ok (.bipush (-3), 2) := by decide +kernel
theorem dX10_shortestWord_18 : decode cX10_shortestWord 18 = .ok (.ireturn, 1) := by decide +kernel
theorem dX10_shortestWord_19 : decode cX10_shortestWord 19 = .ok (.aload_n 0, 1) := by decide +kernel
theorem dX10_shortestWord_20 : decode cX10_shortestWord 20 = .ok (.iload_n 1, 1) := by decide +kernel
theorem dX10_shortestWord_21 : decode cX10_shortestWord 21 = .ok (.iload_n 2, 1) := by decide +kernel
theorem dX10_shortestWord_22 : decode cX10_shortestWord 22 = .ok (.invokevirtual 242, 3) := by decide +kernel
theorem dX10_shortestWord_25 : decode cX10_shortestWord 25 = .ok (.istore 4, 2) := by decide +kernel
theorem dX10_shortestWord_27 : decode cX10_shortestWord 27 = .ok (.iload_n 3, 1) := by decide +kernel
theorem dX10_shortestWord_28 : decode cX10_shortestWord 28 = .ok (.iload 4, 2) := by decide +kernel
theorem dX10_shortestWord_30 : decode cX10_shortestWord 30 = .ok (.if_icmp .ge 12, 3) := by decide +kernel
theorem dX10_shortestWord_33 : decode cX10_shortestWord 33 = .ok (.aload_n 0, 1) := by decide +kernel
theorem dX10_shortestWord_34 : decode cX10_shortestWord 34 = .ok (.getfield 38, 3) := by decide +kernel
theorem dX10_shortestWord_37 : decode cX10_shortestWord 37 = .ok (.iload_n 3, 1) := by decide +kernel
theorem dX10_shortestWord_38 : decode cX10_shortestWord 38 = .ok (.iaload, 1) := by decide +kernel
theorem dX10_shortestWord_39 : decode cX10_shortestWord 39 = .ok (.goto 4, 3) := by decide +kernel
theorem dX10_shortestWord_42 : decode cX10_shortestWord 42 = .ok (.iconst (-1), 1) := by decide +kernel
theorem dX10_shortestWord_43 : decode cX10_shortestWord 43 = .ok (.ireturn, 1) := by decide +kernel
theorem dX10_forAll_0 : decode cX10_forAll 0 = .ok (.aload_n 0, 1) := by decide +kernel
theorem dX10_forAll_1 : decode cX10_forAll 1 = .ok (.iload_n 1, 1) := by decide +kernel
theorem dX10_forAll_2 : decode cX10_forAll 2 = .ok (.invokevirtual 58, 3) := by decide +kernel
theorem dX10_forAll_5 : decode cX10_forAll 5 = .ok (.ifCond .ne 6, 3) := by decide +kernel
theorem dX10_forAll_8 : decode cX10_forAll 8 = .ok (.bipush (-2), 2) := by decide +kernel
theorem dX10_forAll_10 : decode cX10_forAll 10 = .ok (.ireturn, 1) := by decide +kernel
theorem dX10_forAll_11 : decode cX10_forAll 11 = .ok (.iload_n 2, 1) := by decide +kernel
theorem dX10_forAll_12 : decode cX10_forAll 12 = .ok (.i2l, 1) := by decide +kernel
theorem dX10_forAll_13 : decode cX10_forAll 13 = .ok (.lconst 0, 1) := by decide +kernel
theorem dX10_forAll_14 : decode cX10_forAll 14 = .ok (.lconst 1, 1) := by decide +kernel
theorem dX10_forAll_15 : decode cX10_forAll 15 = .ok (.invokestatic 54, 3) := by decide +kernel
theorem dX10_forAll_18 : decode cX10_forAll 18 = .ok (.ifCond .ne 6, 3) := by decide +kernel
theorem dX10_forAll_21 : decode cX10_forAll 21 = .ok (.bipush (-3), 2) := by decide +kernel
theorem dX10_forAll_23 : decode cX10_forAll 23 = .ok (.ireturn, 1) := by decide +kernel
theorem dX10_forAll_24 : decode cX10_forAll 24 = .ok (.aload_n 0, 1) := by decide +kernel
theorem dX10_forAll_25 : decode cX10_forAll 25 = .ok (.getfield 7, 3) := by decide +kernel
theorem dX10_forAll_28 : decode cX10_forAll 28 = .ok (.iconst 2, 1) := by decide +kernel
theorem dX10_forAll_29 : decode cX10_forAll 29 = .ok (.iaload, 1) := by decide +kernel
theorem dX10_forAll_30 : decode cX10_forAll 30 = .ok (.ifCond .ne 6, 3) := by decide +kernel
theorem dX10_forAll_33 : decode cX10_forAll 33 = .ok (.bipush (-4), 2) := by decide +kernel
theorem dX10_forAll_35 : decode cX10_forAll 35 = .ok (.ireturn, 1) := by decide +kernel
theorem dX10_forAll_36 : decode cX10_forAll 36 = .ok (.aload_n 0, 1) := by decide +kernel
theorem dX10_forAll_37 : decode cX10_forAll 37 = .ok (.iload_n 1, 1) := by decide +kernel
theorem dX10_forAll_38 : decode cX10_forAll 38 = .ok (.iconst (-1), 1) := by decide +kernel
theorem dX10_forAll_39 : decode cX10_forAll 39 = .ok (.invokevirtual 242, 3) := by decide +kernel
theorem dX10_forAll_42 : decode cX10_forAll 42 = .ok (.istore_n 3, 1) := by decide +kernel
theorem dX10_forAll_43 : decode cX10_forAll 43 = .ok (.iload_n 3, 1) := by decide +kernel
theorem dX10_forAll_44 : decode cX10_forAll 44 = .ok (.iconst (-1), 1) := by decide +kernel
theorem dX10_forAll_45 : decode cX10_forAll 45 = .ok (.if_icmp .ne 7, 3) := by decide +kernel
theorem dX10_forAll_48 : decode cX10_forAll 48 = .ok (.iconst (-1), 1) := by decide +kernel
theorem dX10_forAll_49 : decode cX10_forAll 49 = .ok (.goto 15, 3) := by decide +kernel
theorem dX10_forAll_52 : decode cX10_forAll 52 = .ok (.iload_n 2, 1) := by decide +kernel
theorem dX10_forAll_53 : decode cX10_forAll 53 = .ok (.ifCond .ne 7, 3) := by decide +kernel
theorem dX10_forAll_56 : decode cX10_forAll 56 = .ok (.iload_n 3, 1) := by decide +kernel
theorem dX10_forAll_57 : decode cX10_forAll 57 = .ok (.goto 7, 3) := by decide +kernel
theorem dX10_forAll_60 : decode cX10_forAll 60 = .ok (.aload_n 0, 1) := by decide +kernel
theorem dX10_forAll_61 : decode cX10_forAll 61 = .ok (.getfield 225, 3) := by decide +kernel
theorem dX10_forAll_64 : decode cX10_forAll 64 = .ok (.ireturn, 1) := by decide +kernel
theorem dX10_hidden_0 : decode cX10_hidden 0 = .ok (.iload_n 1, 1) := by decide +kernel
theorem dX10_hidden_1 : decode cX10_hidden 1 = .ok (.i2l, 1) := by decide +kernel
theorem dX10_hidden_2 : decode cX10_hidden 2 = .ok (.lconst 1, 1) := by decide +kernel
theorem dX10_hidden_3 : decode cX10_hidden 3 = .ok (.ldc2_w 185, 3) := by decide +kernel
theorem dX10_hidden_6 : decode cX10_hidden 6 = .ok (.invokestatic 54, 3) := by decide +kernel
theorem dX10_hidden_9 : decode cX10_hidden 9 = .ok (.ifCond .ne 6, 3) := by decide +kernel
theorem dX10_hidden_12 : decode cX10_hidden 12 = .ok (.bipush (-3), 2) := by decide +kernel
theorem dX10_hidden_14 : decode cX10_hidden 14 = .ok (.ireturn, 1) := by decide +kernel
theorem dX10_hidden_15 : decode cX10_hidden 15 = .ok (.iconst (-1), 1) := by decide +kernel
theorem dX10_hidden_16 : decode cX10_hidden 16 = .ok (.istore_n 2, 1) := by decide +kernel
theorem dX10_hidden_17 : decode cX10_hidden 17 = .ok (.aload_n 0, 1) := by decide +kernel
theorem dX10_hidden_18 : decode cX10_hidden 18 = .ok (.iload_n 1, 1) := by decide +kernel
theorem dX10_hidden_19 : decode cX10_hidden 19 = .ok (.invokevirtual 228, 3) := by decide +kernel
theorem dX10_hidden_22 : decode cX10_hidden 22 = .ok (.istore_n 3, 1) := by decide +kernel
theorem dX10_hidden_23 : decode cX10_hidden 23 = .ok (.iconst 0, 1) := by decide +kernel
theorem dX10_hidden_24 : decode cX10_hidden 24 = .ok (.istore 4, 2) := by decide +kernel
theorem dX10_hidden_26 : decode cX10_hidden 26 = .ok (.iload 4, 2) := by decide +kernel
theorem dX10_hidden_28 : decode cX10_hidden 28 = .ok (.iload_n 3, 1) := by decide +kernel
theorem dX10_hidden_29 : decode cX10_hidden 29 = .ok (.if_icmp .ge 67, 3) := by decide +kernel
theorem dX10_hidden_32 : decode cX10_hidden 32 = .ok (.aload_n 0, 1) := by decide +kernel
theorem dX10_hidden_33 : decode cX10_hidden 33 = .ok (.iload 4, 2) := by decide +kernel
theorem dX10_hidden_35 : decode cX10_hidden 35 = .ok (.iload_n 1, 1) := by decide +kernel
theorem dX10_hidden_36 : decode cX10_hidden 36 = .ok (.invokevirtual 231, 3) := by decide +kernel
theorem dX10_hidden_39 : decode cX10_hidden 39 = .ok (.aload_n 0, 1) := by decide +kernel
theorem dX10_hidden_40 : decode cX10_hidden 40 = .ok (.aload_n 0, 1) := by decide +kernel
theorem dX10_hidden_41 : decode cX10_hidden 41 = .ok (.getfield 35, 3) := by decide +kernel
theorem dX10_hidden_44 : decode cX10_hidden 44 = .ok (.iload_n 1, 1) := by decide +kernel
theorem dX10_hidden_45 : decode cX10_hidden 45 = .ok (.invokevirtual 204, 3) := by decide +kernel
theorem dX10_hidden_48 : decode cX10_hidden 48 = .ok (.ifCond .eq 26, 3) := by decide +kernel
theorem dX10_hidden_51 : decode cX10_hidden 51 = .ok (.aload_n 0, 1) := by decide +kernel
theorem dX10_hidden_52 : decode cX10_hidden 52 = .ok (.aload_n 0, 1) := by decide +kernel
theorem dX10_hidden_53 : decode cX10_hidden 53 = .ok (.getfield 35, 3) := by decide +kernel
theorem dX10_hidden_56 : decode cX10_hidden 56 = .ok (.iload_n 1, 1) := by decide +kernel
theorem dX10_hidden_57 : decode cX10_hidden 57 = .ok (.invokevirtual 197, 3) := by decide +kernel
theorem dX10_hidden_60 : decode cX10_hidden 60 = .ok (.aload_n 0, 1) := by decide +kernel
theorem dX10_hidden_61 : decode cX10_hidden 61 = .ok (.iconst 1, 1) := by decide +kernel
theorem dX10_hidden_62 : decode cX10_hidden 62 = .ok (.aload_n 0, 1) := by decide +kernel
theorem dX10_hidden_63 : decode cX10_hidden 63 = .ok (.getfield 35, 3) := by decide +kernel
theorem dX10_hidden_66 : decode cX10_hidden 66 = .ok (.iload_n 1, 1) := by decide +kernel
theorem dX10_hidden_67 : decode cX10_hidden 67 = .ok (.invokevirtual 190, 3) := by decide +kernel
theorem dX10_hidden_70 : decode cX10_hidden 70 = .ok (.isub, 1) := by decide +kernel
theorem dX10_hidden_71 : decode cX10_hidden 71 = .ok (.goto 4, 3) := by decide +kernel
theorem dX10_hidden_74 : decode cX10_hidden 74 = .ok (.iconst (-1), 1) := by decide +kernel
theorem dX10_hidden_75 : decode cX10_hidden 75 = .ok (.istore 5, 2) := by decide +kernel
theorem dX10_hidden_77 : decode cX10_hidden 77 = .ok (.iload 5, 2) := by decide +kernel
theorem dX10_hidden_79 : decode cX10_hidden 79 = .ok (.iload_n 2, 1) := by decide +kernel
theorem dX10_hidden_80 : decode cX10_hidden 80 = .ok (.if_icmp .le 8, 3) := by decide +kernel
theorem dX10_hidden_83 : decode cX10_hidden 83 = .ok (.iload 5, 2) := by decide +kernel
theorem dX10_hidden_85 : decode cX10_hidden 85 = .ok (.goto 4, 3) := by decide +kernel
theorem dX10_hidden_88 : decode cX10_hidden 88 = .ok (.iload_n 2, 1) := by decide +kernel
theorem dX10_hidden_89 : decode cX10_hidden 89 = .ok (.istore_n 2, 1) := by decide +kernel
theorem dX10_hidden_90 : decode cX10_hidden 90 = .ok (.iinc 4 1, 3) := by decide +kernel
theorem dX10_hidden_93 : decode cX10_hidden 93 = .ok (.goto (-67), 3) := by decide +kernel
theorem dX10_hidden_96 : decode cX10_hidden 96 = .ok (.iload_n 2, 1) := by decide +kernel
theorem dX10_hidden_97 : decode cX10_hidden 97 = .ok (.ireturn, 1) := by decide +kernel
theorem dX10_altered_0 : decode cX10_altered 0 = .ok (.aload_n 0, 1) := by decide +kernel
theorem dX10_altered_1 : decode cX10_altered 1 = .ok (.iload_n 1, 1) := by decide +kernel
theorem dX10_altered_2 : decode cX10_altered 2 = .ok (.iload_n 2, 1) := by decide +kernel
theorem dX10_altered_3 : decode cX10_altered 3 = .ok (.invokevirtual 208, 3) := by decide +kernel
theorem dX10_altered_6 : decode cX10_altered 6 = .ok (.ifCond .ne 6, 3) := by decide +kernel
theorem dX10_altered_9 : decode cX10_altered 9 = .ok (.bipush (-2), 2) := by decide +kernel
theorem dX10_altered_11 : decode cX10_altered 11 = .ok (.ireturn, 1) := by decide +kernel
theorem dX10_altered_12 : decode cX10_altered 12 = .ok (.iload_n 3, 1) := by decide +kernel
theorem dX10_altered_13 : decode cX10_altered 13 = .ok (.iconst (-1), 1) := by decide +kernel
theorem dX10_altered_14 : decode cX10_altered 14 = .ok (.if_icmp .ge 6, 3) := by decide +kernel
theorem dX10_altered_17 : decode cX10_altered 17 = .ok (.bipush (-3), 2) := by decide +kernel
theorem dX10_altered_19 : decode cX10_altered 19 = .ok (.ireturn, 1) := by decide +kernel
theorem dX10_altered_20 : decode cX10_altered 20 = .ok (.iconst (-1), 1) := by decide +kernel
theorem dX10_altered_21 : decode cX10_altered 21 = .ok (.istore 4, 2) := by decide +kernel
theorem dX10_altered_23 : decode cX10_altered 23 = .ok (.aload_n 0, 1) := by decide +kernel
theorem dX10_altered_24 : decode cX10_altered 24 = .ok (.getfield 161, 3) := by decide +kernel
theorem dX10_altered_27 : decode cX10_altered 27 = .ok (.ifCond .ne 7, 3) := by decide +kernel
theorem dX10_altered_30 : decode cX10_altered 30 = .ok (.iconst 0, 1) := by decide +kernel
theorem dX10_altered_31 : decode cX10_altered 31 = .ok (.goto 11, 3) := by decide +kernel
theorem dX10_altered_34 : decode cX10_altered 34 = .ok (.aload_n 0, 1) := by decide +kernel
theorem dX10_altered_35 : decode cX10_altered 35 = .ok (.aload_n 0, 1) := by decide +kernel
theorem dX10_altered_36 : decode cX10_altered 36 = .ok (.getfield 161, 3) := by decide +kernel
theorem dX10_altered_39 : decode cX10_altered 39 = .ok (.invokevirtual 228, 3) := by decide +kernel
theorem dX10_altered_42 : decode cX10_altered 42 = .ok (.istore 5, 2) := by decide +kernel
theorem dX10_altered_44 : decode cX10_altered 44 = .ok (.iconst 0, 1) := by decide +kernel
theorem dX10_altered_45 : decode cX10_altered 45 = .ok (.istore 6, 2) := by decide +kernel
theorem dX10_altered_47 : decode cX10_altered 47 = .ok (.iload 6, 2) := by decide +kernel
theorem dX10_altered_49 : decode cX10_altered 49 = .ok (.iload 5, 2) := by decide +kernel
theorem dX10_altered_51 : decode cX10_altered 51 = .ok (.if_icmp .ge 133, 3) := by decide +kernel
theorem dX10_altered_54 : decode cX10_altered 54 = .ok (.aload_n 0, 1) := by decide +kernel
theorem dX10_altered_55 : decode cX10_altered 55 = .ok (.iload 6, 2) := by decide +kernel
theorem dX10_altered_57 : decode cX10_altered 57 = .ok (.aload_n 0, 1) := by decide +kernel
theorem dX10_altered_58 : decode cX10_altered 58 = .ok (.getfield 161, 3) := by decide +kernel
theorem dX10_altered_61 : decode cX10_altered 61 = .ok (.invokevirtual 231, 3) := by decide +kernel
theorem dX10_altered_64 : decode cX10_altered 64 = .ok (.iconst 0, 1) := by decide +kernel
theorem dX10_altered_65 : decode cX10_altered 65 = .ok (.istore 7, 2) := by decide +kernel
theorem dX10_altered_67 : decode cX10_altered 67 = .ok (.iconst 0, 1) := by decide +kernel
theorem dX10_altered_68 : decode cX10_altered 68 = .ok (.istore 8, 2) := by decide +kernel
theorem dX10_altered_70 : decode cX10_altered 70 = .ok (.iload 8, 2) := by decide +kernel
theorem dX10_altered_72 : decode cX10_altered 72 = .ok (.aload_n 0, 1) := by decide +kernel
theorem dX10_altered_73 : decode cX10_altered 73 = .ok (.getfield 161, 3) := by decide +kernel
theorem dX10_altered_76 : decode cX10_altered 76 = .ok (.if_icmp .ge 36, 3) := by decide +kernel
theorem dX10_altered_79 : decode cX10_altered 79 = .ok (.iload 7, 2) := by decide +kernel
theorem dX10_altered_81 : decode cX10_altered 81 = .ok (.aload_n 0, 1) := by decide +kernel
theorem dX10_altered_82 : decode cX10_altered 82 = .ok (.getfield 35, 3) := by decide +kernel
theorem dX10_altered_85 : decode cX10_altered 85 = .ok (.iload 8, 2) := by decide +kernel
theorem dX10_altered_87 : decode cX10_altered 87 = .ok (.iaload, 1) := by decide +kernel
theorem dX10_altered_88 : decode cX10_altered 88 = .ok (.aload_n 0, 1) := by decide +kernel
theorem dX10_altered_89 : decode cX10_altered 89 = .ok (.getfield 23, 3) := by decide +kernel
theorem dX10_altered_92 : decode cX10_altered 92 = .ok (.iload 8, 2) := by decide +kernel
theorem dX10_altered_94 : decode cX10_altered 94 = .ok (.iaload, 1) := by decide +kernel
theorem dX10_altered_95 : decode cX10_altered 95 = .ok (.if_icmp .ne 7, 3) := by decide +kernel
theorem dX10_altered_98 : decode cX10_altered 98 = .ok (.iconst 0, 1) := by decide +kernel
theorem dX10_altered_99 : decode cX10_altered 99 = .ok (.goto 4, 3) := by decide +kernel
theorem dX10_altered_102 : decode cX10_altered 102 = .ok (.iconst 1, 1) := by decide +kernel
theorem dX10_altered_103 : decode cX10_altered 103 = .ok (.iadd, 1) := by decide +kernel
theorem dX10_altered_104 : decode cX10_altered 104 = .ok (.istore 7, 2) := by decide +kernel
theorem dX10_altered_106 : decode cX10_altered 106 = .ok (.iinc 8 1, 3) := by decide +kernel
theorem dX10_altered_109 : decode cX10_altered 109 = .ok (.goto (-39), 3) := by decide +kernel
theorem dX10_altered_112 : decode cX10_altered 112 = .ok (.iload 4, 2) := by decide +kernel
theorem dX10_altered_114 : decode cX10_altered 114 = .ok (.iconst (-1), 1) := by decide +kernel
theorem dX10_altered_115 : decode cX10_altered 115 = .ok (.if_icmp .eq 10, 3) := by decide +kernel
theorem dX10_altered_118 : decode cX10_altered 118 = .ok (.iload 7, 2) := by decide +kernel
theorem dX10_altered_120 : decode cX10_altered 120 = .ok (.iload 4, 2) := by decide +kernel
theorem dX10_altered_122 : decode cX10_altered 122 = .ok (.if_icmp .ge 56, 3) := by decide +kernel
theorem dX10_altered_125 : decode cX10_altered 125 = .ok (.aload_n 0, 1) := by decide +kernel
theorem dX10_altered_126 : decode cX10_altered 126 = .ok (.aload_n 0, 1) := by decide +kernel
theorem dX10_altered_127 : decode cX10_altered 127 = .ok (.getfield 35, 3) := by decide +kernel
theorem dX10_altered_130 : decode cX10_altered 130 = .ok (.aload_n 0, 1) := by decide +kernel
theorem dX10_altered_131 : decode cX10_altered 131 = .ok (.getfield 161, 3) := by decide +kernel
theorem dX10_altered_134 : decode cX10_altered 134 = .ok (.iload_n 1, 1) := by decide +kernel
theorem dX10_altered_135 : decode cX10_altered 135 = .ok (.iload_n 2, 1) := by decide +kernel
theorem dX10_altered_136 : decode cX10_altered 136 = .ok (.invokevirtual 211, 3) := by decide +kernel
theorem dX10_altered_139 : decode cX10_altered 139 = .ok (.ifCond .eq 39, 3) := by decide +kernel
theorem dX10_altered_142 : decode cX10_altered 142 = .ok (.iload 7, 2) := by decide +kernel
theorem dX10_altered_144 : decode cX10_altered 144 = .ok (.istore 4, 2) := by decide +kernel
theorem dX10_altered_146 : decode cX10_altered 146 = .ok (.iconst 0, 1) := by decide +kernel
theorem dX10_altered_147 : decode cX10_altered 147 = .ok (.istore 8, 2) := by decide +kernel
theorem dX10_altered_149 : decode cX10_altered 149 = .ok (.iload 8, 2) := by decide +kernel
theorem dX10_altered_151 : decode cX10_altered 151 = .ok (.aload_n 0, 1) := by decide +kernel
theorem dX10_altered_152 : decode cX10_altered 152 = .ok (.getfield 161, 3) := by decide +kernel
theorem dX10_altered_155 : decode cX10_altered 155 = .ok (.if_icmp .ge 23, 3) := by decide +kernel
theorem dX10_altered_158 : decode cX10_altered 158 = .ok (.aload_n 0, 1) := by decide +kernel
theorem dX10_altered_159 : decode cX10_altered 159 = .ok (.getfield 38, 3) := by decide +kernel
theorem dX10_altered_162 : decode cX10_altered 162 = .ok (.iload 8, 2) := by decide +kernel
theorem dX10_altered_164 : decode cX10_altered 164 = .ok (.aload_n 0, 1) := by decide +kernel
theorem dX10_altered_165 : decode cX10_altered 165 = .ok (.getfield 35, 3) := by decide +kernel
theorem dX10_altered_168 : decode cX10_altered 168 = .ok (.iload 8, 2) := by decide +kernel
theorem dX10_altered_170 : decode cX10_altered 170 = .ok (.iaload, 1) := by decide +kernel
theorem dX10_altered_171 : decode cX10_altered 171 = .ok (.iastore, 1) := by decide +kernel
theorem dX10_altered_172 : decode cX10_altered 172 = .ok (.iinc 8 1, 3) := by decide +kernel
theorem dX10_altered_175 : decode cX10_altered 175 = .ok (.goto (-26), 3) := by decide +kernel
theorem dX10_altered_178 : decode cX10_altered 178 = .ok (.iinc 6 1, 3) := by decide +kernel
theorem dX10_altered_181 : decode cX10_altered 181 = .ok (.goto (-134), 3) := by decide +kernel
theorem dX10_altered_184 : decode cX10_altered 184 = .ok (.iload 4, 2) := by decide +kernel
theorem dX10_altered_186 : decode cX10_altered 186 = .ok (.iconst (-1), 1) := by decide +kernel
theorem dX10_altered_187 : decode cX10_altered 187 = .ok (.if_icmp .eq 8, 3) := by decide +kernel
theorem dX10_altered_190 : decode cX10_altered 190 = .ok (.iload_n 3, 1) := by decide +kernel
theorem dX10_altered_191 : decode cX10_altered 191 = .ok (.iconst (-1), 1) := by decide +kernel
theorem dX10_altered_192 : decode cX10_altered 192 = .ok (.if_icmp .ne 8, 3) := by decide +kernel
theorem dX10_altered_195 : decode cX10_altered 195 = .ok (.iload 4, 2) := by decide +kernel
theorem dX10_altered_197 : decode cX10_altered 197 = .ok (.goto 21, 3) := by decide +kernel
theorem dX10_altered_200 : decode cX10_altered 200 = .ok (.iload_n 3, 1) := by decide +kernel
theorem dX10_altered_201 : decode cX10_altered 201 = .ok (.aload_n 0, 1) := by decide +kernel
theorem dX10_altered_202 : decode cX10_altered 202 = .ok (.getfield 161, 3) := by decide +kernel
theorem dX10_altered_205 : decode cX10_altered 205 = .ok (.if_icmp .ge 12, 3) := by decide +kernel
theorem dX10_altered_208 : decode cX10_altered 208 = .ok (.aload_n 0, 1) := by decide +kernel
theorem dX10_altered_209 : decode cX10_altered 209 = .ok (.getfield 38, 3) := by decide +kernel
theorem dX10_altered_212 : decode cX10_altered 212 = .ok (.iload_n 3, 1) := by decide +kernel
theorem dX10_altered_213 : decode cX10_altered 213 = .ok (.iaload, 1) := by decide +kernel
theorem dX10_altered_214 : decode cX10_altered 214 = .ok (.goto 4, 3) := by decide +kernel
theorem dX10_altered_217 : decode cX10_altered 217 = .ok (.iconst (-1), 1) := by decide +kernel
theorem dX10_altered_218 : decode cX10_altered 218 = .ok (.ireturn, 1) := by decide +kernel
theorem dX10_weightOf_0 : decode cX10_weightOf 0 = .ok (.iconst 0, 1) := by decide +kernel
theorem dX10_weightOf_1 : decode cX10_weightOf 1 = .ok (.istore_n 2, 1) := by decide +kernel
theorem dX10_weightOf_2 : decode cX10_weightOf 2 = .ok (.iconst 0, 1) := by decide +kernel
theorem dX10_weightOf_3 : decode cX10_weightOf 3 = .ok (.istore_n 3, 1) := by decide +kernel
theorem dX10_weightOf_4 : decode cX10_weightOf 4 = .ok (.iload_n 3, 1) := by decide +kernel
theorem dX10_weightOf_5 : decode cX10_weightOf 5 = .ok (.aload_n 0, 1) := by decide +kernel
theorem dX10_weightOf_6 : decode cX10_weightOf 6 = .ok (.getfield 7, 3) := by decide +kernel
theorem dX10_weightOf_9 : decode cX10_weightOf 9 = .ok (.iconst 1, 1) := by decide +kernel
theorem dX10_weightOf_10 : decode cX10_weightOf 10 = .ok (.iaload, 1) := by decide +kernel
theorem dX10_weightOf_11 : decode cX10_weightOf 11 = .ok (.if_icmp .ge 29, 3) := by decide +kernel
theorem dX10_weightOf_14 : decode cX10_weightOf 14 = .ok (.iload_n 2, 1) := by decide +kernel
theorem dX10_weightOf_15 : decode cX10_weightOf 15 = .ok (.iload_n 1, 1) := by decide +kernel
theorem dX10_weightOf_16 : decode cX10_weightOf 16 = .ok (.iload_n 3, 1) := by decide +kernel
theorem dX10_weightOf_17 : decode cX10_weightOf 17 = .ok (.ishr, 1) := by decide +kernel
theorem dX10_weightOf_18 : decode cX10_weightOf 18 = .ok (.iconst 1, 1) := by decide +kernel
theorem dX10_weightOf_19 : decode cX10_weightOf 19 = .ok (.iand, 1) := by decide +kernel
theorem dX10_weightOf_20 : decode cX10_weightOf 20 = .ok (.aload_n 0, 1) := by decide +kernel
theorem dX10_weightOf_21 : decode cX10_weightOf 21 = .ok (.getfield 7, 3) := by decide +kernel
theorem dX10_weightOf_24 : decode cX10_weightOf 24 = .ok (.bipush 46, 2) := by decide +kernel
theorem dX10_weightOf_26 : decode cX10_weightOf 26 = .ok (.iconst 3, 1) := by decide +kernel
theorem dX10_weightOf_27 : decode cX10_weightOf 27 = .ok (.iload_n 3, 1) := by decide +kernel
theorem dX10_weightOf_28 : decode cX10_weightOf 28 = .ok (.imul, 1) := by decide +kernel
theorem dX10_weightOf_29 : decode cX10_weightOf 29 = .ok (.iadd, 1) := by decide +kernel
theorem dX10_weightOf_30 : decode cX10_weightOf 30 = .ok (.iaload, 1) := by decide +kernel
theorem dX10_weightOf_31 : decode cX10_weightOf 31 = .ok (.imul, 1) := by decide +kernel
theorem dX10_weightOf_32 : decode cX10_weightOf 32 = .ok (.iadd, 1) := by decide +kernel
theorem dX10_weightOf_33 : decode cX10_weightOf 33 = .ok (.istore_n 2, 1) := by decide +kernel
theorem dX10_weightOf_34 : decode cX10_weightOf 34 = .ok (.iinc 3 1, 3) := by decide +kernel
theorem dX10_weightOf_37 : decode cX10_weightOf 37 = .ok (.goto (-33), 3) := by decide +kernel
theorem dX10_weightOf_40 : decode cX10_weightOf 40 = .ok (.iload_n 2, 1) := by decide +kernel
theorem dX10_weightOf_41 : decode cX10_weightOf 41 = .ok (.ireturn, 1) := by decide +kernel
theorem dX10_laden_0 : decode cX10_laden 0 = .ok (.iload_n 1, 1) := by decide +kernel
theorem dX10_laden_1 : decode cX10_laden 1 = .ok (.i2l, 1) := by decide +kernel
theorem dX10_laden_2 : decode cX10_laden 2 = .ok (.lconst 1, 1) := by decide +kernel
theorem dX10_laden_3 : decode cX10_laden 3 = .ok (.ldc2_w 245, 3) := by decide +kernel
theorem dX10_laden_6 : decode cX10_laden 6 = .ok (.invokestatic 54, 3) := by decide +kernel
theorem dX10_laden_9 : decode cX10_laden 9 = .ok (.ifCond .eq 15, 3) := by decide +kernel
theorem dX10_laden_12 : decode cX10_laden 12 = .ok (.iload_n 2, 1) := by decide +kernel
theorem dX10_laden_13 : decode cX10_laden 13 = .ok (.i2l, 1) := by decide +kernel
theorem dX10_laden_14 : decode cX10_laden 14 = .ok (.lconst 0, 1) := by decide +kernel
theorem dX10_laden_15 : decode cX10_laden 15 = .ok (.ldc2_w 178, 3) := by decide +kernel
theorem dX10_laden_18 : decode cX10_laden 18 = .ok (.invokestatic 54, 3) := by decide +kernel
theorem dX10_laden_21 : decode cX10_laden 21 = .ok (.ifCond .ne 6, 3) := by decide +kernel
theorem dX10_laden_24 : decode cX10_laden 24 = .ok (.bipush (-3), 2) := by decide +kernel
theorem dX10_laden_26 : decode cX10_laden 26 = .ok (.ireturn, 1) := by decide +kernel
theorem dX10_laden_27 : decode cX10_laden 27 = .ok (.iconst (-1), 1) := by decide +kernel
theorem dX10_laden_28 : decode cX10_laden 28 = .ok (.istore_n 3, 1) := by decide +kernel
theorem dX10_laden_29 : decode cX10_laden 29 = .ok (.iconst 0, 1) := by decide +kernel
theorem dX10_laden_30 : decode cX10_laden 30 = .ok (.istore 4, 2) := by decide +kernel
theorem dX10_laden_32 : decode cX10_laden 32 = .ok (.iconst 0, 1) := by decide +kernel
theorem dX10_laden_33 : decode cX10_laden 33 = .ok (.istore 5, 2) := by decide +kernel
theorem dX10_laden_35 : decode cX10_laden 35 = .ok (.iconst 1, 1) := by decide +kernel
theorem dX10_laden_36 : decode cX10_laden 36 = .ok (.aload_n 0, 1) := by decide +kernel
theorem dX10_laden_37 : decode cX10_laden 37 = .ok (.getfield 7, 3) := by decide +kernel
theorem dX10_laden_40 : decode cX10_laden 40 = .ok (.iconst 1, 1) := by decide +kernel
theorem dX10_laden_41 : decode cX10_laden 41 = .ok (.iaload, 1) := by decide +kernel
theorem dX10_laden_42 : decode cX10_laden 42 = .ok (.ishl, 1) := by decide +kernel
theorem dX10_laden_43 : decode cX10_laden 43 = .ok (.istore 6, 2) := by decide +kernel
theorem dX10_laden_45 : decode cX10_laden 45 = .ok (.iconst 0, 1) := by decide +kernel
theorem dX10_laden_46 : decode cX10_laden 46 = .ok (.istore 7, 2) := by decide +kernel
theorem dX10_laden_48 : decode cX10_laden 48 = .ok (.iload 7, 2) := by decide +kernel
theorem dX10_laden_50 : decode cX10_laden 50 = .ok (.iload 6, 2) := by decide +kernel
theorem dX10_laden_52 : decode cX10_laden 52 = .ok (.if_icmp .ge 97, 3) := by decide +kernel
theorem dX10_laden_55 : decode cX10_laden 55 = .ok (.iconst 0, 1) := by decide +kernel
theorem dX10_laden_56 : decode cX10_laden 56 = .ok (.istore 8, 2) := by decide +kernel
theorem dX10_laden_58 : decode cX10_laden 58 = .ok (.iload 8, 2) := by decide +kernel
theorem dX10_laden_60 : decode cX10_laden 60 = .ok (.iload 6, 2) := by decide +kernel
theorem dX10_laden_62 : decode cX10_laden 62 = .ok (.if_icmp .ge 81, 3) := by decide +kernel
theorem dX10_laden_65 : decode cX10_laden 65 = .ok (.iload 7, 2) := by decide +kernel
theorem dX10_laden_67 : decode cX10_laden 67 = .ok (.iload 8, 2) := by decide +kernel
theorem dX10_laden_69 : decode cX10_laden 69 = .ok (.iand, 1) := by decide +kernel
theorem dX10_laden_70 : decode cX10_laden 70 = .ok (.ifCond .ne 27, 3) := by decide +kernel
theorem dX10_laden_73 : decode cX10_laden 73 = .ok (.aload_n 0, 1) := by decide +kernel
theorem dX10_laden_74 : decode cX10_laden 74 = .ok (.iload 7, 2) := by decide +kernel
theorem dX10_laden_76 : decode cX10_laden 76 = .ok (.invokevirtual 247, 3) := by decide +kernel
theorem dX10_laden_79 : decode cX10_laden 79 = .ok (.iload_n 1, 1) := by decide +kernel
theorem dX10_laden_80 : decode cX10_laden 80 = .ok (.if_icmp .gt 17, 3) := by decide +kernel
theorem dX10_laden_83 : decode cX10_laden 83 = .ok (.aload_n 0, 1) := by decide +kernel
theorem dX10_laden_84 : decode cX10_laden 84 = .ok (.iload 8, 2) := by decide +kernel
theorem dX10_laden_86 : decode cX10_laden 86 = .ok (.invokevirtual 247, 3) := by decide +kernel
theorem dX10_laden_89 : decode cX10_laden 89 = .ok (.iload_n 1, 1) := by decide +kernel
theorem dX10_laden_90 : decode cX10_laden 90 = .ok (.if_icmp .gt 7, 3) := by decide +kernel
theorem dX10_laden_93 : decode cX10_laden 93 = .ok (.iconst 1, 1) := by decide +kernel
theorem dX10_laden_94 : decode cX10_laden 94 = .ok (.goto 4, 3) := by decide +kernel
theorem dX10_laden_97 : decode cX10_laden 97 = .ok (.iconst 0, 1) := by decide +kernel
theorem dX10_laden_98 : decode cX10_laden 98 = .ok (.istore 9, 2) := by decide +kernel
theorem dX10_laden_100 : decode cX10_laden 100 = .ok (.aload_n 0, 1) := by decide +kernel
theorem dX10_laden_101 : decode cX10_laden 101 = .ok (.iload 7, 2) := by decide +kernel
theorem dX10_laden_103 : decode cX10_laden 103 = .ok (.invokevirtual 247, 3) := by decide +kernel
theorem dX10_laden_106 : decode cX10_laden 106 = .ok (.aload_n 0, 1) := by decide +kernel
theorem dX10_laden_107 : decode cX10_laden 107 = .ok (.iload 8, 2) := by decide +kernel
theorem dX10_laden_109 : decode cX10_laden 109 = .ok (.invokevirtual 247, 3) := by decide +kernel
theorem dX10_laden_112 : decode cX10_laden 112 = .ok (.iadd, 1) := by decide +kernel
theorem dX10_laden_113 : decode cX10_laden 113 = .ok (.istore 10, 2) := by decide +kernel
theorem dX10_laden_115 : decode cX10_laden 115 = .ok (.iload 9, 2) := by decide +kernel
theorem dX10_laden_117 : decode cX10_laden 117 = .ok (.ifCond .eq 20, 3) := by decide +kernel
theorem dX10_laden_120 : decode cX10_laden 120 = .ok (.iload 10, 2) := by decide +kernel
theorem dX10_laden_122 : decode cX10_laden 122 = .ok (.iload_n 3, 1) := by decide +kernel
theorem dX10_laden_123 : decode cX10_laden 123 = .ok (.if_icmp .le 14, 3) := by decide +kernel
theorem dX10_laden_126 : decode cX10_laden 126 = .ok (.iload 10, 2) := by decide +kernel
theorem dX10_laden_128 : decode cX10_laden 128 = .ok (.istore_n 3, 1) := by decide +kernel
theorem dX10_laden_129 : decode cX10_laden 129 = .ok (.iload 7, 2) := by decide +kernel
theorem dX10_laden_131 : decode cX10_laden 131 = .ok (.istore 4, 2) := by decide +kernel
theorem dX10_laden_133 : decode cX10_laden 133 = .ok (.iload 8, 2) := by decide +kernel
theorem dX10_laden_135 : decode cX10_laden 135 = .ok (.istore 5, 2) := by decide +kernel
theorem dX10_laden_137 : decode cX10_laden 137 = .ok (.iinc 8 1, 3) := by decide +kernel
theorem dX10_laden_140 : decode cX10_laden 140 = .ok (.goto (-82), 3) := by decide +kernel
theorem dX10_laden_143 : decode cX10_laden 143 = .ok (.iinc 7 1, 3) := by decide +kernel
theorem dX10_laden_146 : decode cX10_laden 146 = .ok (.goto (-98), 3) := by decide +kernel
theorem dX10_laden_149 : decode cX10_laden 149 = .ok (.iload_n 2, 1) := by decide +kernel
theorem dX10_laden_150 : decode cX10_laden 150 = .ok (.ifCond .ne 7, 3) := by decide +kernel
theorem dX10_laden_153 : decode cX10_laden 153 = .ok (.iload_n 3, 1) := by decide +kernel
theorem dX10_laden_154 : decode cX10_laden 154 = .ok (.goto 15, 3) := by decide +kernel
theorem dX10_laden_157 : decode cX10_laden 157 = .ok (.iload_n 2, 1) := by decide +kernel
theorem dX10_laden_158 : decode cX10_laden 158 = .ok (.iconst 1, 1) := by decide +kernel
theorem dX10_laden_159 : decode cX10_laden 159 = .ok (.if_icmp .ne 8, 3) := by decide +kernel
theorem dX10_laden_162 : decode cX10_laden 162 = .ok (.iload 4, 2) := by decide +kernel
theorem dX10_laden_164 : decode cX10_laden 164 = .ok (.goto 5, 3) := by decide +kernel
theorem dX10_laden_167 : decode cX10_laden 167 = .ok (.iload 5, 2) := by decide +kernel
theorem dX10_laden_169 : decode cX10_laden 169 = .ok (.ireturn, 1) := by decide +kernel
theorem dX10_left_0 : decode cX10_left 0 = .ok (.iload_n 1, 1) := by decide +kernel
theorem dX10_left_1 : decode cX10_left 1 = .ok (.i2l, 1) := by decide +kernel
theorem dX10_left_2 : decode cX10_left 2 = .ok (.lconst 0, 1) := by decide +kernel
theorem dX10_left_3 : decode cX10_left 3 = .ok (.lconst 1, 1) := by decide +kernel
theorem dX10_left_4 : decode cX10_left 4 = .ok (.invokestatic 54, 3) := by decide +kernel
theorem dX10_left_7 : decode cX10_left 7 = .ok (.ifCond .ne 6, 3) := by decide +kernel
theorem dX10_left_10 : decode cX10_left 10 = .ok (.bipush (-3), 2) := by decide +kernel
theorem dX10_left_12 : decode cX10_left 12 = .ok (.ireturn, 1) := by decide +kernel
theorem dX10_left_13 : decode cX10_left 13 = .ok (.iconst 0, 1) := by decide +kernel
theorem dX10_left_14 : decode cX10_left 14 = .ok (.istore_n 2, 1) := by decide +kernel
theorem dX10_left_15 : decode cX10_left 15 = .ok (.iconst 0, 1) := by decide +kernel
theorem dX10_left_16 : decode cX10_left 16 = .ok (.istore_n 3, 1) := by decide +kernel
theorem dX10_left_17 : decode cX10_left 17 = .ok (.iconst 0, 1) := by decide +kernel
theorem dX10_left_18 : decode cX10_left 18 = .ok (.istore 4, 2) := by decide +kernel
theorem dX10_left_20 : decode cX10_left 20 = .ok (.iload 4, 2) := by decide +kernel
theorem dX10_left_22 : decode cX10_left 22 = .ok (.bipush 6, 2) := by decide +kernel
theorem dX10_left_24 : decode cX10_left 24 = .ok (.if_icmp .ge 144, 3) := by decide +kernel
theorem dX10_left_27 : decode cX10_left 27 = .ok (.aload_n 0, 1) := by decide +kernel
theorem dX10_left_28 : decode cX10_left 28 = .ok (.getfield 7, 3) := by decide +kernel
theorem dX10_left_31 : decode cX10_left 31 = .ok (.bipush 73, 2) := by decide +kernel
theorem dX10_left_33 : decode cX10_left 33 = .ok (.iload 4, 2) := by decide +kernel
theorem dX10_left_35 : decode cX10_left 35 = .ok (.iadd, 1) := by decide +kernel
theorem dX10_left_36 : decode cX10_left 36 = .ok (.iaload, 1) := by decide +kernel
theorem dX10_left_37 : decode cX10_left 37 = .ok (.aload_n 0, 1) := by decide +kernel
theorem dX10_left_38 : decode cX10_left 38 = .ok (.getfield 7, 3) := by decide +kernel
theorem dX10_left_41 : decode cX10_left 41 = .ok (.bipush 67, 2) := by decide +kernel
theorem dX10_left_43 : decode cX10_left 43 = .ok (.iload 4, 2) := by decide +kernel
theorem dX10_left_45 : decode cX10_left 45 = .ok (.iadd, 1) := by decide +kernel
theorem dX10_left_46 : decode cX10_left 46 = .ok (.iaload, 1) := by decide +kernel
theorem dX10_left_47 : decode cX10_left 47 = .ok (.isub, 1) := by decide +kernel
theorem dX10_left_48 : decode cX10_left 48 = .ok (.istore 5, 2) := by decide +kernel
theorem dX10_left_50 : decode cX10_left 50 = .ok (.iconst 0, 1) := by decide +kernel
theorem dX10_left_51 : decode cX10_left 51 = .ok (.istore 6, 2) := by decide +kernel
theorem dX10_left_53 : decode cX10_left 53 = .ok (.iconst 0, 1) := by decide +kernel
theorem dX10_left_54 : decode cX10_left 54 = .ok (.istore 7, 2) := by decide +kernel
theorem dX10_left_56 : decode cX10_left 56 = .ok (.iload 7, 2) := by decide +kernel
theorem dX10_left_58 : decode cX10_left 58 = .ok (.aload_n 0, 1) := by decide +kernel
theorem dX10_left_59 : decode cX10_left 59 = .ok (.getfield 7, 3) := by decide +kernel
theorem dX10_left_62 : decode cX10_left 62 = .ok (.iconst 1, 1) := by decide +kernel
theorem dX10_left_63 : decode cX10_left 63 = .ok (.iaload, 1) := by decide +kernel
theorem dX10_left_64 : decode cX10_left 64 = .ok (.if_icmp .ge 63, 3) := by decide +kernel
theorem dX10_left_67 : decode cX10_left 67 = .ok (.iload 6, 2) := by decide +kernel
theorem dX10_left_69 : decode cX10_left 69 = .ok (.aload_n 0, 1) := by decide +kernel
theorem dX10_left_70 : decode cX10_left 70 = .ok (.getfield 7, 3) := by decide +kernel
theorem dX10_left_73 : decode cX10_left 73 = .ok (.bipush 46, 2) := by decide +kernel
theorem dX10_left_75 : decode cX10_left 75 = .ok (.iconst 3, 1) := by decide +kernel
theorem dX10_left_76 : decode cX10_left 76 = .ok (.iload 7, 2) := by decide +kernel
theorem dX10_left_78 : decode cX10_left 78 = .ok (.imul, 1) := by decide +kernel
theorem dX10_left_79 : decode cX10_left 79 = .ok (.iadd, 1) := by decide +kernel
theorem dX10_left_80 : decode cX10_left 80 = .ok (.iconst 2, 1) := by decide +kernel
theorem dX10_left_81 : decode cX10_left 81 = .ok (.iadd, 1) := by decide +kernel
theorem dX10_left_82 : decode cX10_left 82 = .ok (.iaload, 1) := by decide +kernel
theorem dX10_left_83 : decode cX10_left 83 = .ok (.ifCond .ne 34, 3) := by decide +kernel
theorem dX10_left_86 : decode cX10_left 86 = .ok (.aload_n 0, 1) := by decide +kernel
theorem dX10_left_87 : decode cX10_left 87 = .ok (.getfield 7, 3) := by decide +kernel
theorem dX10_left_90 : decode cX10_left 90 = .ok (.bipush 42, 2) := by decide +kernel
theorem dX10_left_92 : decode cX10_left 92 = .ok (.aload_n 0, 1) := by decide +kernel
theorem dX10_left_93 : decode cX10_left 93 = .ok (.getfield 7, 3) := by decide +kernel
theorem dX10_left_96 : decode cX10_left 96 = .ok (.bipush 46, 2) := by decide +kernel
theorem dX10_left_98 : decode cX10_left 98 = .ok (.iconst 3, 1) := by decide +kernel
theorem dX10_left_99 : decode cX10_left 99 = .ok (.iload 7, 2) := by decide +kernel
theorem dX10_left_101 : decode cX10_left 101 = .ok (.imul, 1) := by decide +kernel
theorem dX10_left_102 : decode cX10_left 102 = .ok (.iadd, 1) := by decide +kernel
theorem dX10_left_103 : decode cX10_left 103 = .ok (.iconst 1, 1) := by decide +kernel
theorem dX10_left_104 : decode cX10_left 104 = .ok (.iadd, 1) := by decide +kernel
theorem dX10_left_105 : decode cX10_left 105 = .ok (.iaload, 1) := by decide +kernel
theorem dX10_left_106 : decode cX10_left 106 = .ok (.iadd, 1) := by decide +kernel
theorem dX10_left_107 : decode cX10_left 107 = .ok (.iaload, 1) := by decide +kernel
theorem dX10_left_108 : decode cX10_left 108 = .ok (.iload 4, 2) := by decide +kernel
theorem dX10_left_110 : decode cX10_left 110 = .ok (.if_icmp .ne 7, 3) := by decide +kernel
theorem dX10_left_113 : decode cX10_left 113 = .ok (.iconst 1, 1) := by decide +kernel
theorem dX10_left_114 : decode cX10_left 114 = .ok (.goto 4, 3) := by decide +kernel
theorem dX10_left_117 : decode cX10_left 117 = .ok (.iconst 0, 1) := by decide +kernel
theorem dX10_left_118 : decode cX10_left 118 = .ok (.iadd, 1) := by decide +kernel
theorem dX10_left_119 : decode cX10_left 119 = .ok (.istore 6, 2) := by decide +kernel
theorem dX10_left_121 : decode cX10_left 121 = .ok (.iinc 7 1, 3) := by decide +kernel
theorem dX10_left_124 : decode cX10_left 124 = .ok (.goto (-68), 3) := by decide +kernel
theorem dX10_left_127 : decode cX10_left 127 = .ok (.iload_n 3, 1) := by decide +kernel
theorem dX10_left_128 : decode cX10_left 128 = .ok (.iload 6, 2) := by decide +kernel
theorem dX10_left_130 : decode cX10_left 130 = .ok (.iload 5, 2) := by decide +kernel
theorem dX10_left_132 : decode cX10_left 132 = .ok (.if_icmp .ge 8, 3) := by decide +kernel
theorem dX10_left_135 : decode cX10_left 135 = .ok (.iload 6, 2) := by decide +kernel
theorem dX10_left_137 : decode cX10_left 137 = .ok (.goto 5, 3) := by decide +kernel
theorem dX10_left_140 : decode cX10_left 140 = .ok (.iload 5, 2) := by decide +kernel
theorem dX10_left_142 : decode cX10_left 142 = .ok (.iadd, 1) := by decide +kernel
theorem dX10_left_143 : decode cX10_left 143 = .ok (.istore_n 3, 1) := by decide +kernel
theorem dX10_left_144 : decode cX10_left 144 = .ok (.iload_n 2, 1) := by decide +kernel
theorem dX10_left_145 : decode cX10_left 145 = .ok (.iload 5, 2) := by decide +kernel
theorem dX10_left_147 : decode cX10_left 147 = .ok (.ifCond .ne 12, 3) := by decide +kernel
theorem dX10_left_150 : decode cX10_left 150 = .ok (.aload_n 0, 1) := by decide +kernel
theorem dX10_left_151 : decode cX10_left 151 = .ok (.iload 4, 2) := by decide +kernel
theorem dX10_left_153 : decode cX10_left 153 = .ok (.invokevirtual 182, 3) := by decide +kernel
theorem dX10_left_156 : decode cX10_left 156 = .ok (.goto 4, 3) := by decide +kernel
theorem dX10_left_159 : decode cX10_left 159 = .ok (.iconst 0, 1) := by decide +kernel
theorem dX10_left_160 : decode cX10_left 160 = .ok (.ior, 1) := by decide +kernel
theorem dX10_left_161 : decode cX10_left 161 = .ok (.istore_n 2, 1) := by decide +kernel
theorem dX10_left_162 : decode cX10_left 162 = .ok (.iinc 4 1, 3) := by decide +kernel
theorem dX10_left_165 : decode cX10_left 165 = .ok (.goto (-145), 3) := by decide +kernel
theorem dX10_left_168 : decode cX10_left 168 = .ok (.iload_n 1, 1) := by decide +kernel
theorem dX10_left_169 : decode cX10_left 169 = .ok (.ifCond .ne 7, 3) := by decide +kernel
theorem dX10_left_172 : decode cX10_left 172 = .ok (.iload_n 3, 1) := by decide +kernel
theorem dX10_left_173 : decode cX10_left 173 = .ok (.goto 4, 3) := by decide +kernel
theorem dX10_left_176 : decode cX10_left 176 = .ok (.iload_n 2, 1) := by decide +kernel
theorem dX10_left_177 : decode cX10_left 177 = .ok (.ireturn, 1) := by decide +kernel
theorem dX10_divisor_0 : decode cX10_divisor 0 = .ok (.iload_n 0, 1) := by decide +kernel
theorem dX10_divisor_1 : decode cX10_divisor 1 = .ok (.istore_n 2, 1) := by decide +kernel
theorem dX10_divisor_2 : decode cX10_divisor 2 = .ok (.iload_n 1, 1) := by decide +kernel
theorem dX10_divisor_3 : decode cX10_divisor 3 = .ok (.istore_n 3, 1) := by decide +kernel
theorem dX10_divisor_4 : decode cX10_divisor 4 = .ok (.iload_n 3, 1) := by decide +kernel
theorem dX10_divisor_5 : decode cX10_divisor 5 = .ok (.ifCond .eq 16, 3) := by decide +kernel
theorem dX10_divisor_8 : decode cX10_divisor 8 = .ok (.iload_n 2, 1) := by decide +kernel
theorem dX10_divisor_9 : decode cX10_divisor 9 = .ok (.iload_n 3, 1) := by decide +kernel
theorem dX10_divisor_10 : decode cX10_divisor 10 = .ok (.irem, 1) := by decide +kernel
theorem dX10_divisor_11 : decode cX10_divisor 11 = .ok (.istore 4, 2) := by decide +kernel
theorem dX10_divisor_13 : decode cX10_divisor 13 = .ok (.iload_n 3, 1) := by decide +kernel
theorem dX10_divisor_14 : decode cX10_divisor 14 = .ok (.istore_n 2, 1) := by decide +kernel
theorem dX10_divisor_15 : decode cX10_divisor 15 = .ok (.iload 4, 2) := by decide +kernel
theorem dX10_divisor_17 : decode cX10_divisor 17 = .ok (.istore_n 3, 1) := by decide +kernel
theorem dX10_divisor_18 : decode cX10_divisor 18 = .ok (.goto (-14), 3) := by decide +kernel
theorem dX10_divisor_21 : decode cX10_divisor 21 = .ok (.iload_n 2, 1) := by decide +kernel
theorem dX10_divisor_22 : decode cX10_divisor 22 = .ok (.ireturn, 1) := by decide +kernel
theorem dX10_odds_0 : decode cX10_odds 0 = .ok (.aload_n 0, 1) := by decide +kernel
theorem dX10_odds_1 : decode cX10_odds 1 = .ok (.iload_n 1, 1) := by decide +kernel
theorem dX10_odds_2 : decode cX10_odds 2 = .ok (.iload_n 2, 1) := by decide +kernel
theorem dX10_odds_3 : decode cX10_odds 3 = .ok (.invokevirtual 208, 3) := by decide +kernel
theorem dX10_odds_6 : decode cX10_odds 6 = .ok (.ifCond .ne 6, 3) := by decide +kernel
theorem dX10_odds_9 : decode cX10_odds 9 = .ok (.bipush (-2), 2) := by decide +kernel
theorem dX10_odds_11 : decode cX10_odds 11 = .ok (.ireturn, 1) := by decide +kernel
theorem dX10_odds_12 : decode cX10_odds 12 = .ok (.iload_n 3, 1) := by decide +kernel
theorem dX10_odds_13 : decode cX10_odds 13 = .ok (.i2l, 1) := by decide +kernel
theorem dX10_odds_14 : decode cX10_odds 14 = .ok (.lconst 1, 1) := by decide +kernel
theorem dX10_odds_15 : decode cX10_odds 15 = .ok (.ldc2_w 185, 3) := by decide +kernel
theorem dX10_odds_18 : decode cX10_odds 18 = .ok (.invokestatic 54, 3) := by decide +kernel
theorem dX10_odds_21 : decode cX10_odds 21 = .ok (.ifCond .eq 14, 3) := by decide +kernel
theorem dX10_odds_24 : decode cX10_odds 24 = .ok (.iload 4, 2) := by decide +kernel
theorem dX10_odds_26 : decode cX10_odds 26 = .ok (.i2l, 1) := by decide +kernel
theorem dX10_odds_27 : decode cX10_odds 27 = .ok (.lconst 0, 1) := by decide +kernel
theorem dX10_odds_28 : decode cX10_odds 28 = .ok (.lconst 1, 1) := by decide +kernel
theorem dX10_odds_29 : decode cX10_odds 29 = .ok (.invokestatic 54, 3) := by decide +kernel
theorem dX10_odds_32 : decode cX10_odds 32 = .ok (.ifCond .ne 6, 3) := by decide +kernel
theorem dX10_odds_35 : decode cX10_odds 35 = .ok (.bipush (-3), 2) := by decide +kernel
theorem dX10_odds_37 : decode cX10_odds 37 = .ok (.ireturn, 1) := by decide +kernel
theorem dX10_odds_38 : decode cX10_odds 38 = .ok (.aload_n 0, 1) := by decide +kernel
theorem dX10_odds_39 : decode cX10_odds 39 = .ok (.getfield 7, 3) := by decide +kernel
theorem dX10_odds_42 : decode cX10_odds 42 = .ok (.iconst 0, 1) := by decide +kernel
theorem dX10_odds_43 : decode cX10_odds 43 = .ok (.iaload, 1) := by decide +kernel
theorem dX10_odds_44 : decode cX10_odds 44 = .ok (.ifCond .ne 6, 3) := by decide +kernel
theorem dX10_odds_47 : decode cX10_odds 47 = .ok (.bipush (-4), 2) := by decide +kernel
theorem dX10_odds_49 : decode cX10_odds 49 = .ok (.ireturn, 1) := by decide +kernel
theorem dX10_odds_50 : decode cX10_odds 50 = .ok (.aload_n 0, 1) := by decide +kernel
theorem dX10_odds_51 : decode cX10_odds 51 = .ok (.iload_n 3, 1) := by decide +kernel
theorem dX10_odds_52 : decode cX10_odds 52 = .ok (.invokevirtual 228, 3) := by decide +kernel
theorem dX10_odds_55 : decode cX10_odds 55 = .ok (.istore 5, 2) := by decide +kernel
theorem dX10_odds_57 : decode cX10_odds 57 = .ok (.iconst 0, 1) := by decide +kernel
theorem dX10_odds_58 : decode cX10_odds 58 = .ok (.istore 6, 2) := by decide +kernel
theorem dX10_odds_60 : decode cX10_odds 60 = .ok (.iconst 0, 1) := by decide +kernel
theorem dX10_odds_61 : decode cX10_odds 61 = .ok (.istore 7, 2) := by decide +kernel
theorem dX10_odds_63 : decode cX10_odds 63 = .ok (.iload 7, 2) := by decide +kernel
theorem dX10_odds_65 : decode cX10_odds 65 = .ok (.iload 5, 2) := by decide +kernel
theorem dX10_odds_67 : decode cX10_odds 67 = .ok (.if_icmp .ge 40, 3) := by decide +kernel
theorem dX10_odds_70 : decode cX10_odds 70 = .ok (.aload_n 0, 1) := by decide +kernel
theorem dX10_odds_71 : decode cX10_odds 71 = .ok (.iload 7, 2) := by decide +kernel
theorem dX10_odds_73 : decode cX10_odds 73 = .ok (.iload_n 3, 1) := by decide +kernel
theorem dX10_odds_74 : decode cX10_odds 74 = .ok (.invokevirtual 231, 3) := by decide +kernel
theorem dX10_odds_77 : decode cX10_odds 77 = .ok (.iload 6, 2) := by decide +kernel
theorem dX10_odds_79 : decode cX10_odds 79 = .ok (.aload_n 0, 1) := by decide +kernel
theorem dX10_odds_80 : decode cX10_odds 80 = .ok (.aload_n 0, 1) := by decide +kernel
theorem dX10_odds_81 : decode cX10_odds 81 = .ok (.getfield 35, 3) := by decide +kernel
theorem dX10_odds_84 : decode cX10_odds 84 = .ok (.iload_n 3, 1) := by decide +kernel
theorem dX10_odds_85 : decode cX10_odds 85 = .ok (.iload_n 1, 1) := by decide +kernel
theorem dX10_odds_86 : decode cX10_odds 86 = .ok (.iload_n 2, 1) := by decide +kernel
theorem dX10_odds_87 : decode cX10_odds 87 = .ok (.invokevirtual 211, 3) := by decide +kernel
theorem dX10_odds_90 : decode cX10_odds 90 = .ok (.ifCond .eq 7, 3) := by decide +kernel
theorem dX10_odds_93 : decode cX10_odds 93 = .ok (.iconst 1, 1) := by decide +kernel
theorem dX10_odds_94 : decode cX10_odds 94 = .ok (.goto 4, 3) := by decide +kernel
theorem dX10_odds_97 : decode cX10_odds 97 = .ok (.iconst 0, 1) := by decide +kernel
theorem dX10_odds_98 : decode cX10_odds 98 = .ok (.iadd, 1) := by decide +kernel
theorem dX10_odds_99 : decode cX10_odds 99 = .ok (.istore 6, 2) := by decide +kernel
theorem dX10_odds_101 : decode cX10_odds 101 = .ok (.iinc 7 1, 3) := by decide +kernel
theorem dX10_odds_104 : decode cX10_odds 104 = .ok (.goto (-41), 3) := by decide +kernel
theorem dX10_odds_107 : decode cX10_odds 107 = .ok (.iload 6, 2) := by decide +kernel
theorem dX10_odds_109 : decode cX10_odds 109 = .ok (.iload 5, 2) := by decide +kernel
theorem dX10_odds_111 : decode cX10_odds 111 = .ok (.invokestatic 250, 3) := by decide +kernel
theorem dX10_odds_114 : decode cX10_odds 114 = .ok (.istore 7, 2) := by decide +kernel
theorem dX10_odds_116 : decode cX10_odds 116 = .ok (.iload 4, 2) := by decide +kernel
theorem dX10_odds_118 : decode cX10_odds 118 = .ok (.ifCond .ne 11, 3) := by decide +kernel
theorem dX10_odds_121 : decode cX10_odds 121 = .ok (.iload 6, 2) := by decide +kernel
theorem dX10_odds_123 : decode cX10_odds 123 = .ok (.iload 7, 2) := by decide +kernel
theorem dX10_odds_125 : decode cX10_odds 125 = .ok (.idiv, 1) := by decide +kernel
theorem dX10_odds_126 : decode cX10_odds 126 = .ok (.goto 8, 3) := by decide +kernel
theorem dX10_odds_129 : decode cX10_odds 129 = .ok (.iload 5, 2) := by decide +kernel
theorem dX10_odds_131 : decode cX10_odds 131 = .ok (.iload 7, 2) := by decide +kernel
theorem dX10_odds_133 : decode cX10_odds 133 = .ok (.idiv, 1) := by decide +kernel
theorem dX10_odds_134 : decode cX10_odds 134 = .ok (.ireturn, 1) := by decide +kernel
theorem dX10_year_0 : decode cX10_year 0 = .ok (.aload_n 0, 1) := by decide +kernel
theorem dX10_year_1 : decode cX10_year 1 = .ok (.getfield 7, 3) := by decide +kernel
theorem dX10_year_4 : decode cX10_year 4 = .ok (.iconst 2, 1) := by decide +kernel
theorem dX10_year_5 : decode cX10_year 5 = .ok (.iaload, 1) := by decide +kernel
theorem dX10_year_6 : decode cX10_year 6 = .ok (.ifCond .ne 6, 3) := by decide +kernel
theorem dX10_year_9 : decode cX10_year 9 = .ok (.bipush (-4), 2) := by decide +kernel
theorem dX10_year_11 : decode cX10_year 11 = .ok (.ireturn, 1) := by decide +kernel
theorem dX10_year_12 : decode cX10_year 12 = .ok (.iconst 0, 1) := by decide +kernel
theorem dX10_year_13 : decode cX10_year 13 = .ok (.istore_n 1, 1) := by decide +kernel
theorem dX10_year_14 : decode cX10_year 14 = .ok (.iload_n 1, 1) := by decide +kernel
theorem dX10_year_15 : decode cX10_year 15 = .ok (.bipush 6, 2) := by decide +kernel
theorem dX10_year_17 : decode cX10_year 17 = .ok (.if_icmp .ge 24, 3) := by decide +kernel
theorem dX10_year_20 : decode cX10_year 20 = .ok (.aload_n 0, 1) := by decide +kernel
theorem dX10_year_21 : decode cX10_year 21 = .ok (.getfield 41, 3) := by decide +kernel
theorem dX10_year_24 : decode cX10_year 24 = .ok (.iload_n 1, 1) := by decide +kernel
theorem dX10_year_25 : decode cX10_year 25 = .ok (.aload_n 0, 1) := by decide +kernel
theorem dX10_year_26 : decode cX10_year 26 = .ok (.getfield 7, 3) := by decide +kernel
theorem dX10_year_29 : decode cX10_year 29 = .ok (.bipush 67, 2) := by decide +kernel
theorem dX10_year_31 : decode cX10_year 31 = .ok (.iload_n 1, 1) := by decide +kernel
theorem dX10_year_32 : decode cX10_year 32 = .ok (.iadd, 1) := by decide +kernel
theorem dX10_year_33 : decode cX10_year 33 = .ok (.iaload, 1) := by decide +kernel
theorem dX10_year_34 : decode cX10_year 34 = .ok (.iastore, 1) := by decide +kernel
theorem dX10_year_35 : decode cX10_year 35 = .ok (.iinc 1 1, 3) := by decide +kernel
theorem dX10_year_38 : decode cX10_year 38 = .ok (.goto (-24), 3) := by decide +kernel
theorem dX10_year_41 : decode cX10_year 41 = .ok (.iconst 0, 1) := by decide +kernel
theorem dX10_year_42 : decode cX10_year 42 = .ok (.istore_n 1, 1) := by decide +kernel
theorem dX10_year_43 : decode cX10_year 43 = .ok (.iconst 0, 1) := by decide +kernel
theorem dX10_year_44 : decode cX10_year 44 = .ok (.istore_n 2, 1) := by decide +kernel
theorem dX10_year_45 : decode cX10_year 45 = .ok (.iload_n 2, 1) := by decide +kernel
theorem dX10_year_46 : decode cX10_year 46 = .ok (.aload_n 0, 1) := by decide +kernel
theorem dX10_year_47 : decode cX10_year 47 = .ok (.getfield 7, 3) := by decide +kernel
theorem dX10_year_50 : decode cX10_year 50 = .ok (.iconst 1, 1) := by decide +kernel
theorem dX10_year_51 : decode cX10_year 51 = .ok (.iaload, 1) := by decide +kernel
theorem dX10_year_52 : decode cX10_year 52 = .ok (.if_icmp .ge 153, 3) := by decide +kernel
theorem dX10_year_55 : decode cX10_year 55 = .ok (.aload_n 0, 1) := by decide +kernel
theorem dX10_year_56 : decode cX10_year 56 = .ok (.getfield 7, 3) := by decide +kernel
theorem dX10_year_59 : decode cX10_year 59 = .ok (.bipush 46, 2) := by decide +kernel
theorem dX10_year_61 : decode cX10_year 61 = .ok (.iconst 3, 1) := by decide +kernel
theorem dX10_year_62 : decode cX10_year 62 = .ok (.iload_n 2, 1) := by decide +kernel
theorem dX10_year_63 : decode cX10_year 63 = .ok (.imul, 1) := by decide +kernel
theorem dX10_year_64 : decode cX10_year 64 = .ok (.iadd, 1) := by decide +kernel
theorem dX10_year_65 : decode cX10_year 65 = .ok (.iconst 2, 1) := by decide +kernel
theorem dX10_year_66 : decode cX10_year 66 = .ok (.iadd, 1) := by decide +kernel
theorem dX10_year_67 : decode cX10_year 67 = .ok (.iaload, 1) := by decide +kernel
theorem dX10_year_68 : decode cX10_year 68 = .ok (.ifCond .ne 131, 3) := by decide +kernel
theorem dX10_year_71 : decode cX10_year 71 = .ok (.aload_n 0, 1) := by decide +kernel
theorem dX10_year_72 : decode cX10_year 72 = .ok (.iload_n 2, 1) := by decide +kernel
theorem dX10_year_73 : decode cX10_year 73 = .ok (.iconst 0, 1) := by decide +kernel
theorem dX10_year_74 : decode cX10_year 74 = .ok (.invokevirtual 242, 3) := by decide +kernel
theorem dX10_year_77 : decode cX10_year 77 = .ok (.istore_n 3, 1) := by decide +kernel
theorem dX10_year_78 : decode cX10_year 78 = .ok (.iload_n 3, 1) := by decide +kernel
theorem dX10_year_79 : decode cX10_year 79 = .ok (.iconst (-1), 1) := by decide +kernel
theorem dX10_year_80 : decode cX10_year 80 = .ok (.if_icmp .eq 27, 3) := by decide +kernel
theorem dX10_year_83 : decode cX10_year 83 = .ok (.aload_n 0, 1) := by decide +kernel
theorem dX10_year_84 : decode cX10_year 84 = .ok (.aload_n 0, 1) := by decide +kernel
theorem dX10_year_85 : decode cX10_year 85 = .ok (.getfield 38, 3) := by decide +kernel
theorem dX10_year_88 : decode cX10_year 88 = .ok (.iload_n 3, 1) := by decide +kernel
theorem dX10_year_89 : decode cX10_year 89 = .ok (.iconst 1, 1) := by decide +kernel
theorem dX10_year_90 : decode cX10_year 90 = .ok (.isub, 1) := by decide +kernel
theorem dX10_year_91 : decode cX10_year 91 = .ok (.iaload, 1) := by decide +kernel
theorem dX10_year_92 : decode cX10_year 92 = .ok (.aload_n 0, 1) := by decide +kernel
theorem dX10_year_93 : decode cX10_year 93 = .ok (.getfield 41, 3) := by decide +kernel
theorem dX10_year_96 : decode cX10_year 96 = .ok (.iconst 0, 1) := by decide +kernel
theorem dX10_year_97 : decode cX10_year 97 = .ok (.invokevirtual 218, 3) := by decide +kernel
theorem dX10_year_100 : decode cX10_year 100 = .ok (.ifCond .ne 7, 3) := by decide +kernel
theorem dX10_year_103 : decode cX10_year 103 = .ok (.iconst 1, 1) := by decide +kernel
theorem dX10_year_104 : decode cX10_year 104 = .ok (.goto 4, 3) := by decide +kernel
theorem dX10_year_107 : decode cX10_year 107 = .ok (.iconst 0, 1) := by decide +kernel
theorem dX10_year_108 : decode cX10_year 108 = .ok (.istore 4, 2) := by decide +kernel
theorem dX10_year_110 : decode cX10_year 110 = .ok (.iload_n 1, 1) := by decide +kernel
theorem dX10_year_111 : decode cX10_year 111 = .ok (.iload 4, 2) := by decide +kernel
theorem dX10_year_113 : decode cX10_year 113 = .ok (.ifCond .eq 17, 3) := by decide +kernel
theorem dX10_year_116 : decode cX10_year 116 = .ok (.aload_n 0, 1) := by decide +kernel
theorem dX10_year_117 : decode cX10_year 117 = .ok (.getfield 7, 3) := by decide +kernel
theorem dX10_year_120 : decode cX10_year 120 = .ok (.bipush 46, 2) := by decide +kernel
theorem dX10_year_122 : decode cX10_year 122 = .ok (.iconst 3, 1) := by decide +kernel
theorem dX10_year_123 : decode cX10_year 123 = .ok (.iload_n 2, 1) := by decide +kernel
theorem dX10_year_124 : decode cX10_year 124 = .ok (.imul, 1) := by decide +kernel
theorem dX10_year_125 : decode cX10_year 125 = .ok (.iadd, 1) := by decide +kernel
theorem dX10_year_126 : decode cX10_year 126 = .ok (.iaload, 1) := by decide +kernel
theorem dX10_year_127 : decode cX10_year 127 = .ok (.goto 16, 3) := by decide +kernel
theorem dX10_year_130 : decode cX10_year 130 = .ok (.iconst 3, 1) := by decide +kernel
theorem dX10_year_131 : decode cX10_year 131 = .ok (.aload_n 0, 1) := by decide +kernel
theorem dX10_year_132 : decode cX10_year 132 = .ok (.getfield 7, 3) := by decide +kernel
theorem dX10_year_135 : decode cX10_year 135 = .ok (.bipush 46, 2) := by decide +kernel
theorem dX10_year_137 : decode cX10_year 137 = .ok (.iconst 3, 1) := by decide +kernel
theorem dX10_year_138 : decode cX10_year 138 = .ok (.iload_n 2, 1) := by decide +kernel
theorem dX10_year_139 : decode cX10_year 139 = .ok (.imul, 1) := by decide +kernel
theorem dX10_year_140 : decode cX10_year 140 = .ok (.iadd, 1) := by decide +kernel
theorem dX10_year_141 : decode cX10_year 141 = .ok (.iaload, 1) := by decide +kernel
theorem dX10_year_142 : decode cX10_year 142 = .ok (.imul, 1) := by decide +kernel
theorem dX10_year_143 : decode cX10_year 143 = .ok (.iadd, 1) := by decide +kernel
theorem dX10_year_144 : decode cX10_year 144 = .ok (.istore_n 1, 1) := by decide +kernel
theorem dX10_year_145 : decode cX10_year 145 = .ok (.iload 4, 2) := by decide +kernel
theorem dX10_year_147 : decode cX10_year 147 = .ok (.ifCond .eq 52, 3) := by decide +kernel
theorem dX10_year_150 : decode cX10_year 150 = .ok (.aload_n 0, 1) := by decide +kernel
theorem dX10_year_151 : decode cX10_year 151 = .ok (.getfield 41, 3) := by decide +kernel
theorem dX10_year_154 : decode cX10_year 154 = .ok (.aload_n 0, 1) := by decide +kernel
theorem dX10_year_155 : decode cX10_year 155 = .ok (.getfield 7, 3) := by decide +kernel
theorem dX10_year_158 : decode cX10_year 158 = .ok (.bipush 6, 2) := by decide +kernel
theorem dX10_year_160 : decode cX10_year 160 = .ok (.iconst 4, 1) := by decide +kernel
theorem dX10_year_161 : decode cX10_year 161 = .ok (.aload_n 0, 1) := by decide +kernel
theorem dX10_year_162 : decode cX10_year 162 = .ok (.getfield 38, 3) := by decide +kernel
theorem dX10_year_165 : decode cX10_year 165 = .ok (.iload_n 3, 1) := by decide +kernel
theorem dX10_year_166 : decode cX10_year 166 = .ok (.iconst 1, 1) := by decide +kernel
theorem dX10_year_167 : decode cX10_year 167 = .ok (.isub, 1) := by decide +kernel
theorem dX10_year_168 : decode cX10_year 168 = .ok (.iaload, 1) := by decide +kernel
theorem dX10_year_169 : decode cX10_year 169 = .ok (.imul, 1) := by decide +kernel
theorem dX10_year_170 : decode cX10_year 170 = .ok (.iadd, 1) := by decide +kernel
theorem dX10_year_171 : decode cX10_year 171 = .ok (.iconst 3, 1) := by decide +kernel
theorem dX10_year_172 : decode cX10_year 172 = .ok (.iadd, 1) := by decide +kernel
theorem dX10_year_173 : decode cX10_year 173 = .ok (.iaload, 1) := by decide +kernel
theorem dX10_year_174 : decode cX10_year 174 = .ok (.dup2, 1) := by decide +kernel
theorem dX10_year_175 : decode cX10_year 175 = .ok (.iaload, 1) := by decide +kernel
theorem dX10_year_176 : decode cX10_year 176 = .ok (.aload_n 0, 1) := by decide +kernel
theorem dX10_year_177 : decode cX10_year 177 = .ok (.aload_n 0, 1) := by decide +kernel
theorem dX10_year_178 : decode cX10_year 178 = .ok (.getfield 38, 3) := by decide +kernel
theorem dX10_year_181 : decode cX10_year 181 = .ok (.iload_n 3, 1) := by decide +kernel
theorem dX10_year_182 : decode cX10_year 182 = .ok (.iconst 1, 1) := by decide +kernel
theorem dX10_year_183 : decode cX10_year 183 = .ok (.isub, 1) := by decide +kernel
theorem dX10_year_184 : decode cX10_year 184 = .ok (.iaload, 1) := by decide +kernel
theorem dX10_year_185 : decode cX10_year 185 = .ok (.invokevirtual 187, 3) := by decide +kernel
theorem dX10_year_188 : decode cX10_year 188 = .ok (.iconst 2, 1) := by decide +kernel
theorem dX10_year_189 : decode cX10_year 189 = .ok (.if_icmp .ne 7, 3) := by decide +kernel
theorem dX10_year_192 : decode cX10_year 192 = .ok (.iconst 0, 1) := by decide +kernel
theorem dX10_year_193 : decode cX10_year 193 = .ok (.goto 4, 3) := by decide +kernel
theorem dX10_year_196 : decode cX10_year 196 = .ok (.iconst 1, 1) := by decide +kernel
theorem dX10_year_197 : decode cX10_year 197 = .ok (.iadd, 1) := by decide +kernel
theorem dX10_year_198 : decode cX10_year 198 = .ok (.iastore, 1) := by decide +kernel
theorem dX10_year_199 : decode cX10_year 199 = .ok (.iinc 2 1, 3) := by decide +kernel
theorem dX10_year_202 : decode cX10_year 202 = .ok (.goto (-157), 3) := by decide +kernel
theorem dX10_year_205 : decode cX10_year 205 = .ok (.iload_n 1, 1) := by decide +kernel
theorem dX10_year_206 : decode cX10_year 206 = .ok (.ireturn, 1) := by decide +kernel
theorem dX10_secret_0 : decode cX10_secret 0 = .ok (.iload_n 1, 1) := by decide +kernel
theorem dX10_secret_1 : decode cX10_secret 1 = .ok (.i2l, 1) := by decide +kernel
theorem dX10_secret_2 : decode cX10_secret 2 = .ok (.lconst 1, 1) := by decide +kernel
theorem dX10_secret_3 : decode cX10_secret 3 = .ok (.ldc2_w 176, 3) := by decide +kernel
theorem dX10_secret_6 : decode cX10_secret 6 = .ok (.invokestatic 54, 3) := by decide +kernel
theorem dX10_secret_9 : decode cX10_secret 9 = .ok (.ifCond .ne 6, 3) := by decide +kernel
theorem dX10_secret_12 : decode cX10_secret 12 = .ok (.bipush (-3), 2) := by decide +kernel
theorem dX10_secret_14 : decode cX10_secret 14 = .ok (.ireturn, 1) := by decide +kernel
theorem dX10_secret_15 : decode cX10_secret 15 = .ok (.aload_n 0, 1) := by decide +kernel
theorem dX10_secret_16 : decode cX10_secret 16 = .ok (.getfield 164, 3) := by decide +kernel
theorem dX10_secret_19 : decode cX10_secret 19 = .ok (.istore_n 2, 1) := by decide +kernel
theorem dX10_secret_20 : decode cX10_secret 20 = .ok (.aload_n 0, 1) := by decide +kernel
theorem dX10_secret_21 : decode cX10_secret 21 = .ok (.iload_n 1, 1) := by decide +kernel
theorem dX10_secret_22 : decode cX10_secret 22 = .ok (.putfield 167, 3) := by decide +kernel
theorem dX10_secret_25 : decode cX10_secret 25 = .ok (.aload_n 0, 1) := by decide +kernel
theorem dX10_secret_26 : decode cX10_secret 26 = .ok (.iconst 0, 1) := by decide +kernel
theorem dX10_secret_27 : decode cX10_secret 27 = .ok (.putfield 164, 3) := by decide +kernel
theorem dX10_secret_30 : decode cX10_secret 30 = .ok (.iload_n 2, 1) := by decide +kernel
theorem dX10_secret_31 : decode cX10_secret 31 = .ok (.ireturn, 1) := by decide +kernel
theorem dX10_counted_0 : decode cX10_counted 0 = .ok (.aload_n 0, 1) := by decide +kernel
theorem dX10_counted_1 : decode cX10_counted 1 = .ok (.iload_n 1, 1) := by decide +kernel
theorem dX10_counted_2 : decode cX10_counted 2 = .ok (.invokevirtual 62, 3) := by decide +kernel
theorem dX10_counted_5 : decode cX10_counted 5 = .ok (.ifCond .ne 6, 3) := by decide +kernel
theorem dX10_counted_8 : decode cX10_counted 8 = .ok (.bipush (-2), 2) := by decide +kernel
theorem dX10_counted_10 : decode cX10_counted 10 = .ok (.ireturn, 1) := by decide +kernel
theorem dX10_counted_11 : decode cX10_counted 11 = .ok (.iload_n 2, 1) := by decide +kernel
theorem dX10_counted_12 : decode cX10_counted 12 = .ok (.i2l, 1) := by decide +kernel
theorem dX10_counted_13 : decode cX10_counted 13 = .ok (.lconst 0, 1) := by decide +kernel
theorem dX10_counted_14 : decode cX10_counted 14 = .ok (.ldc2_w 253, 3) := by decide +kernel
theorem dX10_counted_17 : decode cX10_counted 17 = .ok (.invokestatic 54, 3) := by decide +kernel
theorem dX10_counted_20 : decode cX10_counted 20 = .ok (.ifCond .ne 6, 3) := by decide +kernel
theorem dX10_counted_23 : decode cX10_counted 23 = .ok (.bipush (-3), 2) := by decide +kernel
theorem dX10_counted_25 : decode cX10_counted 25 = .ok (.ireturn, 1) := by decide +kernel
theorem dX10_counted_26 : decode cX10_counted 26 = .ok (.aload_n 0, 1) := by decide +kernel
theorem dX10_counted_27 : decode cX10_counted 27 = .ok (.getfield 167, 3) := by decide +kernel
theorem dX10_counted_30 : decode cX10_counted 30 = .ok (.ifCond .ne 6, 3) := by decide +kernel
theorem dX10_counted_33 : decode cX10_counted 33 = .ok (.bipush (-4), 2) := by decide +kernel
theorem dX10_counted_35 : decode cX10_counted 35 = .ok (.ireturn, 1) := by decide +kernel
theorem dX10_counted_36 : decode cX10_counted 36 = .ok (.aload_n 0, 1) := by decide +kernel
theorem dX10_counted_37 : decode cX10_counted 37 = .ok (.getfield 164, 3) := by decide +kernel
theorem dX10_counted_40 : decode cX10_counted 40 = .ok (.bipush 6, 2) := by decide +kernel
theorem dX10_counted_42 : decode cX10_counted 42 = .ok (.if_icmp .ne 6, 3) := by decide +kernel
theorem dX10_counted_45 : decode cX10_counted 45 = .ok (.bipush (-5), 2) := by decide +kernel
theorem dX10_counted_47 : decode cX10_counted 47 = .ok (.ireturn, 1) := by decide +kernel
theorem dX10_counted_48 : decode cX10_counted 48 = .ok (.aload_n 0, 1) := by decide +kernel
theorem dX10_counted_49 : decode cX10_counted 49 = .ok (.getfield 26, 3) := by decide +kernel
theorem dX10_counted_52 : decode cX10_counted 52 = .ok (.iconst 2, 1) := by decide +kernel
theorem dX10_counted_53 : decode cX10_counted 53 = .ok (.aload_n 0, 1) := by decide +kernel
theorem dX10_counted_54 : decode cX10_counted 54 = .ok (.getfield 164, 3) := by decide +kernel
theorem dX10_counted_57 : decode cX10_counted 57 = .ok (.imul, 1) := by decide +kernel
theorem dX10_counted_58 : decode cX10_counted 58 = .ok (.iload_n 1, 1) := by decide +kernel
theorem dX10_counted_59 : decode cX10_counted 59 = .ok (.iastore, 1) := by decide +kernel
theorem dX10_counted_60 : decode cX10_counted 60 = .ok (.aload_n 0, 1) := by decide +kernel
theorem dX10_counted_61 : decode cX10_counted 61 = .ok (.getfield 26, 3) := by decide +kernel
theorem dX10_counted_64 : decode cX10_counted 64 = .ok (.iconst 2, 1) := by decide +kernel
theorem dX10_counted_65 : decode cX10_counted 65 = .ok (.aload_n 0, 1) := by decide +kernel
theorem dX10_counted_66 : decode cX10_counted 66 = .ok (.getfield 164, 3) := by decide +kernel
theorem dX10_counted_69 : decode cX10_counted 69 = .ok (.imul, 1) := by decide +kernel
theorem dX10_counted_70 : decode cX10_counted 70 = .ok (.iconst 1, 1) := by decide +kernel
theorem dX10_counted_71 : decode cX10_counted 71 = .ok (.iadd, 1) := by decide +kernel
theorem dX10_counted_72 : decode cX10_counted 72 = .ok (.iload_n 2, 1) := by decide +kernel
theorem dX10_counted_73 : decode cX10_counted 73 = .ok (.iastore, 1) := by decide +kernel
theorem dX10_counted_74 : decode cX10_counted 74 = .ok (.aload_n 0, 1) := by decide +kernel
theorem dX10_counted_75 : decode cX10_counted 75 = .ok (.dup, 1) := by decide +kernel
theorem dX10_counted_76 : decode cX10_counted 76 = .ok (.getfield 164, 3) := by decide +kernel
theorem dX10_counted_79 : decode cX10_counted 79 = .ok (.iconst 1, 1) := by decide +kernel
theorem dX10_counted_80 : decode cX10_counted 80 = .ok (.iadd, 1) := by decide +kernel
theorem dX10_counted_81 : decode cX10_counted 81 = .ok (.putfield 164, 3) := by decide +kernel
theorem dX10_counted_84 : decode cX10_counted 84 = .ok (.aload_n 0, 1) := by decide +kernel
theorem dX10_counted_85 : decode cX10_counted 85 = .ok (.getfield 164, 3) := by decide +kernel
theorem dX10_counted_88 : decode cX10_counted 88 = .ok (.ireturn, 1) := by decide +kernel
theorem dX10_goesThrough_0 : decode cX10_goesThrough 0 = .ok (.aload_n 0, 1) := by decide +kernel
theorem dX10_goesThrough_1 : decode cX10_goesThrough 1 = .ok (.iconst 0, 1) := by decide +kernel
theorem dX10_goesThrough_2 : decode cX10_goesThrough 2 = .ok (.putfield 225, 3) := by decide +kernel
theorem dX10_goesThrough_5 : decode cX10_goesThrough 5 = .ok (.aload_n 0, 1) := by decide +kernel
theorem dX10_goesThrough_6 : decode cX10_goesThrough 6 = .ok (.iconst 0, 1) := by decide +kernel
theorem dX10_goesThrough_7 : decode cX10_goesThrough 7 = .ok (.putfield 255, 3) := by decide +kernel
theorem dX10_goesThrough_10 : decode cX10_goesThrough 10 = .ok (.aload_n 0, 1) := by decide +kernel
theorem dX10_goesThrough_11 : decode cX10_goesThrough 11 = .ok (.getfield 167, 3) := by decide +kernel
theorem dX10_goesThrough_14 : decode cX10_goesThrough 14 = .ok (.istore_n 1, 1) := by decide +kernel
theorem dX10_goesThrough_15 : decode cX10_goesThrough 15 = .ok (.aload_n 0, 1) := by decide +kernel
theorem dX10_goesThrough_16 : decode cX10_goesThrough 16 = .ok (.iload_n 1, 1) := by decide +kernel
theorem dX10_goesThrough_17 : decode cX10_goesThrough 17 = .ok (.invokevirtual 228, 3) := by decide +kernel
theorem dX10_goesThrough_20 : decode cX10_goesThrough 20 = .ok (.istore_n 2, 1) := by decide +kernel
theorem dX10_goesThrough_21 : decode cX10_goesThrough 21 = .ok (.iconst 0, 1) := by decide +kernel
theorem dX10_goesThrough_22 : decode cX10_goesThrough 22 = .ok (.istore_n 3, 1) := by decide +kernel
theorem dX10_goesThrough_23 : decode cX10_goesThrough 23 = .ok (.iload_n 3, 1) := by decide +kernel
theorem dX10_goesThrough_24 : decode cX10_goesThrough 24 = .ok (.iload_n 2, 1) := by decide +kernel
theorem dX10_goesThrough_25 : decode cX10_goesThrough 25 = .ok (.if_icmp .ge 216, 3) := by decide +kernel
theorem dX10_goesThrough_28 : decode cX10_goesThrough 28 = .ok (.aload_n 0, 1) := by decide +kernel
theorem dX10_goesThrough_29 : decode cX10_goesThrough 29 = .ok (.iload_n 3, 1) := by decide +kernel
theorem dX10_goesThrough_30 : decode cX10_goesThrough 30 = .ok (.iload_n 1, 1) := by decide +kernel
theorem dX10_goesThrough_31 : decode cX10_goesThrough 31 = .ok (.invokevirtual 231, 3) := by decide +kernel
theorem dX10_goesThrough_34 : decode cX10_goesThrough 34 = .ok (.iconst 1, 1) := by decide +kernel
theorem dX10_goesThrough_35 : decode cX10_goesThrough 35 = .ok (.istore 4, 2) := by decide +kernel
theorem dX10_goesThrough_37 : decode cX10_goesThrough 37 = .ok (.iconst 0, 1) := by decide +kernel
theorem dX10_goesThrough_38 : decode cX10_goesThrough 38 = .ok (.istore 5, 2) := by decide +kernel
theorem dX10_goesThrough_40 : decode cX10_goesThrough 40 = .ok (.iload 5, 2) := by decide +kernel
theorem dX10_goesThrough_42 : decode cX10_goesThrough 42 = .ok (.aload_n 0, 1) := by decide +kernel
theorem dX10_goesThrough_43 : decode cX10_goesThrough 43 = .ok (.getfield 164, 3) := by decide +kernel
theorem dX10_goesThrough_46 : decode cX10_goesThrough 46 = .ok (.if_icmp .ge 61, 3) := by decide +kernel
theorem dX10_goesThrough_49 : decode cX10_goesThrough 49 = .ok (.iload 4, 2) := by decide +kernel
theorem dX10_goesThrough_51 : decode cX10_goesThrough 51 = .ok (.ifCond .eq 47, 3) := by decide +kernel
theorem dX10_goesThrough_54 : decode cX10_goesThrough 54 = .ok (.aload_n 0, 1) := by decide +kernel
theorem dX10_goesThrough_55 : decode cX10_goesThrough 55 = .ok (.aload_n 0, 1) := by decide +kernel
theorem dX10_goesThrough_56 : decode cX10_goesThrough 56 = .ok (.getfield 7, 3) := by decide +kernel
theorem dX10_goesThrough_59 : decode cX10_goesThrough 59 = .ok (.bipush 64, 2) := by decide +kernel
theorem dX10_goesThrough_61 : decode cX10_goesThrough 61 = .ok (.aload_n 0, 1) := by decide +kernel
theorem dX10_goesThrough_62 : decode cX10_goesThrough 62 = .ok (.getfield 26, 3) := by decide +kernel
theorem dX10_goesThrough_65 : decode cX10_goesThrough 65 = .ok (.iconst 2, 1) := by decide +kernel
theorem dX10_goesThrough_66 : decode cX10_goesThrough 66 = .ok (.iload 5, 2) := by decide +kernel
theorem dX10_goesThrough_68 : decode cX10_goesThrough 68 = .ok (.imul, 1) := by decide +kernel
theorem dX10_goesThrough_69 : decode cX10_goesThrough 69 = .ok (.iaload, 1) := by decide +kernel
theorem dX10_goesThrough_70 : decode cX10_goesThrough 70 = .ok (.iadd, 1) := by decide +kernel
theorem dX10_goesThrough_71 : decode cX10_goesThrough 71 = .ok (.iaload, 1) := by decide +kernel
theorem dX10_goesThrough_72 : decode cX10_goesThrough 72 = .ok (.aload_n 0, 1) := by decide +kernel
theorem dX10_goesThrough_73 : decode cX10_goesThrough 73 = .ok (.getfield 35, 3) := by decide +kernel
theorem dX10_goesThrough_76 : decode cX10_goesThrough 76 = .ok (.iload_n 1, 1) := by decide +kernel
theorem dX10_goesThrough_77 : decode cX10_goesThrough 77 = .ok (.invokevirtual 190, 3) := by decide +kernel
theorem dX10_goesThrough_80 : decode cX10_goesThrough 80 = .ok (.aload_n 0, 1) := by decide +kernel
theorem dX10_goesThrough_81 : decode cX10_goesThrough 81 = .ok (.getfield 26, 3) := by decide +kernel
theorem dX10_goesThrough_84 : decode cX10_goesThrough 84 = .ok (.iconst 2, 1) := by decide +kernel
theorem dX10_goesThrough_85 : decode cX10_goesThrough 85 = .ok (.iload 5, 2) := by decide +kernel
theorem dX10_goesThrough_87 : decode cX10_goesThrough 87 = .ok (.imul, 1) := by decide +kernel
theorem dX10_goesThrough_88 : decode cX10_goesThrough 88 = .ok (.iconst 1, 1) := by decide +kernel
theorem dX10_goesThrough_89 : decode cX10_goesThrough 89 = .ok (.iadd, 1) := by decide +kernel
theorem dX10_goesThrough_90 : decode cX10_goesThrough 90 = .ok (.iaload, 1) := by decide +kernel
theorem dX10_goesThrough_91 : decode cX10_goesThrough 91 = .ok (.if_icmp .ne 7, 3) := by decide +kernel
theorem dX10_goesThrough_94 : decode cX10_goesThrough 94 = .ok (.iconst 1, 1) := by decide +kernel
theorem dX10_goesThrough_95 : decode cX10_goesThrough 95 = .ok (.goto 4, 3) := by decide +kernel
theorem dX10_goesThrough_98 : decode cX10_goesThrough 98 = .ok (.iconst 0, 1) := by decide +kernel
theorem dX10_goesThrough_99 : decode cX10_goesThrough 99 = .ok (.istore 4, 2) := by decide +kernel
theorem dX10_goesThrough_101 : decode cX10_goesThrough 101 = .ok (.iinc 5 1, 3) := by decide +kernel
theorem dX10_goesThrough_104 : decode cX10_goesThrough 104 = .ok (.goto (-64), 3) := by decide +kernel
theorem dX10_goesThrough_107 : decode cX10_goesThrough 107 = .ok (.iload 4, 2) := by decide +kernel
theorem dX10_goesThrough_109 : decode cX10_goesThrough 109 = .ok (.ifCond .eq 126, 3) := by decide +kernel
theorem dX10_goesThrough_112 : decode cX10_goesThrough 112 = .ok (.iconst 0, 1) := by decide +kernel
theorem dX10_goesThrough_113 : decode cX10_goesThrough 113 = .ok (.istore 5, 2) := by decide +kernel
theorem dX10_goesThrough_115 : decode cX10_goesThrough 115 = .ok (.iload 5, 2) := by decide +kernel
theorem dX10_goesThrough_117 : decode cX10_goesThrough 117 = .ok (.iload_n 1, 1) := by decide +kernel
theorem dX10_goesThrough_118 : decode cX10_goesThrough 118 = .ok (.if_icmp .ge 51, 3) := by decide +kernel
theorem dX10_goesThrough_121 : decode cX10_goesThrough 121 = .ok (.aload_n 0, 1) := by decide +kernel
theorem dX10_goesThrough_122 : decode cX10_goesThrough 122 = .ok (.getfield 44, 3) := by decide +kernel
theorem dX10_goesThrough_125 : decode cX10_goesThrough 125 = .ok (.iload 5, 2) := by decide +kernel
theorem dX10_goesThrough_127 : decode cX10_goesThrough 127 = .ok (.aload_n 0, 1) := by decide +kernel
theorem dX10_goesThrough_128 : decode cX10_goesThrough 128 = .ok (.getfield 225, 3) := by decide +kernel
theorem dX10_goesThrough_131 : decode cX10_goesThrough 131 = .ok (.ifCond .eq 20, 3) := by decide +kernel
theorem dX10_goesThrough_134 : decode cX10_goesThrough 134 = .ok (.aload_n 0, 1) := by decide +kernel
theorem dX10_goesThrough_135 : decode cX10_goesThrough 135 = .ok (.getfield 44, 3) := by decide +kernel
theorem dX10_goesThrough_138 : decode cX10_goesThrough 138 = .ok (.iload 5, 2) := by decide +kernel
theorem dX10_goesThrough_140 : decode cX10_goesThrough 140 = .ok (.iaload, 1) := by decide +kernel
theorem dX10_goesThrough_141 : decode cX10_goesThrough 141 = .ok (.aload_n 0, 1) := by decide +kernel
theorem dX10_goesThrough_142 : decode cX10_goesThrough 142 = .ok (.getfield 35, 3) := by decide +kernel
theorem dX10_goesThrough_145 : decode cX10_goesThrough 145 = .ok (.iload 5, 2) := by decide +kernel
theorem dX10_goesThrough_147 : decode cX10_goesThrough 147 = .ok (.iaload, 1) := by decide +kernel
theorem dX10_goesThrough_148 : decode cX10_goesThrough 148 = .ok (.if_icmp .ne 13, 3) := by decide +kernel
theorem dX10_goesThrough_151 : decode cX10_goesThrough 151 = .ok (.aload_n 0, 1) := by decide +kernel
theorem dX10_goesThrough_152 : decode cX10_goesThrough 152 = .ok (.getfield 35, 3) := by decide +kernel
theorem dX10_goesThrough_155 : decode cX10_goesThrough 155 = .ok (.iload 5, 2) := by decide +kernel
theorem dX10_goesThrough_157 : decode cX10_goesThrough 157 = .ok (.iaload, 1) := by decide +kernel
theorem dX10_goesThrough_158 : decode cX10_goesThrough 158 = .ok (.goto 4, 3) := by decide +kernel
theorem dX10_goesThrough_161 : decode cX10_goesThrough 161 = .ok (.iconst (-1), 1) := by decide +kernel
theorem dX10_goesThrough_162 : decode cX10_goesThrough 162 = .ok (.iastore, 1) := by decide +kernel
theorem dX10_goesThrough_163 : decode cX10_goesThrough 163 = .ok (.iinc 5 1, 3) := by decide +kernel
theorem dX10_goesThrough_166 : decode cX10_goesThrough 166 = .ok (.goto (-51), 3) := by decide +kernel
theorem dX10_goesThrough_169 : decode cX10_goesThrough 169 = .ok (.aload_n 0, 1) := by decide +kernel
theorem dX10_goesThrough_170 : decode cX10_goesThrough 170 = .ok (.iload_n 1, 1) := by decide +kernel
theorem dX10_goesThrough_171 : decode cX10_goesThrough 171 = .ok (.invokevirtual 239, 3) := by decide +kernel
theorem dX10_goesThrough_174 : decode cX10_goesThrough 174 = .ok (.iconst 0, 1) := by decide +kernel
theorem dX10_goesThrough_175 : decode cX10_goesThrough 175 = .ok (.istore 5, 2) := by decide +kernel
theorem dX10_goesThrough_177 : decode cX10_goesThrough 177 = .ok (.iload 5, 2) := by decide +kernel
theorem dX10_goesThrough_179 : decode cX10_goesThrough 179 = .ok (.aload_n 0, 1) := by decide +kernel
theorem dX10_goesThrough_180 : decode cX10_goesThrough 180 = .ok (.getfield 7, 3) := by decide +kernel
theorem dX10_goesThrough_183 : decode cX10_goesThrough 183 = .ok (.iconst 1, 1) := by decide +kernel
theorem dX10_goesThrough_184 : decode cX10_goesThrough 184 = .ok (.iaload, 1) := by decide +kernel
theorem dX10_goesThrough_185 : decode cX10_goesThrough 185 = .ok (.if_icmp .ge 50, 3) := by decide +kernel
theorem dX10_goesThrough_188 : decode cX10_goesThrough 188 = .ok (.aload_n 0, 1) := by decide +kernel
theorem dX10_goesThrough_189 : decode cX10_goesThrough 189 = .ok (.getfield 7, 3) := by decide +kernel
theorem dX10_goesThrough_192 : decode cX10_goesThrough 192 = .ok (.iconst 2, 1) := by decide +kernel
theorem dX10_goesThrough_193 : decode cX10_goesThrough 193 = .ok (.iaload, 1) := by decide +kernel
theorem dX10_goesThrough_194 : decode cX10_goesThrough 194 = .ok (.ifCond .le 41, 3) := by decide +kernel
theorem dX10_goesThrough_197 : decode cX10_goesThrough 197 = .ok (.aload_n 0, 1) := by decide +kernel
theorem dX10_goesThrough_198 : decode cX10_goesThrough 198 = .ok (.dup, 1) := by decide +kernel
theorem dX10_goesThrough_199 : decode cX10_goesThrough 199 = .ok (.getfield 255, 3) := by decide +kernel
theorem dX10_goesThrough_202 : decode cX10_goesThrough 202 = .ok (.aload_n 0, 1) := by decide +kernel
theorem dX10_goesThrough_203 : decode cX10_goesThrough 203 = .ok (.aload_n 0, 1) := by decide +kernel
theorem dX10_goesThrough_204 : decode cX10_goesThrough 204 = .ok (.getfield 35, 3) := by decide +kernel
theorem dX10_goesThrough_207 : decode cX10_goesThrough 207 = .ok (.iload_n 1, 1) := by decide +kernel
theorem dX10_goesThrough_208 : decode cX10_goesThrough 208 = .ok (.iload 5, 2) := by decide +kernel
theorem dX10_goesThrough_210 : decode cX10_goesThrough 210 = .ok (.iconst 0, 1) := by decide +kernel
theorem dX10_goesThrough_211 : decode cX10_goesThrough 211 = .ok (.invokevirtual 211, 3) := by decide +kernel
theorem dX10_goesThrough_214 : decode cX10_goesThrough 214 = .ok (.ifCond .eq 10, 3) := by decide +kernel
theorem dX10_goesThrough_217 : decode cX10_goesThrough 217 = .ok (.iconst 1, 1) := by decide +kernel
theorem dX10_goesThrough_218 : decode cX10_goesThrough 218 = .ok (.iload 5, 2) := by decide +kernel
theorem dX10_goesThrough_220 : decode cX10_goesThrough 220 = .ok (.ishl, 1) := by decide +kernel
theorem dX10_goesThrough_221 : decode cX10_goesThrough 221 = .ok (.goto 4, 3) := by decide +kernel
theorem dX10_goesThrough_224 : decode cX10_goesThrough 224 = .ok (.iconst 0, 1) := by decide +kernel
theorem dX10_goesThrough_225 : decode cX10_goesThrough 225 = .ok (.ior, 1) := by decide +kernel
theorem dX10_goesThrough_226 : decode cX10_goesThrough 226 = .ok (.putfield 255, 3) := by decide +kernel
theorem dX10_goesThrough_229 : decode cX10_goesThrough 229 = .ok (.iinc 5 1, 3) := by decide +kernel
theorem dX10_goesThrough_232 : decode cX10_goesThrough 232 = .ok (.goto (-55), 3) := by decide +kernel
theorem dX10_goesThrough_235 : decode cX10_goesThrough 235 = .ok (.iinc 3 1, 3) := by decide +kernel
theorem dX10_goesThrough_238 : decode cX10_goesThrough 238 = .ok (.goto (-215), 3) := by decide +kernel
theorem dX10_goesThrough_241 : decode cX10_goesThrough 241 = .ok (.return_, 1) := by decide +kernel
theorem dX10_canBe_0 : decode cX10_canBe 0 = .ok (.iload_n 1, 1) := by decide +kernel
theorem dX10_canBe_1 : decode cX10_canBe 1 = .ok (.i2l, 1) := by decide +kernel
theorem dX10_canBe_2 : decode cX10_canBe 2 = .ok (.lconst 0, 1) := by decide +kernel
theorem dX10_canBe_3 : decode cX10_canBe 3 = .ok (.lconst 1, 1) := by decide +kernel
theorem dX10_canBe_4 : decode cX10_canBe 4 = .ok (.invokestatic 54, 3) := by decide +kernel
theorem dX10_canBe_7 : decode cX10_canBe 7 = .ok (.ifCond .ne 6, 3) := by decide +kernel
theorem dX10_canBe_10 : decode cX10_canBe 10 = .ok (.bipush (-3), 2) := by decide +kernel
theorem dX10_canBe_12 : decode cX10_canBe 12 = .ok (.ireturn, 1) := by decide +kernel
theorem dX10_canBe_13 : decode cX10_canBe 13 = .ok (.aload_n 0, 1) := by decide +kernel
theorem dX10_canBe_14 : decode cX10_canBe 14 = .ok (.getfield 167, 3) := by decide +kernel
theorem dX10_canBe_17 : decode cX10_canBe 17 = .ok (.ifCond .ne 6, 3) := by decide +kernel
theorem dX10_canBe_20 : decode cX10_canBe 20 = .ok (.bipush (-4), 2) := by decide +kernel
theorem dX10_canBe_22 : decode cX10_canBe 22 = .ok (.ireturn, 1) := by decide +kernel
theorem dX10_canBe_23 : decode cX10_canBe 23 = .ok (.aload_n 0, 1) := by decide +kernel
theorem dX10_canBe_24 : decode cX10_canBe 24 = .ok (.invokevirtual 258, 3) := by decide +kernel
theorem dX10_canBe_27 : decode cX10_canBe 27 = .ok (.iload_n 1, 1) := by decide +kernel
theorem dX10_canBe_28 : decode cX10_canBe 28 = .ok (.ifCond .ne 10, 3) := by decide +kernel
theorem dX10_canBe_31 : decode cX10_canBe 31 = .ok (.aload_n 0, 1) := by decide +kernel
theorem dX10_canBe_32 : decode cX10_canBe 32 = .ok (.getfield 225, 3) := by decide +kernel
theorem dX10_canBe_35 : decode cX10_canBe 35 = .ok (.goto 7, 3) := by decide +kernel
theorem dX10_canBe_38 : decode cX10_canBe 38 = .ok (.aload_n 0, 1) := by decide +kernel
theorem dX10_canBe_39 : decode cX10_canBe 39 = .ok (.getfield 255, 3) := by decide +kernel
theorem dX10_canBe_42 : decode cX10_canBe 42 = .ok (.ireturn, 1) := by decide +kernel
theorem dX10_canBeWord_0 : decode cX10_canBeWord 0 = .ok (.iload_n 1, 1) := by decide +kernel
theorem dX10_canBeWord_1 : decode cX10_canBeWord 1 = .ok (.ifCond .lt 13, 3) := by decide +kernel
theorem dX10_canBeWord_4 : decode cX10_canBeWord 4 = .ok (.iload_n 2, 1) := by decide +kernel
theorem dX10_canBeWord_5 : decode cX10_canBeWord 5 = .ok (.i2l, 1) := by decide +kernel
theorem dX10_canBeWord_6 : decode cX10_canBeWord 6 = .ok (.lconst 0, 1) := by decide +kernel
theorem dX10_canBeWord_7 : decode cX10_canBeWord 7 = .ok (.lconst 1, 1) := by decide +kernel
theorem dX10_canBeWord_8 : decode cX10_canBeWord 8 = .ok (.invokestatic 54, 3) := by decide +kernel
theorem dX10_canBeWord_11 : decode cX10_canBeWord 11 = .ok (.ifCond .ne 6, 3) := by decide +kernel
theorem dX10_canBeWord_14 : decode cX10_canBeWord 14 = .ok (.bipush (-3), 2) := by decide +kernel
theorem dX10_canBeWord_16 : decode cX10_canBeWord 16 = .ok (.ireturn, 1) := by decide +kernel
theorem dX10_canBeWord_17 : decode cX10_canBeWord 17 = .ok (.aload_n 0, 1) := by decide +kernel
theorem dX10_canBeWord_18 : decode cX10_canBeWord 18 = .ok (.getfield 167, 3) := by decide +kernel
theorem dX10_canBeWord_21 : decode cX10_canBeWord 21 = .ok (.ifCond .ne 6, 3) := by decide +kernel
theorem dX10_canBeWord_24 : decode cX10_canBeWord 24 = .ok (.bipush (-4), 2) := by decide +kernel
theorem dX10_canBeWord_26 : decode cX10_canBeWord 26 = .ok (.ireturn, 1) := by decide +kernel
theorem dX10_canBeWord_27 : decode cX10_canBeWord 27 = .ok (.aload_n 0, 1) := by decide +kernel
theorem dX10_canBeWord_28 : decode cX10_canBeWord 28 = .ok (.invokevirtual 258, 3) := by decide +kernel
theorem dX10_canBeWord_31 : decode cX10_canBeWord 31 = .ok (.aload_n 0, 1) := by decide +kernel
theorem dX10_canBeWord_32 : decode cX10_canBeWord 32 = .ok (.getfield 225, 3) := by decide +kernel
theorem dX10_canBeWord_35 : decode cX10_canBeWord 35 = .ok (.ifCond .eq 11, 3) := by decide +kernel
theorem dX10_canBeWord_38 : decode cX10_canBeWord 38 = .ok (.iload_n 1, 1) := by decide +kernel
theorem dX10_canBeWord_39 : decode cX10_canBeWord 39 = .ok (.aload_n 0, 1) := by decide +kernel
theorem dX10_canBeWord_40 : decode cX10_canBeWord 40 = .ok (.getfield 167, 3) := by decide +kernel
theorem dX10_canBeWord_43 : decode cX10_canBeWord 43 = .ok (.if_icmp .lt 7, 3) := by decide +kernel
theorem dX10_canBeWord_46 : decode cX10_canBeWord 46 = .ok (.iconst (-1), 1) := by decide +kernel
theorem dX10_canBeWord_47 : decode cX10_canBeWord 47 = .ok (.goto 22, 3) := by decide +kernel
theorem dX10_canBeWord_50 : decode cX10_canBeWord 50 = .ok (.iload_n 2, 1) := by decide +kernel
theorem dX10_canBeWord_51 : decode cX10_canBeWord 51 = .ok (.ifCond .ne 12, 3) := by decide +kernel
theorem dX10_canBeWord_54 : decode cX10_canBeWord 54 = .ok (.aload_n 0, 1) := by decide +kernel
theorem dX10_canBeWord_55 : decode cX10_canBeWord 55 = .ok (.getfield 38, 3) := by decide +kernel
theorem dX10_canBeWord_58 : decode cX10_canBeWord 58 = .ok (.iload_n 1, 1) := by decide +kernel
theorem dX10_canBeWord_59 : decode cX10_canBeWord 59 = .ok (.iaload, 1) := by decide +kernel
theorem dX10_canBeWord_60 : decode cX10_canBeWord 60 = .ok (.goto 9, 3) := by decide +kernel
theorem dX10_canBeWord_63 : decode cX10_canBeWord 63 = .ok (.aload_n 0, 1) := by decide +kernel
theorem dX10_canBeWord_64 : decode cX10_canBeWord 64 = .ok (.getfield 44, 3) := by decide +kernel
theorem dX10_canBeWord_67 : decode cX10_canBeWord 67 = .ok (.iload_n 1, 1) := by decide +kernel
theorem dX10_canBeWord_68 : decode cX10_canBeWord 68 = .ok (.iaload, 1) := by decide +kernel
theorem dX10_canBeWord_69 : decode cX10_canBeWord 69 = .ok (.ireturn, 1) := by decide +kernel
theorem dX10_count_0 : decode cX10_count 0 = .ok (.iload_n 1, 1) := by decide +kernel
theorem dX10_count_1 : decode cX10_count 1 = .ok (.i2l, 1) := by decide +kernel
theorem dX10_count_2 : decode cX10_count 2 = .ok (.lconst 0, 1) := by decide +kernel
theorem dX10_count_3 : decode cX10_count 3 = .ok (.ldc2_w 261, 3) := by decide +kernel
theorem dX10_count_6 : decode cX10_count 6 = .ok (.invokestatic 54, 3) := by decide +kernel
theorem dX10_count_9 : decode cX10_count 9 = .ok (.ifCond .ne 6, 3) := by decide +kernel
theorem dX10_count_12 : decode cX10_count 12 = .ok (.bipush (-3), 2) := by decide +kernel
theorem dX10_count_14 : decode cX10_count 14 = .ok (.ireturn, 1) := by decide +kernel
theorem dX10_count_15 : decode cX10_count 15 = .ok (.iconst 0, 1) := by decide +kernel
theorem dX10_count_16 : decode cX10_count 16 = .ok (.istore_n 2, 1) := by decide +kernel
theorem dX10_count_17 : decode cX10_count 17 = .ok (.iconst 0, 1) := by decide +kernel
theorem dX10_count_18 : decode cX10_count 18 = .ok (.istore_n 3, 1) := by decide +kernel
theorem dX10_count_19 : decode cX10_count 19 = .ok (.iload_n 3, 1) := by decide +kernel
theorem dX10_count_20 : decode cX10_count 20 = .ok (.aload_n 0, 1) := by decide +kernel
theorem dX10_count_21 : decode cX10_count 21 = .ok (.getfield 7, 3) := by decide +kernel
theorem dX10_count_24 : decode cX10_count 24 = .ok (.iconst 1, 1) := by decide +kernel
theorem dX10_count_25 : decode cX10_count 25 = .ok (.iaload, 1) := by decide +kernel
theorem dX10_count_26 : decode cX10_count 26 = .ok (.if_icmp .ge 35, 3) := by decide +kernel
theorem dX10_count_29 : decode cX10_count 29 = .ok (.iload_n 2, 1) := by decide +kernel
theorem dX10_count_30 : decode cX10_count 30 = .ok (.aload_n 0, 1) := by decide +kernel
theorem dX10_count_31 : decode cX10_count 31 = .ok (.getfield 7, 3) := by decide +kernel
theorem dX10_count_34 : decode cX10_count 34 = .ok (.bipush 46, 2) := by decide +kernel
theorem dX10_count_36 : decode cX10_count 36 = .ok (.iconst 3, 1) := by decide +kernel
theorem dX10_count_37 : decode cX10_count 37 = .ok (.iload_n 3, 1) := by decide +kernel
theorem dX10_count_38 : decode cX10_count 38 = .ok (.imul, 1) := by decide +kernel
theorem dX10_count_39 : decode cX10_count 39 = .ok (.iadd, 1) := by decide +kernel
theorem dX10_count_40 : decode cX10_count 40 = .ok (.iconst 2, 1) := by decide +kernel
theorem dX10_count_41 : decode cX10_count 41 = .ok (.iadd, 1) := by decide +kernel
theorem dX10_count_42 : decode cX10_count 42 = .ok (.iaload, 1) := by decide +kernel
theorem dX10_count_43 : decode cX10_count 43 = .ok (.ifCond .ne 9, 3) := by decide +kernel
theorem dX10_count_46 : decode cX10_count 46 = .ok (.iconst 1, 1) := by decide +kernel
theorem dX10_count_47 : decode cX10_count 47 = .ok (.iload_n 3, 1) := by decide +kernel
theorem dX10_count_48 : decode cX10_count 48 = .ok (.ishl, 1) := by decide +kernel
theorem dX10_count_49 : decode cX10_count 49 = .ok (.goto 4, 3) := by decide +kernel
theorem dX10_count_52 : decode cX10_count 52 = .ok (.iconst 0, 1) := by decide +kernel
theorem dX10_count_53 : decode cX10_count 53 = .ok (.ior, 1) := by decide +kernel
theorem dX10_count_54 : decode cX10_count 54 = .ok (.istore_n 2, 1) := by decide +kernel
theorem dX10_count_55 : decode cX10_count 55 = .ok (.iinc 3 1, 3) := by decide +kernel
theorem dX10_count_58 : decode cX10_count 58 = .ok (.goto (-39), 3) := by decide +kernel
theorem dX10_count_61 : decode cX10_count 61 = .ok (.iload_n 1, 1) := by decide +kernel
theorem dX10_count_62 : decode cX10_count 62 = .ok (.bipush 8, 2) := by decide +kernel
theorem dX10_count_64 : decode cX10_count 64 = .ok (.if_icmp .ne 10, 3) := by decide +kernel
theorem dX10_count_67 : decode cX10_count 67 = .ok (.aload_n 0, 1) := by decide +kernel
theorem dX10_count_68 : decode cX10_count 68 = .ok (.getfield 164, 3) := by decide +kernel
theorem dX10_count_71 : decode cX10_count 71 = .ok (.goto 20, 3) := by decide +kernel
theorem dX10_count_74 : decode cX10_count 74 = .ok (.iload_n 1, 1) := by decide +kernel
theorem dX10_count_75 : decode cX10_count 75 = .ok (.bipush 9, 2) := by decide +kernel
theorem dX10_count_77 : decode cX10_count 77 = .ok (.if_icmp .ne 10, 3) := by decide +kernel
theorem dX10_count_80 : decode cX10_count 80 = .ok (.aload_n 0, 1) := by decide +kernel
theorem dX10_count_81 : decode cX10_count 81 = .ok (.getfield 170, 3) := by decide +kernel
theorem dX10_count_84 : decode cX10_count 84 = .ok (.goto 7, 3) := by decide +kernel
theorem dX10_count_87 : decode cX10_count 87 = .ok (.aload_n 0, 1) := by decide +kernel
theorem dX10_count_88 : decode cX10_count 88 = .ok (.getfield 67, 3) := by decide +kernel
theorem dX10_count_91 : decode cX10_count 91 = .ok (.istore_n 3, 1) := by decide +kernel
theorem dX10_count_92 : decode cX10_count 92 = .ok (.iload_n 1, 1) := by decide +kernel
theorem dX10_count_93 : decode cX10_count 93 = .ok (.bipush 6, 2) := by decide +kernel
theorem dX10_count_95 : decode cX10_count 95 = .ok (.if_icmp .ge 12, 3) := by decide +kernel
theorem dX10_count_98 : decode cX10_count 98 = .ok (.aload_n 0, 1) := by decide +kernel
theorem dX10_count_99 : decode cX10_count 99 = .ok (.getfield 7, 3) := by decide +kernel
theorem dX10_count_102 : decode cX10_count 102 = .ok (.iload_n 1, 1) := by decide +kernel
theorem dX10_count_103 : decode cX10_count 103 = .ok (.iaload, 1) := by decide +kernel
theorem dX10_count_104 : decode cX10_count 104 = .ok (.goto 27, 3) := by decide +kernel
theorem dX10_count_107 : decode cX10_count 107 = .ok (.iload_n 1, 1) := by decide +kernel
theorem dX10_count_108 : decode cX10_count 108 = .ok (.bipush 6, 2) := by decide +kernel
theorem dX10_count_110 : decode cX10_count 110 = .ok (.if_icmp .ne 7, 3) := by decide +kernel
theorem dX10_count_113 : decode cX10_count 113 = .ok (.iload_n 2, 1) := by decide +kernel
theorem dX10_count_114 : decode cX10_count 114 = .ok (.goto 17, 3) := by decide +kernel
theorem dX10_count_117 : decode cX10_count 117 = .ok (.iload_n 1, 1) := by decide +kernel
theorem dX10_count_118 : decode cX10_count 118 = .ok (.bipush 7, 2) := by decide +kernel
theorem dX10_count_120 : decode cX10_count 120 = .ok (.if_icmp .ne 10, 3) := by decide +kernel
theorem dX10_count_123 : decode cX10_count 123 = .ok (.aload_n 0, 1) := by decide +kernel
theorem dX10_count_124 : decode cX10_count 124 = .ok (.getfield 161, 3) := by decide +kernel
theorem dX10_count_127 : decode cX10_count 127 = .ok (.goto 4, 3) := by decide +kernel
theorem dX10_count_130 : decode cX10_count 130 = .ok (.iload_n 3, 1) := by decide +kernel
theorem dX10_count_131 : decode cX10_count 131 = .ok (.ireturn, 1) := by decide +kernel
theorem dJ9_max_7cf53_0 : decode cJ9_max_7cf53 0 = .ok (.iload_n 0, 1) := by decide +kernel
theorem dJ9_max_7cf53_1 : decode cJ9_max_7cf53 1 = .ok (.iload_n 1, 1) := by decide +kernel
theorem dJ9_max_7cf53_2 : decode cJ9_max_7cf53 2 = .ok (.if_icmp .lt 7, 3) := by decide +kernel
theorem dJ9_max_7cf53_5 : decode cJ9_max_7cf53 5 = .ok (.iload_n 0, 1) := by decide +kernel
theorem dJ9_max_7cf53_6 : decode cJ9_max_7cf53 6 = .ok (.goto 4, 3) := by decide +kernel
theorem dJ9_max_7cf53_9 : decode cJ9_max_7cf53 9 = .ok (.iload_n 1, 1) := by decide +kernel
theorem dJ9_max_7cf53_10 : decode cJ9_max_7cf53 10 = .ok (.ireturn, 1) := by decide +kernel
theorem dJ9_min_7cf53_0 : decode cJ9_min_7cf53 0 = .ok (.iload_n 0, 1) := by decide +kernel
theorem dJ9_min_7cf53_1 : decode cJ9_min_7cf53 1 = .ok (.iload_n 1, 1) := by decide +kernel
theorem dJ9_min_7cf53_2 : decode cJ9_min_7cf53 2 = .ok (.if_icmp .gt 7, 3) := by decide +kernel
theorem dJ9_min_7cf53_5 : decode cJ9_min_7cf53 5 = .ok (.iload_n 0, 1) := by decide +kernel
theorem dJ9_min_7cf53_6 : decode cJ9_min_7cf53 6 = .ok (.goto 4, 3) := by decide +kernel
theorem dJ9_min_7cf53_9 : decode cJ9_min_7cf53 9 = .ok (.iload_n 1, 1) := by decide +kernel
theorem dJ9_min_7cf53_10 : decode cJ9_min_7cf53 10 = .ok (.ireturn, 1) := by decide +kernel
theorem dJ0_length_8abf5_0 : decode cJ0_length_8abf5 0 = .ok (.aload_n 0, 1) := by decide +kernel
theorem dJ0_length_8abf5_1 : decode cJ0_length_8abf5 1 = .ok (.getfield 9, 3) := by decide +kernel
theorem dJ0_length_8abf5_4 : decode cJ0_length_8abf5 4 = .ok (.arraylength, 1) := by decide +kernel
theorem dJ0_length_8abf5_5 : decode cJ0_length_8abf5 5 = .ok (.aload_n 0, 1) := by decide +kernel
theorem dJ0_length_8abf5_6 : decode cJ0_length_8abf5 6 = .ok (.invokevirtual 335, 3) := by decide +kernel
theorem dJ0_length_8abf5_9 : decode cJ0_length_8abf5 9 = .ok (.ishr, 1) := by decide +kernel
theorem dJ0_length_8abf5_10 : decode cJ0_length_8abf5 10 = .ok (.ireturn, 1) := by decide +kernel
theorem dJ0_charAt_5068e_0 : decode cJ0_charAt_5068e 0 = .ok (.aload_n 0, 1) := by decide +kernel
theorem dJ0_charAt_5068e_1 : decode cJ0_charAt_5068e 1 = .ok (.invokevirtual 492, 3) := by decide +kernel
theorem dJ0_charAt_5068e_4 : decode cJ0_charAt_5068e 4 = .ok (.ifCond .eq 12, 3) := by decide +kernel
theorem dJ0_charAt_5068e_7 : decode cJ0_charAt_5068e 7 = .ok (.aload_n 0, 1) := by decide +kernel
theorem dJ0_charAt_5068e_8 : decode cJ0_charAt_5068e 8 = .ok (.getfield 9, 3) := by decide +kernel
theorem dJ0_charAt_5068e_11 : decode cJ0_charAt_5068e 11 = .ok (.iload_n 1, 1) := by decide +kernel
theorem dJ0_charAt_5068e_12 : decode cJ0_charAt_5068e 12 = .ok (.invokestatic 495, 3) := by decide +kernel
theorem dJ0_charAt_5068e_15 : decode cJ0_charAt_5068e 15 = .ok (.ireturn, 1) := by decide +kernel
theorem dJ0_charAt_5068e_16 : decode cJ0_charAt_5068e 16 = .ok (.aload_n 0, 1) := by decide +kernel
theorem dJ0_charAt_5068e_17 : decode cJ0_charAt_5068e 17 = .ok (.getfield 9, 3) := by decide +kernel
theorem dJ0_charAt_5068e_20 : decode cJ0_charAt_5068e 20 = .ok (.iload_n 1, 1) := by decide +kernel
theorem dJ0_charAt_5068e_21 : decode cJ0_charAt_5068e 21 = .ok (.invokestatic 498, 3) := by decide +kernel
theorem dJ0_charAt_5068e_24 : decode cJ0_charAt_5068e 24 = .ok (.ireturn, 1) := by decide +kernel
theorem dJ0_coder_7d493_0 : decode cJ0_coder_7d493 0 = .ok (.getstatic 38, 3) := by decide +kernel
theorem dJ0_coder_7d493_3 : decode cJ0_coder_7d493 3 = .ok (.ifCond .eq 10, 3) := by decide +kernel
theorem dJ0_coder_7d493_6 : decode cJ0_coder_7d493 6 = .ok (.aload_n 0, 1) := by decide +kernel
theorem dJ0_coder_7d493_7 : decode cJ0_coder_7d493 7 = .ok (.getfield 15, 3) := by decide +kernel
theorem dJ0_coder_7d493_10 : decode cJ0_coder_7d493 10 = .ok (.goto 4, 3) := by decide +kernel
theorem dJ0_coder_7d493_13 : decode cJ0_coder_7d493 13 = .ok (.iconst 1, 1) := by decide +kernel
theorem dJ0_coder_7d493_14 : decode cJ0_coder_7d493 14 = .ok (.ireturn, 1) := by decide +kernel
theorem dJ0_isLatin1_aae02_0 : decode cJ0_isLatin1_aae02 0 = .ok (.getstatic 38, 3) := by decide +kernel
theorem dJ0_isLatin1_aae02_3 : decode cJ0_isLatin1_aae02 3 = .ok (.ifCond .eq 14, 3) := by decide +kernel
theorem dJ0_isLatin1_aae02_6 : decode cJ0_isLatin1_aae02 6 = .ok (.aload_n 0, 1) := by decide +kernel
theorem dJ0_isLatin1_aae02_7 : decode cJ0_isLatin1_aae02 7 = .ok (.getfield 15, 3) := by decide +kernel
theorem dJ0_isLatin1_aae02_10 : decode cJ0_isLatin1_aae02 10 = .ok (.ifCond .ne 7, 3) := by decide +kernel
theorem dJ0_isLatin1_aae02_13 : decode cJ0_isLatin1_aae02 13 = .ok (.iconst 1, 1) := by decide +kernel
theorem dJ0_isLatin1_aae02_14 : decode cJ0_isLatin1_aae02 14 = .ok (.goto 4, 3) := by decide +kernel
theorem dJ0_isLatin1_aae02_17 : decode cJ0_isLatin1_aae02 17 = .ok (.iconst 0, 1) := by decide +kernel
theorem dJ0_isLatin1_aae02_18 : decode cJ0_isLatin1_aae02 18 = .ok (.ireturn, 1) := by decide +kernel
theorem dJ0_checkIndex_df160_0 : decode cJ0_checkIndex_df160 0 = .ok (.iload_n 0, 1) := by decide +kernel
theorem dJ0_checkIndex_df160_1 : decode cJ0_checkIndex_df160 1 = .ok (.iload_n 1, 1) := by decide +kernel
theorem dJ0_checkIndex_df160_2 : decode cJ0_checkIndex_df160 2 = .ok (.getstatic 1053, 3) := by decide +kernel
theorem dJ0_checkIndex_df160_5 : decode cJ0_checkIndex_df160 5 = .ok (.invokestatic 1059, 3) := by decide +kernel
theorem dJ0_checkIndex_df160_8 : decode cJ0_checkIndex_df160 8 = .ok (.pop, 1) := by decide +kernel
theorem dJ0_checkIndex_df160_9 : decode cJ0_checkIndex_df160 9 = .ok (.return_, 1) := by decide +kernel
theorem dJ1_charAt_3b067_0 : decode cJ1_charAt_3b067 0 = .ok (.iload_n 1, 1) := by decide +kernel
theorem dJ1_charAt_3b067_1 : decode cJ1_charAt_3b067 1 = .ok (.aload_n 0, 1) := by decide +kernel
theorem dJ1_charAt_3b067_2 : decode cJ1_charAt_3b067 2 = .ok (.arraylength, 1) := by decide +kernel
theorem dJ1_charAt_3b067_3 : decode cJ1_charAt_3b067 3 = .ok (.invokestatic 9, 3) := by decide +kernel
theorem dJ1_charAt_3b067_6 : decode cJ1_charAt_3b067 6 = .ok (.aload_n 0, 1) := by decide +kernel
theorem dJ1_charAt_3b067_7 : decode cJ1_charAt_3b067 7 = .ok (.iload_n 1, 1) := by decide +kernel
theorem dJ1_charAt_3b067_8 : decode cJ1_charAt_3b067 8 = .ok (.baload, 1) := by decide +kernel
theorem dJ1_charAt_3b067_9 : decode cJ1_charAt_3b067 9 = .ok (.sipush 255, 3) := by decide +kernel
theorem dJ1_charAt_3b067_12 : decode cJ1_charAt_3b067 12 = .ok (.iand, 1) := by decide +kernel
theorem dJ1_charAt_3b067_13 : decode cJ1_charAt_3b067 13 = .ok (.i2c, 1) := by decide +kernel
theorem dJ1_charAt_3b067_14 : decode cJ1_charAt_3b067 14 = .ok (.ireturn, 1) := by decide +kernel
theorem dJ2_getChar_3b067_0 : decode cJ2_getChar_3b067 0 = .ok (.getstatic 44, 3) := by decide +kernel
theorem dJ2_getChar_3b067_3 : decode cJ2_getChar_3b067 3 = .ok (.ifCond .ne 25, 3) := by decide +kernel
theorem dJ2_getChar_3b067_6 : decode cJ2_getChar_3b067 6 = .ok (.iload_n 1, 1) := by decide +kernel
theorem dJ2_getChar_3b067_7 : decode cJ2_getChar_3b067 7 = .ok (.ifCond .lt 11, 3) := by decide +kernel
theorem dJ2_getChar_3b067_10 : decode cJ2_getChar_3b067 10 = .ok (.iload_n 1, 1) := by decide +kernel
theorem dJ2_getChar_3b067_11 : decode cJ2_getChar_3b067 11 = .ok (.aload_n 0, 1) := by decide +kernel
theorem dJ2_getChar_3b067_12 : decode cJ2_getChar_3b067 12 = .ok (.invokestatic 48, 3) := by decide +kernel
theorem dJ2_getChar_3b067_15 : decode cJ2_getChar_3b067 15 = .ok (.if_icmp .lt 13, 3) := by decide +kernel
theorem dJ2_getChar_3b067_18 : decode cJ2_getChar_3b067 18 = .ok (.new 52, 3) := by decide +kernel
theorem dJ2_getChar_3b067_21 : decode cJ2_getChar_3b067 21 = .ok (.dup, 1) := by decide +kernel
theorem dJ2_getChar_3b067_22 : decode cJ2_getChar_3b067 22 = .ok (.ldc 54, 2) := by decide +kernel
theorem dJ2_getChar_3b067_24 : decode cJ2_getChar_3b067 24 = .ok (.invokespecial 56, 3) := by decide +kernel
theorem dJ2_getChar_3b067_27 : decode cJ2_getChar_3b067 27 = .ok (.athrow, 1) := by decide +kernel
theorem dJ2_getChar_3b067_28 : decode cJ2_getChar_3b067 28 = .ok (.iload_n 1, 1) := by decide +kernel
theorem dJ2_getChar_3b067_29 : decode cJ2_getChar_3b067 29 = .ok (.iconst 1, 1) := by decide +kernel
theorem dJ2_getChar_3b067_30 : decode cJ2_getChar_3b067 30 = .ok (.ishl, 1) := by decide +kernel
theorem dJ2_getChar_3b067_31 : decode cJ2_getChar_3b067 31 = .ok (.istore_n 1, 1) := by decide +kernel
theorem dJ2_getChar_3b067_32 : decode cJ2_getChar_3b067 32 = .ok (.aload_n 0, 1) := by decide +kernel
theorem dJ2_getChar_3b067_33 : decode cJ2_getChar_3b067 33 = .ok (.iload_n 1, 1) := by decide +kernel
theorem dJ2_getChar_3b067_34 : decode cJ2_getChar_3b067 34 = .ok (.iinc 1 1, 3) := by decide +kernel
theorem dJ2_getChar_3b067_37 : decode cJ2_getChar_3b067 37 = .ok (.baload, 1) := by decide +kernel
theorem dJ2_getChar_3b067_38 : decode cJ2_getChar_3b067 38 = .ok (.sipush 255, 3) := by decide +kernel
theorem dJ2_getChar_3b067_41 : decode cJ2_getChar_3b067 41 = .ok (.iand, 1) := by decide +kernel
theorem dJ2_getChar_3b067_42 : decode cJ2_getChar_3b067 42 = .ok (.getstatic 59, 3) := by decide +kernel
theorem dJ2_getChar_3b067_45 : decode cJ2_getChar_3b067 45 = .ok (.ishl, 1) := by decide +kernel
theorem dJ2_getChar_3b067_46 : decode cJ2_getChar_3b067 46 = .ok (.aload_n 0, 1) := by decide +kernel
theorem dJ2_getChar_3b067_47 : decode cJ2_getChar_3b067 47 = .ok (.iload_n 1, 1) := by decide +kernel
theorem dJ2_getChar_3b067_48 : decode cJ2_getChar_3b067 48 = .ok (.baload, 1) := by decide +kernel
theorem dJ2_getChar_3b067_49 : decode cJ2_getChar_3b067 49 = .ok (.sipush 255, 3) := by decide +kernel
theorem dJ2_getChar_3b067_52 : decode cJ2_getChar_3b067 52 = .ok (.iand, 1) := by decide +kernel
theorem dJ2_getChar_3b067_53 : decode cJ2_getChar_3b067 53 = .ok (.getstatic 63, 3) := by decide +kernel
theorem dJ2_getChar_3b067_56 : decode cJ2_getChar_3b067 56 = .ok (.ishl, 1) := by decide +kernel
theorem dJ2_getChar_3b067_57 : decode cJ2_getChar_3b067 57 = .ok (.ior, 1) := by decide +kernel
theorem dJ2_getChar_3b067_58 : decode cJ2_getChar_3b067 58 = .ok (.i2c, 1) := by decide +kernel
theorem dJ2_getChar_3b067_59 : decode cJ2_getChar_3b067 59 = .ok (.ireturn, 1) := by decide +kernel
theorem dJ2_length_9d52b_0 : decode cJ2_length_9d52b 0 = .ok (.aload_n 0, 1) := by decide +kernel
theorem dJ2_length_9d52b_1 : decode cJ2_length_9d52b 1 = .ok (.arraylength, 1) := by decide +kernel
theorem dJ2_length_9d52b_2 : decode cJ2_length_9d52b 2 = .ok (.iconst 1, 1) := by decide +kernel
theorem dJ2_length_9d52b_3 : decode cJ2_length_9d52b 3 = .ok (.ishr, 1) := by decide +kernel
theorem dJ2_length_9d52b_4 : decode cJ2_length_9d52b 4 = .ok (.ireturn, 1) := by decide +kernel
theorem dJ2_charAt_3b067_0 : decode cJ2_charAt_3b067 0 = .ok (.iload_n 1, 1) := by decide +kernel
theorem dJ2_charAt_3b067_1 : decode cJ2_charAt_3b067 1 = .ok (.aload_n 0, 1) := by decide +kernel
theorem dJ2_charAt_3b067_2 : decode cJ2_charAt_3b067 2 = .ok (.invokestatic 67, 3) := by decide +kernel
theorem dJ2_charAt_3b067_5 : decode cJ2_charAt_3b067 5 = .ok (.aload_n 0, 1) := by decide +kernel
theorem dJ2_charAt_3b067_6 : decode cJ2_charAt_3b067 6 = .ok (.iload_n 1, 1) := by decide +kernel
theorem dJ2_charAt_3b067_7 : decode cJ2_charAt_3b067 7 = .ok (.invokestatic 71, 3) := by decide +kernel
theorem dJ2_charAt_3b067_10 : decode cJ2_charAt_3b067 10 = .ok (.ireturn, 1) := by decide +kernel
theorem dJ2_checkIndex_2214a_0 : decode cJ2_checkIndex_2214a 0 = .ok (.iload_n 0, 1) := by decide +kernel
theorem dJ2_checkIndex_2214a_1 : decode cJ2_checkIndex_2214a 1 = .ok (.aload_n 1, 1) := by decide +kernel
theorem dJ2_checkIndex_2214a_2 : decode cJ2_checkIndex_2214a 2 = .ok (.invokestatic 48, 3) := by decide +kernel
theorem dJ2_checkIndex_2214a_5 : decode cJ2_checkIndex_2214a 5 = .ok (.invokestatic 414, 3) := by decide +kernel
theorem dJ2_checkIndex_2214a_8 : decode cJ2_checkIndex_2214a 8 = .ok (.return_, 1) := by decide +kernel
theorem dJ7_fill_53178_0 : decode cJ7_fill_53178 0 = .ok (.iconst 0, 1) := by decide +kernel
theorem dJ7_fill_53178_1 : decode cJ7_fill_53178 1 = .ok (.istore_n 2, 1) := by decide +kernel
theorem dJ7_fill_53178_2 : decode cJ7_fill_53178 2 = .ok (.aload_n 0, 1) := by decide +kernel
theorem dJ7_fill_53178_3 : decode cJ7_fill_53178 3 = .ok (.arraylength, 1) := by decide +kernel
theorem dJ7_fill_53178_4 : decode cJ7_fill_53178 4 = .ok (.istore_n 3, 1) := by decide +kernel
theorem dJ7_fill_53178_5 : decode cJ7_fill_53178 5 = .ok (.iload_n 2, 1) := by decide +kernel
theorem dJ7_fill_53178_6 : decode cJ7_fill_53178 6 = .ok (.iload_n 3, 1) := by decide +kernel
theorem dJ7_fill_53178_7 : decode cJ7_fill_53178 7 = .ok (.if_icmp .ge 13, 3) := by decide +kernel
theorem dJ7_fill_53178_10 : decode cJ7_fill_53178 10 = .ok (.aload_n 0, 1) := by decide +kernel
theorem dJ7_fill_53178_11 : decode cJ7_fill_53178 11 = .ok (.iload_n 2, 1) := by decide +kernel
theorem dJ7_fill_53178_12 : decode cJ7_fill_53178 12 = .ok (.iload_n 1, 1) := by decide +kernel
theorem dJ7_fill_53178_13 : decode cJ7_fill_53178 13 = .ok (.iastore, 1) := by decide +kernel
theorem dJ7_fill_53178_14 : decode cJ7_fill_53178 14 = .ok (.iinc 2 1, 3) := by decide +kernel
theorem dJ7_fill_53178_17 : decode cJ7_fill_53178 17 = .ok (.goto (-12), 3) := by decide +kernel
theorem dJ7_fill_53178_20 : decode cJ7_fill_53178 20 = .ok (.return_, 1) := by decide +kernel
theorem dJ3_checkIndex_8e157_0 : decode cJ3_checkIndex_8e157 0 = .ok (.iload_n 0, 1) := by decide +kernel
theorem dJ3_checkIndex_8e157_1 : decode cJ3_checkIndex_8e157 1 = .ok (.ifCond .lt 8, 3) := by decide +kernel
theorem dJ3_checkIndex_8e157_4 : decode cJ3_checkIndex_8e157 4 = .ok (.iload_n 0, 1) := by decide +kernel
theorem dJ3_checkIndex_8e157_5 : decode cJ3_checkIndex_8e157 5 = .ok (.iload_n 1, 1) := by decide +kernel
theorem dJ3_checkIndex_8e157_6 : decode cJ3_checkIndex_8e157 6 = .ok (.if_icmp .lt 10, 3) := by decide +kernel
theorem dJ3_checkIndex_8e157_9 : decode cJ3_checkIndex_8e157 9 = .ok (.aload_n 2, 1) := by decide +kernel
theorem dJ3_checkIndex_8e157_10 : decode cJ3_checkIndex_8e157 10 = .ok (.iload_n 0, 1) := by decide +kernel
theorem dJ3_checkIndex_8e157_11 : decode cJ3_checkIndex_8e157 11 = .ok (.iload_n 1, 1) := by decide +kernel
theorem dJ3_checkIndex_8e157_12 : decode cJ3_checkIndex_8e157 12 = .ok (.invokestatic 95, 3) := by decide +kernel
theorem dJ3_checkIndex_8e157_15 : decode cJ3_checkIndex_8e157 15 = .ok (.athrow, 1) := by decide +kernel
theorem dJ3_checkIndex_8e157_16 : decode cJ3_checkIndex_8e157 16 = .ok (.iload_n 0, 1) := by decide +kernel
theorem dJ3_checkIndex_8e157_17 : decode cJ3_checkIndex_8e157 17 = .ok (.ireturn, 1) := by decide +kernel
theorem dL_law_0 : decode cL_law 0 = .ok (.new 7, 3) := by decide +kernel
theorem dL_law_3 : decode cL_law 3 = .ok (.dup, 1) := by decide +kernel
theorem dL_law_4 : decode cL_law 4 = .ok (.invokespecial 9, 3) := by decide +kernel
theorem dL_law_7 : decode cL_law 7 = .ok (.astore_n 1, 1) := by decide +kernel
theorem dL_law_8 : decode cL_law 8 = .ok (.new 10, 3) := by decide +kernel
theorem dL_law_11 : decode cL_law 11 = .ok (.dup, 1) := by decide +kernel
theorem dL_law_12 : decode cL_law 12 = .ok (.invokespecial 12, 3) := by decide +kernel
theorem dL_law_15 : decode cL_law 15 = .ok (.astore_n 2, 1) := by decide +kernel
theorem dL_law_16 : decode cL_law 16 = .ok (.iconst 0, 1) := by decide +kernel
theorem dL_law_17 : decode cL_law 17 = .ok (.istore_n 3, 1) := by decide +kernel
theorem dL_law_18 : decode cL_law 18 = .ok (.iload_n 3, 1) := by decide +kernel
theorem dL_law_19 : decode cL_law 19 = .ok (.aload_n 0, 1) := by decide +kernel
theorem dL_law_20 : decode cL_law 20 = .ok (.arraylength, 1) := by decide +kernel
theorem dL_law_21 : decode cL_law 21 = .ok (.iconst 5, 1) := by decide +kernel
theorem dL_law_22 : decode cL_law 22 = .ok (.isub, 1) := by decide +kernel
theorem dL_law_23 : decode cL_law 23 = .ok (.if_icmp .gt 1123, 3) := by decide +kernel
theorem dL_law_26 : decode cL_law 26 = .ok (.aload_n 0, 1) := by decide +kernel
theorem dL_law_27 : decode cL_law 27 = .ok (.iload_n 3, 1) := by decide +kernel
theorem dL_law_28 : decode cL_law 28 = .ok (.iaload, 1) := by decide +kernel
theorem dL_law_29 : decode cL_law 29 = .ok (.bipush 63, 2) := by decide +kernel
theorem dL_law_31 : decode cL_law 31 = .ok (.iand, 1) := by decide +kernel
theorem dL_law_32 : decode cL_law 32 = .ok (.tableswitch 1108 0 35 #[160, 183, 196, 209, 222, 255, 288, 311, 344, 377, 410, 433, 446, 469, 492, 505, 538, 571, 594, 607, 620, 643, 666, 709, 752, 785, 808, 851, 884, 907, 960, 973, 996, 1029, 1052, 1085], 160) := by decide +kernel
theorem dL_law_192 : decode cL_law 192 = .ok (.aload_n 1, 1) := by decide +kernel
theorem dL_law_193 : decode cL_law 193 = .ok (.aload_n 0, 1) := by decide +kernel
theorem dL_law_194 : decode cL_law 194 = .ok (.iload_n 3, 1) := by decide +kernel
theorem dL_law_195 : decode cL_law 195 = .ok (.iconst 1, 1) := by decide +kernel
theorem dL_law_196 : decode cL_law 196 = .ok (.iadd, 1) := by decide +kernel
theorem dL_law_197 : decode cL_law 197 = .ok (.iaload, 1) := by decide +kernel
theorem dL_law_198 : decode cL_law 198 = .ok (.invokevirtual 13, 3) := by decide +kernel
theorem dL_law_201 : decode cL_law 201 = .ok (.aload_n 2, 1) := by decide +kernel
theorem dL_law_202 : decode cL_law 202 = .ok (.aload_n 0, 1) := by decide +kernel
theorem dL_law_203 : decode cL_law 203 = .ok (.iload_n 3, 1) := by decide +kernel
theorem dL_law_204 : decode cL_law 204 = .ok (.iconst 1, 1) := by decide +kernel
theorem dL_law_205 : decode cL_law 205 = .ok (.iadd, 1) := by decide +kernel
theorem dL_law_206 : decode cL_law 206 = .ok (.iaload, 1) := by decide +kernel
theorem dL_law_207 : decode cL_law 207 = .ok (.invokevirtual 17, 3) := by decide +kernel
theorem dL_law_210 : decode cL_law 210 = .ok (.if_icmp .eq 930, 3) := by decide +kernel
theorem dL_law_213 : decode cL_law 213 = .ok (.iconst 0, 1) := by decide +kernel
theorem dL_law_214 : decode cL_law 214 = .ok (.ireturn, 1) := by decide +kernel
theorem dL_law_215 : decode cL_law 215 = .ok (.aload_n 1, 1) := by decide +kernel
theorem dL_law_216 : decode cL_law 216 = .ok (.invokevirtual 18, 3) := by decide +kernel
theorem dL_law_219 : decode cL_law 219 = .ok (.aload_n 2, 1) := by decide +kernel
theorem dL_law_220 : decode cL_law 220 = .ok (.invokevirtual 22, 3) := by decide +kernel
theorem dL_law_223 : decode cL_law 223 = .ok (.if_icmp .eq 917, 3) := by decide +kernel
theorem dL_law_226 : decode cL_law 226 = .ok (.iconst 0, 1) := by decide +kernel
theorem dL_law_227 : decode cL_law 227 = .ok (.ireturn, 1) := by decide +kernel
theorem dL_law_228 : decode cL_law 228 = .ok (.aload_n 1, 1) := by decide +kernel
theorem dL_law_229 : decode cL_law 229 = .ok (.invokevirtual 23, 3) := by decide +kernel
theorem dL_law_232 : decode cL_law 232 = .ok (.aload_n 2, 1) := by decide +kernel
theorem dL_law_233 : decode cL_law 233 = .ok (.invokevirtual 26, 3) := by decide +kernel
theorem dL_law_236 : decode cL_law 236 = .ok (.if_icmp .eq 904, 3) := by decide +kernel
theorem dL_law_239 : decode cL_law 239 = .ok (.iconst 0, 1) := by decide +kernel
theorem dL_law_240 : decode cL_law 240 = .ok (.ireturn, 1) := by decide +kernel
theorem dL_law_241 : decode cL_law 241 = .ok (.aload_n 1, 1) := by decide +kernel
theorem dL_law_242 : decode cL_law 242 = .ok (.invokevirtual 27, 3) := by decide +kernel
theorem dL_law_245 : decode cL_law 245 = .ok (.aload_n 2, 1) := by decide +kernel
theorem dL_law_246 : decode cL_law 246 = .ok (.invokevirtual 30, 3) := by decide +kernel
theorem dL_law_249 : decode cL_law 249 = .ok (.if_icmp .eq 891, 3) := by decide +kernel
theorem dL_law_252 : decode cL_law 252 = .ok (.iconst 0, 1) := by decide +kernel
theorem dL_law_253 : decode cL_law 253 = .ok (.ireturn, 1) := by decide +kernel
theorem dL_law_254 : decode cL_law 254 = .ok (.aload_n 1, 1) := by decide +kernel
theorem dL_law_255 : decode cL_law 255 = .ok (.aload_n 0, 1) := by decide +kernel
theorem dL_law_256 : decode cL_law 256 = .ok (.iload_n 3, 1) := by decide +kernel
theorem dL_law_257 : decode cL_law 257 = .ok (.iconst 1, 1) := by decide +kernel
theorem dL_law_258 : decode cL_law 258 = .ok (.iadd, 1) := by decide +kernel
theorem dL_law_259 : decode cL_law 259 = .ok (.iaload, 1) := by decide +kernel
theorem dL_law_260 : decode cL_law 260 = .ok (.aload_n 0, 1) := by decide +kernel
theorem dL_law_261 : decode cL_law 261 = .ok (.iload_n 3, 1) := by decide +kernel
theorem dL_law_262 : decode cL_law 262 = .ok (.iconst 2, 1) := by decide +kernel
theorem dL_law_263 : decode cL_law 263 = .ok (.iadd, 1) := by decide +kernel
theorem dL_law_264 : decode cL_law 264 = .ok (.iaload, 1) := by decide +kernel
theorem dL_law_265 : decode cL_law 265 = .ok (.invokevirtual 31, 3) := by decide +kernel
theorem dL_law_268 : decode cL_law 268 = .ok (.aload_n 2, 1) := by decide +kernel
theorem dL_law_269 : decode cL_law 269 = .ok (.aload_n 0, 1) := by decide +kernel
theorem dL_law_270 : decode cL_law 270 = .ok (.iload_n 3, 1) := by decide +kernel
theorem dL_law_271 : decode cL_law 271 = .ok (.iconst 1, 1) := by decide +kernel
theorem dL_law_272 : decode cL_law 272 = .ok (.iadd, 1) := by decide +kernel
theorem dL_law_273 : decode cL_law 273 = .ok (.iaload, 1) := by decide +kernel
theorem dL_law_274 : decode cL_law 274 = .ok (.aload_n 0, 1) := by decide +kernel
theorem dL_law_275 : decode cL_law 275 = .ok (.iload_n 3, 1) := by decide +kernel
theorem dL_law_276 : decode cL_law 276 = .ok (.iconst 2, 1) := by decide +kernel
theorem dL_law_277 : decode cL_law 277 = .ok (.iadd, 1) := by decide +kernel
theorem dL_law_278 : decode cL_law 278 = .ok (.iaload, 1) := by decide +kernel
theorem dL_law_279 : decode cL_law 279 = .ok (.invokevirtual 35, 3) := by decide +kernel
theorem dL_law_282 : decode cL_law 282 = .ok (.if_icmp .eq 858, 3) := by decide +kernel
theorem dL_law_285 : decode cL_law 285 = .ok (.iconst 0, 1) := by decide +kernel
theorem dL_law_286 : decode cL_law 286 = .ok (.ireturn, 1) := by decide +kernel
theorem dL_law_287 : decode cL_law 287 = .ok (.aload_n 1, 1) := by decide +kernel
theorem dL_law_288 : decode cL_law 288 = .ok (.aload_n 0, 1) := by decide +kernel
theorem dL_law_289 : decode cL_law 289 = .ok (.iload_n 3, 1) := by decide +kernel
theorem dL_law_290 : decode cL_law 290 = .ok (.iconst 1, 1) := by decide +kernel
theorem dL_law_291 : decode cL_law 291 = .ok (.iadd, 1) := by decide +kernel
theorem dL_law_292 : decode cL_law 292 = .ok (.iaload, 1) := by decide +kernel
theorem dL_law_293 : decode cL_law 293 = .ok (.aload_n 0, 1) := by decide +kernel
theorem dL_law_294 : decode cL_law 294 = .ok (.iload_n 3, 1) := by decide +kernel
theorem dL_law_295 : decode cL_law 295 = .ok (.iconst 2, 1) := by decide +kernel
theorem dL_law_296 : decode cL_law 296 = .ok (.iadd, 1) := by decide +kernel
theorem dL_law_297 : decode cL_law 297 = .ok (.iaload, 1) := by decide +kernel
theorem dL_law_298 : decode cL_law 298 = .ok (.invokevirtual 36, 3) := by decide +kernel
theorem dL_law_301 : decode cL_law 301 = .ok (.aload_n 2, 1) := by decide +kernel
theorem dL_law_302 : decode cL_law 302 = .ok (.aload_n 0, 1) := by decide +kernel
theorem dL_law_303 : decode cL_law 303 = .ok (.iload_n 3, 1) := by decide +kernel
theorem dL_law_304 : decode cL_law 304 = .ok (.iconst 1, 1) := by decide +kernel
theorem dL_law_305 : decode cL_law 305 = .ok (.iadd, 1) := by decide +kernel
theorem dL_law_306 : decode cL_law 306 = .ok (.iaload, 1) := by decide +kernel
theorem dL_law_307 : decode cL_law 307 = .ok (.aload_n 0, 1) := by decide +kernel
theorem dL_law_308 : decode cL_law 308 = .ok (.iload_n 3, 1) := by decide +kernel
theorem dL_law_309 : decode cL_law 309 = .ok (.iconst 2, 1) := by decide +kernel
theorem dL_law_310 : decode cL_law 310 = .ok (.iadd, 1) := by decide +kernel
theorem dL_law_311 : decode cL_law 311 = .ok (.iaload, 1) := by decide +kernel
theorem dL_law_312 : decode cL_law 312 = .ok (.invokevirtual 39, 3) := by decide +kernel
theorem dL_law_315 : decode cL_law 315 = .ok (.if_icmp .eq 825, 3) := by decide +kernel
theorem dL_law_318 : decode cL_law 318 = .ok (.iconst 0, 1) := by decide +kernel
theorem dL_law_319 : decode cL_law 319 = .ok (.ireturn, 1) := by decide +kernel
theorem dL_law_320 : decode cL_law 320 = .ok (.aload_n 1, 1) := by decide +kernel
theorem dL_law_321 : decode cL_law 321 = .ok (.aload_n 0, 1) := by decide +kernel
theorem dL_law_322 : decode cL_law 322 = .ok (.iload_n 3, 1) := by decide +kernel
theorem dL_law_323 : decode cL_law 323 = .ok (.iconst 1, 1) := by decide +kernel
theorem dL_law_324 : decode cL_law 324 = .ok (.iadd, 1) := by decide +kernel
theorem dL_law_325 : decode cL_law 325 = .ok (.iaload, 1) := by decide +kernel
theorem dL_law_326 : decode cL_law 326 = .ok (.invokevirtual 40, 3) := by decide +kernel
theorem dL_law_329 : decode cL_law 329 = .ok (.aload_n 2, 1) := by decide +kernel
theorem dL_law_330 : decode cL_law 330 = .ok (.aload_n 0, 1) := by decide +kernel
theorem dL_law_331 : decode cL_law 331 = .ok (.iload_n 3, 1) := by decide +kernel
theorem dL_law_332 : decode cL_law 332 = .ok (.iconst 1, 1) := by decide +kernel
theorem dL_law_333 : decode cL_law 333 = .ok (.iadd, 1) := by decide +kernel
theorem dL_law_334 : decode cL_law 334 = .ok (.iaload, 1) := by decide +kernel
theorem dL_law_335 : decode cL_law 335 = .ok (.invokevirtual 43, 3) := by decide +kernel
theorem dL_law_338 : decode cL_law 338 = .ok (.if_icmp .eq 802, 3) := by decide +kernel
theorem dL_law_341 : decode cL_law 341 = .ok (.iconst 0, 1) := by decide +kernel
theorem dL_law_342 : decode cL_law 342 = .ok (.ireturn, 1) := by decide +kernel
theorem dL_law_343 : decode cL_law 343 = .ok (.aload_n 1, 1) := by decide +kernel
theorem dL_law_344 : decode cL_law 344 = .ok (.aload_n 0, 1) := by decide +kernel
theorem dL_law_345 : decode cL_law 345 = .ok (.iload_n 3, 1) := by decide +kernel
theorem dL_law_346 : decode cL_law 346 = .ok (.iconst 1, 1) := by decide +kernel
theorem dL_law_347 : decode cL_law 347 = .ok (.iadd, 1) := by decide +kernel
theorem dL_law_348 : decode cL_law 348 = .ok (.iaload, 1) := by decide +kernel
theorem dL_law_349 : decode cL_law 349 = .ok (.aload_n 0, 1) := by decide +kernel
theorem dL_law_350 : decode cL_law 350 = .ok (.iload_n 3, 1) := by decide +kernel
theorem dL_law_351 : decode cL_law 351 = .ok (.iconst 2, 1) := by decide +kernel
theorem dL_law_352 : decode cL_law 352 = .ok (.iadd, 1) := by decide +kernel
theorem dL_law_353 : decode cL_law 353 = .ok (.iaload, 1) := by decide +kernel
theorem dL_law_354 : decode cL_law 354 = .ok (.invokevirtual 44, 3) := by decide +kernel
theorem dL_law_357 : decode cL_law 357 = .ok (.aload_n 2, 1) := by decide +kernel
theorem dL_law_358 : decode cL_law 358 = .ok (.aload_n 0, 1) := by decide +kernel
theorem dL_law_359 : decode cL_law 359 = .ok (.iload_n 3, 1) := by decide +kernel
theorem dL_law_360 : decode cL_law 360 = .ok (.iconst 1, 1) := by decide +kernel
theorem dL_law_361 : decode cL_law 361 = .ok (.iadd, 1) := by decide +kernel
theorem dL_law_362 : decode cL_law 362 = .ok (.iaload, 1) := by decide +kernel
theorem dL_law_363 : decode cL_law 363 = .ok (.aload_n 0, 1) := by decide +kernel
theorem dL_law_364 : decode cL_law 364 = .ok (.iload_n 3, 1) := by decide +kernel
theorem dL_law_365 : decode cL_law 365 = .ok (.iconst 2, 1) := by decide +kernel
theorem dL_law_366 : decode cL_law 366 = .ok (.iadd, 1) := by decide +kernel
theorem dL_law_367 : decode cL_law 367 = .ok (.iaload, 1) := by decide +kernel
theorem dL_law_368 : decode cL_law 368 = .ok (.invokevirtual 47, 3) := by decide +kernel
theorem dL_law_371 : decode cL_law 371 = .ok (.if_icmp .eq 769, 3) := by decide +kernel
theorem dL_law_374 : decode cL_law 374 = .ok (.iconst 0, 1) := by decide +kernel
theorem dL_law_375 : decode cL_law 375 = .ok (.ireturn, 1) := by decide +kernel
theorem dL_law_376 : decode cL_law 376 = .ok (.aload_n 1, 1) := by decide +kernel
theorem dL_law_377 : decode cL_law 377 = .ok (.aload_n 0, 1) := by decide +kernel
theorem dL_law_378 : decode cL_law 378 = .ok (.iload_n 3, 1) := by decide +kernel
theorem dL_law_379 : decode cL_law 379 = .ok (.iconst 1, 1) := by decide +kernel
theorem dL_law_380 : decode cL_law 380 = .ok (.iadd, 1) := by decide +kernel
theorem dL_law_381 : decode cL_law 381 = .ok (.iaload, 1) := by decide +kernel
theorem dL_law_382 : decode cL_law 382 = .ok (.aload_n 0, 1) := by decide +kernel
theorem dL_law_383 : decode cL_law 383 = .ok (.iload_n 3, 1) := by decide +kernel
theorem dL_law_384 : decode cL_law 384 = .ok (.iconst 2, 1) := by decide +kernel
theorem dL_law_385 : decode cL_law 385 = .ok (.iadd, 1) := by decide +kernel
theorem dL_law_386 : decode cL_law 386 = .ok (.iaload, 1) := by decide +kernel
theorem dL_law_387 : decode cL_law 387 = .ok (.invokevirtual 48, 3) := by decide +kernel
theorem dL_law_390 : decode cL_law 390 = .ok (.aload_n 2, 1) := by decide +kernel
theorem dL_law_391 : decode cL_law 391 = .ok (.aload_n 0, 1) := by decide +kernel
theorem dL_law_392 : decode cL_law 392 = .ok (.iload_n 3, 1) := by decide +kernel
theorem dL_law_393 : decode cL_law 393 = .ok (.iconst 1, 1) := by decide +kernel
theorem dL_law_394 : decode cL_law 394 = .ok (.iadd, 1) := by decide +kernel
theorem dL_law_395 : decode cL_law 395 = .ok (.iaload, 1) := by decide +kernel
theorem dL_law_396 : decode cL_law 396 = .ok (.aload_n 0, 1) := by decide +kernel
theorem dL_law_397 : decode cL_law 397 = .ok (.iload_n 3, 1) := by decide +kernel
theorem dL_law_398 : decode cL_law 398 = .ok (.iconst 2, 1) := by decide +kernel
theorem dL_law_399 : decode cL_law 399 = .ok (.iadd, 1) := by decide +kernel
theorem dL_law_400 : decode cL_law 400 = .ok (.iaload, 1) := by decide +kernel
theorem dL_law_401 : decode cL_law 401 = .ok (.invokevirtual 51, 3) := by decide +kernel
theorem dL_law_404 : decode cL_law 404 = .ok (.if_icmp .eq 736, 3) := by decide +kernel
theorem dL_law_407 : decode cL_law 407 = .ok (.iconst 0, 1) := by decide +kernel
theorem dL_law_408 : decode cL_law 408 = .ok (.ireturn, 1) := by decide +kernel
theorem dL_law_409 : decode cL_law 409 = .ok (.aload_n 1, 1) := by decide +kernel
theorem dL_law_410 : decode cL_law 410 = .ok (.aload_n 0, 1) := by decide +kernel
theorem dL_law_411 : decode cL_law 411 = .ok (.iload_n 3, 1) := by decide +kernel
theorem dL_law_412 : decode cL_law 412 = .ok (.iconst 1, 1) := by decide +kernel
theorem dL_law_413 : decode cL_law 413 = .ok (.iadd, 1) := by decide +kernel
theorem dL_law_414 : decode cL_law 414 = .ok (.iaload, 1) := by decide +kernel
theorem dL_law_415 : decode cL_law 415 = .ok (.aload_n 0, 1) := by decide +kernel
theorem dL_law_416 : decode cL_law 416 = .ok (.iload_n 3, 1) := by decide +kernel
theorem dL_law_417 : decode cL_law 417 = .ok (.iconst 2, 1) := by decide +kernel
theorem dL_law_418 : decode cL_law 418 = .ok (.iadd, 1) := by decide +kernel
theorem dL_law_419 : decode cL_law 419 = .ok (.iaload, 1) := by decide +kernel
theorem dL_law_420 : decode cL_law 420 = .ok (.invokevirtual 52, 3) := by decide +kernel
theorem dL_law_423 : decode cL_law 423 = .ok (.aload_n 2, 1) := by decide +kernel
theorem dL_law_424 : decode cL_law 424 = .ok (.aload_n 0, 1) := by decide +kernel
theorem dL_law_425 : decode cL_law 425 = .ok (.iload_n 3, 1) := by decide +kernel
theorem dL_law_426 : decode cL_law 426 = .ok (.iconst 1, 1) := by decide +kernel
theorem dL_law_427 : decode cL_law 427 = .ok (.iadd, 1) := by decide +kernel
theorem dL_law_428 : decode cL_law 428 = .ok (.iaload, 1) := by decide +kernel
theorem dL_law_429 : decode cL_law 429 = .ok (.aload_n 0, 1) := by decide +kernel
theorem dL_law_430 : decode cL_law 430 = .ok (.iload_n 3, 1) := by decide +kernel
theorem dL_law_431 : decode cL_law 431 = .ok (.iconst 2, 1) := by decide +kernel
theorem dL_law_432 : decode cL_law 432 = .ok (.iadd, 1) := by decide +kernel
theorem dL_law_433 : decode cL_law 433 = .ok (.iaload, 1) := by decide +kernel
theorem dL_law_434 : decode cL_law 434 = .ok (.invokevirtual 55, 3) := by decide +kernel
theorem dL_law_437 : decode cL_law 437 = .ok (.if_icmp .eq 703, 3) := by decide +kernel
theorem dL_law_440 : decode cL_law 440 = .ok (.iconst 0, 1) := by decide +kernel
theorem dL_law_441 : decode cL_law 441 = .ok (.ireturn, 1) := by decide +kernel
theorem dL_law_442 : decode cL_law 442 = .ok (.aload_n 1, 1) := by decide +kernel
theorem dL_law_443 : decode cL_law 443 = .ok (.aload_n 0, 1) := by decide +kernel
theorem dL_law_444 : decode cL_law 444 = .ok (.iload_n 3, 1) := by decide +kernel
theorem dL_law_445 : decode cL_law 445 = .ok (.iconst 1, 1) := by decide +kernel
theorem dL_law_446 : decode cL_law 446 = .ok (.iadd, 1) := by decide +kernel
theorem dL_law_447 : decode cL_law 447 = .ok (.iaload, 1) := by decide +kernel
theorem dL_law_448 : decode cL_law 448 = .ok (.invokevirtual 56, 3) := by decide +kernel
theorem dL_law_451 : decode cL_law 451 = .ok (.aload_n 2, 1) := by decide +kernel
theorem dL_law_452 : decode cL_law 452 = .ok (.aload_n 0, 1) := by decide +kernel
theorem dL_law_453 : decode cL_law 453 = .ok (.iload_n 3, 1) := by decide +kernel
theorem dL_law_454 : decode cL_law 454 = .ok (.iconst 1, 1) := by decide +kernel
theorem dL_law_455 : decode cL_law 455 = .ok (.iadd, 1) := by decide +kernel
theorem dL_law_456 : decode cL_law 456 = .ok (.iaload, 1) := by decide +kernel
theorem dL_law_457 : decode cL_law 457 = .ok (.invokevirtual 59, 3) := by decide +kernel
theorem dL_law_460 : decode cL_law 460 = .ok (.if_icmp .eq 680, 3) := by decide +kernel
theorem dL_law_463 : decode cL_law 463 = .ok (.iconst 0, 1) := by decide +kernel
theorem dL_law_464 : decode cL_law 464 = .ok (.ireturn, 1) := by decide +kernel
theorem dL_law_465 : decode cL_law 465 = .ok (.aload_n 1, 1) := by decide +kernel
theorem dL_law_466 : decode cL_law 466 = .ok (.invokevirtual 60, 3) := by decide +kernel
theorem dL_law_469 : decode cL_law 469 = .ok (.aload_n 2, 1) := by decide +kernel
theorem dL_law_470 : decode cL_law 470 = .ok (.invokevirtual 63, 3) := by decide +kernel
theorem dL_law_473 : decode cL_law 473 = .ok (.if_icmp .eq 667, 3) := by decide +kernel
theorem dL_law_476 : decode cL_law 476 = .ok (.iconst 0, 1) := by decide +kernel
theorem dL_law_477 : decode cL_law 477 = .ok (.ireturn, 1) := by decide +kernel
theorem dL_law_478 : decode cL_law 478 = .ok (.aload_n 1, 1) := by decide +kernel
theorem dL_law_479 : decode cL_law 479 = .ok (.aload_n 0, 1) := by decide +kernel
theorem dL_law_480 : decode cL_law 480 = .ok (.iload_n 3, 1) := by decide +kernel
theorem dL_law_481 : decode cL_law 481 = .ok (.iconst 1, 1) := by decide +kernel
theorem dL_law_482 : decode cL_law 482 = .ok (.iadd, 1) := by decide +kernel
theorem dL_law_483 : decode cL_law 483 = .ok (.iaload, 1) := by decide +kernel
theorem dL_law_484 : decode cL_law 484 = .ok (.invokevirtual 64, 3) := by decide +kernel
theorem dL_law_487 : decode cL_law 487 = .ok (.aload_n 2, 1) := by decide +kernel
theorem dL_law_488 : decode cL_law 488 = .ok (.aload_n 0, 1) := by decide +kernel
theorem dL_law_489 : decode cL_law 489 = .ok (.iload_n 3, 1) := by decide +kernel
theorem dL_law_490 : decode cL_law 490 = .ok (.iconst 1, 1) := by decide +kernel
theorem dL_law_491 : decode cL_law 491 = .ok (.iadd, 1) := by decide +kernel
theorem dL_law_492 : decode cL_law 492 = .ok (.iaload, 1) := by decide +kernel
theorem dL_law_493 : decode cL_law 493 = .ok (.invokevirtual 67, 3) := by decide +kernel
theorem dL_law_496 : decode cL_law 496 = .ok (.if_icmp .eq 644, 3) := by decide +kernel
theorem dL_law_499 : decode cL_law 499 = .ok (.iconst 0, 1) := by decide +kernel
theorem dL_law_500 : decode cL_law 500 = .ok (.ireturn, 1) := by decide +kernel
theorem dL_law_501 : decode cL_law 501 = .ok (.aload_n 1, 1) := by decide +kernel
theorem dL_law_502 : decode cL_law 502 = .ok (.aload_n 0, 1) := by decide +kernel
theorem dL_law_503 : decode cL_law 503 = .ok (.iload_n 3, 1) := by decide +kernel
theorem dL_law_504 : decode cL_law 504 = .ok (.iconst 1, 1) := by decide +kernel
theorem dL_law_505 : decode cL_law 505 = .ok (.iadd, 1) := by decide +kernel
theorem dL_law_506 : decode cL_law 506 = .ok (.iaload, 1) := by decide +kernel
theorem dL_law_507 : decode cL_law 507 = .ok (.invokevirtual 68, 3) := by decide +kernel
theorem dL_law_510 : decode cL_law 510 = .ok (.aload_n 2, 1) := by decide +kernel
theorem dL_law_511 : decode cL_law 511 = .ok (.aload_n 0, 1) := by decide +kernel
theorem dL_law_512 : decode cL_law 512 = .ok (.iload_n 3, 1) := by decide +kernel
theorem dL_law_513 : decode cL_law 513 = .ok (.iconst 1, 1) := by decide +kernel
theorem dL_law_514 : decode cL_law 514 = .ok (.iadd, 1) := by decide +kernel
theorem dL_law_515 : decode cL_law 515 = .ok (.iaload, 1) := by decide +kernel
theorem dL_law_516 : decode cL_law 516 = .ok (.invokevirtual 71, 3) := by decide +kernel
theorem dL_law_519 : decode cL_law 519 = .ok (.if_icmp .eq 621, 3) := by decide +kernel
theorem dL_law_522 : decode cL_law 522 = .ok (.iconst 0, 1) := by decide +kernel
theorem dL_law_523 : decode cL_law 523 = .ok (.ireturn, 1) := by decide +kernel
theorem dL_law_524 : decode cL_law 524 = .ok (.aload_n 1, 1) := by decide +kernel
theorem dL_law_525 : decode cL_law 525 = .ok (.invokevirtual 72, 3) := by decide +kernel
theorem dL_law_528 : decode cL_law 528 = .ok (.aload_n 2, 1) := by decide +kernel
theorem dL_law_529 : decode cL_law 529 = .ok (.invokevirtual 75, 3) := by decide +kernel
theorem dL_law_532 : decode cL_law 532 = .ok (.if_icmp .eq 608, 3) := by decide +kernel
theorem dL_law_535 : decode cL_law 535 = .ok (.iconst 0, 1) := by decide +kernel
theorem dL_law_536 : decode cL_law 536 = .ok (.ireturn, 1) := by decide +kernel
theorem dL_law_537 : decode cL_law 537 = .ok (.aload_n 1, 1) := by decide +kernel
theorem dL_law_538 : decode cL_law 538 = .ok (.aload_n 0, 1) := by decide +kernel
theorem dL_law_539 : decode cL_law 539 = .ok (.iload_n 3, 1) := by decide +kernel
theorem dL_law_540 : decode cL_law 540 = .ok (.iconst 1, 1) := by decide +kernel
theorem dL_law_541 : decode cL_law 541 = .ok (.iadd, 1) := by decide +kernel
theorem dL_law_542 : decode cL_law 542 = .ok (.iaload, 1) := by decide +kernel
theorem dL_law_543 : decode cL_law 543 = .ok (.aload_n 0, 1) := by decide +kernel
theorem dL_law_544 : decode cL_law 544 = .ok (.iload_n 3, 1) := by decide +kernel
theorem dL_law_545 : decode cL_law 545 = .ok (.iconst 2, 1) := by decide +kernel
theorem dL_law_546 : decode cL_law 546 = .ok (.iadd, 1) := by decide +kernel
theorem dL_law_547 : decode cL_law 547 = .ok (.iaload, 1) := by decide +kernel
theorem dL_law_548 : decode cL_law 548 = .ok (.invokevirtual 76, 3) := by decide +kernel
theorem dL_law_551 : decode cL_law 551 = .ok (.aload_n 2, 1) := by decide +kernel
theorem dL_law_552 : decode cL_law 552 = .ok (.aload_n 0, 1) := by decide +kernel
theorem dL_law_553 : decode cL_law 553 = .ok (.iload_n 3, 1) := by decide +kernel
theorem dL_law_554 : decode cL_law 554 = .ok (.iconst 1, 1) := by decide +kernel
theorem dL_law_555 : decode cL_law 555 = .ok (.iadd, 1) := by decide +kernel
theorem dL_law_556 : decode cL_law 556 = .ok (.iaload, 1) := by decide +kernel
theorem dL_law_557 : decode cL_law 557 = .ok (.aload_n 0, 1) := by decide +kernel
theorem dL_law_558 : decode cL_law 558 = .ok (.iload_n 3, 1) := by decide +kernel
theorem dL_law_559 : decode cL_law 559 = .ok (.iconst 2, 1) := by decide +kernel
theorem dL_law_560 : decode cL_law 560 = .ok (.iadd, 1) := by decide +kernel
theorem dL_law_561 : decode cL_law 561 = .ok (.iaload, 1) := by decide +kernel
theorem dL_law_562 : decode cL_law 562 = .ok (.invokevirtual 79, 3) := by decide +kernel
theorem dL_law_565 : decode cL_law 565 = .ok (.if_icmp .eq 575, 3) := by decide +kernel
theorem dL_law_568 : decode cL_law 568 = .ok (.iconst 0, 1) := by decide +kernel
theorem dL_law_569 : decode cL_law 569 = .ok (.ireturn, 1) := by decide +kernel
theorem dL_law_570 : decode cL_law 570 = .ok (.aload_n 1, 1) := by decide +kernel
theorem dL_law_571 : decode cL_law 571 = .ok (.aload_n 0, 1) := by decide +kernel
theorem dL_law_572 : decode cL_law 572 = .ok (.iload_n 3, 1) := by decide +kernel
theorem dL_law_573 : decode cL_law 573 = .ok (.iconst 1, 1) := by decide +kernel
theorem dL_law_574 : decode cL_law 574 = .ok (.iadd, 1) := by decide +kernel
theorem dL_law_575 : decode cL_law 575 = .ok (.iaload, 1) := by decide +kernel
theorem dL_law_576 : decode cL_law 576 = .ok (.aload_n 0, 1) := by decide +kernel
theorem dL_law_577 : decode cL_law 577 = .ok (.iload_n 3, 1) := by decide +kernel
theorem dL_law_578 : decode cL_law 578 = .ok (.iconst 2, 1) := by decide +kernel
theorem dL_law_579 : decode cL_law 579 = .ok (.iadd, 1) := by decide +kernel
theorem dL_law_580 : decode cL_law 580 = .ok (.iaload, 1) := by decide +kernel
theorem dL_law_581 : decode cL_law 581 = .ok (.invokevirtual 80, 3) := by decide +kernel
theorem dL_law_584 : decode cL_law 584 = .ok (.aload_n 2, 1) := by decide +kernel
theorem dL_law_585 : decode cL_law 585 = .ok (.aload_n 0, 1) := by decide +kernel
theorem dL_law_586 : decode cL_law 586 = .ok (.iload_n 3, 1) := by decide +kernel
theorem dL_law_587 : decode cL_law 587 = .ok (.iconst 1, 1) := by decide +kernel
theorem dL_law_588 : decode cL_law 588 = .ok (.iadd, 1) := by decide +kernel
theorem dL_law_589 : decode cL_law 589 = .ok (.iaload, 1) := by decide +kernel
theorem dL_law_590 : decode cL_law 590 = .ok (.aload_n 0, 1) := by decide +kernel
theorem dL_law_591 : decode cL_law 591 = .ok (.iload_n 3, 1) := by decide +kernel
theorem dL_law_592 : decode cL_law 592 = .ok (.iconst 2, 1) := by decide +kernel
theorem dL_law_593 : decode cL_law 593 = .ok (.iadd, 1) := by decide +kernel
theorem dL_law_594 : decode cL_law 594 = .ok (.iaload, 1) := by decide +kernel
theorem dL_law_595 : decode cL_law 595 = .ok (.invokevirtual 83, 3) := by decide +kernel
theorem dL_law_598 : decode cL_law 598 = .ok (.if_icmp .eq 542, 3) := by decide +kernel
theorem dL_law_601 : decode cL_law 601 = .ok (.iconst 0, 1) := by decide +kernel
theorem dL_law_602 : decode cL_law 602 = .ok (.ireturn, 1) := by decide +kernel
theorem dL_law_603 : decode cL_law 603 = .ok (.aload_n 1, 1) := by decide +kernel
theorem dL_law_604 : decode cL_law 604 = .ok (.aload_n 0, 1) := by decide +kernel
theorem dL_law_605 : decode cL_law 605 = .ok (.iload_n 3, 1) := by decide +kernel
theorem dL_law_606 : decode cL_law 606 = .ok (.iconst 1, 1) := by decide +kernel
theorem dL_law_607 : decode cL_law 607 = .ok (.iadd, 1) := by decide +kernel
theorem dL_law_608 : decode cL_law 608 = .ok (.iaload, 1) := by decide +kernel
theorem dL_law_609 : decode cL_law 609 = .ok (.invokevirtual 84, 3) := by decide +kernel
theorem dL_law_612 : decode cL_law 612 = .ok (.aload_n 2, 1) := by decide +kernel
theorem dL_law_613 : decode cL_law 613 = .ok (.aload_n 0, 1) := by decide +kernel
theorem dL_law_614 : decode cL_law 614 = .ok (.iload_n 3, 1) := by decide +kernel
theorem dL_law_615 : decode cL_law 615 = .ok (.iconst 1, 1) := by decide +kernel
theorem dL_law_616 : decode cL_law 616 = .ok (.iadd, 1) := by decide +kernel
theorem dL_law_617 : decode cL_law 617 = .ok (.iaload, 1) := by decide +kernel
theorem dL_law_618 : decode cL_law 618 = .ok (.invokevirtual 87, 3) := by decide +kernel
theorem dL_law_621 : decode cL_law 621 = .ok (.if_icmp .eq 519, 3) := by decide +kernel
theorem dL_law_624 : decode cL_law 624 = .ok (.iconst 0, 1) := by decide +kernel
theorem dL_law_625 : decode cL_law 625 = .ok (.ireturn, 1) := by decide +kernel
theorem dL_law_626 : decode cL_law 626 = .ok (.aload_n 1, 1) := by decide +kernel
theorem dL_law_627 : decode cL_law 627 = .ok (.invokevirtual 88, 3) := by decide +kernel
theorem dL_law_630 : decode cL_law 630 = .ok (.aload_n 2, 1) := by decide +kernel
theorem dL_law_631 : decode cL_law 631 = .ok (.invokevirtual 91, 3) := by decide +kernel
theorem dL_law_634 : decode cL_law 634 = .ok (.if_icmp .eq 506, 3) := by decide +kernel
theorem dL_law_637 : decode cL_law 637 = .ok (.iconst 0, 1) := by decide +kernel
theorem dL_law_638 : decode cL_law 638 = .ok (.ireturn, 1) := by decide +kernel
theorem dL_law_639 : decode cL_law 639 = .ok (.aload_n 1, 1) := by decide +kernel
theorem dL_law_640 : decode cL_law 640 = .ok (.invokevirtual 92, 3) := by decide +kernel
theorem dL_law_643 : decode cL_law 643 = .ok (.aload_n 2, 1) := by decide +kernel
theorem dL_law_644 : decode cL_law 644 = .ok (.invokevirtual 95, 3) := by decide +kernel
theorem dL_law_647 : decode cL_law 647 = .ok (.if_icmp .eq 493, 3) := by decide +kernel
theorem dL_law_650 : decode cL_law 650 = .ok (.iconst 0, 1) := by decide +kernel
theorem dL_law_651 : decode cL_law 651 = .ok (.ireturn, 1) := by decide +kernel
theorem dL_law_652 : decode cL_law 652 = .ok (.aload_n 1, 1) := by decide +kernel
theorem dL_law_653 : decode cL_law 653 = .ok (.aload_n 0, 1) := by decide +kernel
theorem dL_law_654 : decode cL_law 654 = .ok (.iload_n 3, 1) := by decide +kernel
theorem dL_law_655 : decode cL_law 655 = .ok (.iconst 1, 1) := by decide +kernel
theorem dL_law_656 : decode cL_law 656 = .ok (.iadd, 1) := by decide +kernel
theorem dL_law_657 : decode cL_law 657 = .ok (.iaload, 1) := by decide +kernel
theorem dL_law_658 : decode cL_law 658 = .ok (.invokevirtual 96, 3) := by decide +kernel
theorem dL_law_661 : decode cL_law 661 = .ok (.aload_n 2, 1) := by decide +kernel
theorem dL_law_662 : decode cL_law 662 = .ok (.aload_n 0, 1) := by decide +kernel
theorem dL_law_663 : decode cL_law 663 = .ok (.iload_n 3, 1) := by decide +kernel
theorem dL_law_664 : decode cL_law 664 = .ok (.iconst 1, 1) := by decide +kernel
theorem dL_law_665 : decode cL_law 665 = .ok (.iadd, 1) := by decide +kernel
theorem dL_law_666 : decode cL_law 666 = .ok (.iaload, 1) := by decide +kernel
theorem dL_law_667 : decode cL_law 667 = .ok (.invokevirtual 99, 3) := by decide +kernel
theorem dL_law_670 : decode cL_law 670 = .ok (.if_icmp .eq 470, 3) := by decide +kernel
theorem dL_law_673 : decode cL_law 673 = .ok (.iconst 0, 1) := by decide +kernel
theorem dL_law_674 : decode cL_law 674 = .ok (.ireturn, 1) := by decide +kernel
theorem dL_law_675 : decode cL_law 675 = .ok (.aload_n 1, 1) := by decide +kernel
theorem dL_law_676 : decode cL_law 676 = .ok (.aload_n 0, 1) := by decide +kernel
theorem dL_law_677 : decode cL_law 677 = .ok (.iload_n 3, 1) := by decide +kernel
theorem dL_law_678 : decode cL_law 678 = .ok (.iconst 1, 1) := by decide +kernel
theorem dL_law_679 : decode cL_law 679 = .ok (.iadd, 1) := by decide +kernel
theorem dL_law_680 : decode cL_law 680 = .ok (.iaload, 1) := by decide +kernel
theorem dL_law_681 : decode cL_law 681 = .ok (.invokevirtual 100, 3) := by decide +kernel
theorem dL_law_684 : decode cL_law 684 = .ok (.aload_n 2, 1) := by decide +kernel
theorem dL_law_685 : decode cL_law 685 = .ok (.aload_n 0, 1) := by decide +kernel
theorem dL_law_686 : decode cL_law 686 = .ok (.iload_n 3, 1) := by decide +kernel
theorem dL_law_687 : decode cL_law 687 = .ok (.iconst 1, 1) := by decide +kernel
theorem dL_law_688 : decode cL_law 688 = .ok (.iadd, 1) := by decide +kernel
theorem dL_law_689 : decode cL_law 689 = .ok (.iaload, 1) := by decide +kernel
theorem dL_law_690 : decode cL_law 690 = .ok (.invokevirtual 103, 3) := by decide +kernel
theorem dL_law_693 : decode cL_law 693 = .ok (.if_icmp .eq 447, 3) := by decide +kernel
theorem dL_law_696 : decode cL_law 696 = .ok (.iconst 0, 1) := by decide +kernel
theorem dL_law_697 : decode cL_law 697 = .ok (.ireturn, 1) := by decide +kernel
theorem dL_law_698 : decode cL_law 698 = .ok (.aload_n 1, 1) := by decide +kernel
theorem dL_law_699 : decode cL_law 699 = .ok (.aload_n 0, 1) := by decide +kernel
theorem dL_law_700 : decode cL_law 700 = .ok (.iload_n 3, 1) := by decide +kernel
theorem dL_law_701 : decode cL_law 701 = .ok (.iconst 1, 1) := by decide +kernel
theorem dL_law_702 : decode cL_law 702 = .ok (.iadd, 1) := by decide +kernel
theorem dL_law_703 : decode cL_law 703 = .ok (.iaload, 1) := by decide +kernel
theorem dL_law_704 : decode cL_law 704 = .ok (.aload_n 0, 1) := by decide +kernel
theorem dL_law_705 : decode cL_law 705 = .ok (.iload_n 3, 1) := by decide +kernel
theorem dL_law_706 : decode cL_law 706 = .ok (.iconst 2, 1) := by decide +kernel
theorem dL_law_707 : decode cL_law 707 = .ok (.iadd, 1) := by decide +kernel
theorem dL_law_708 : decode cL_law 708 = .ok (.iaload, 1) := by decide +kernel
theorem dL_law_709 : decode cL_law 709 = .ok (.aload_n 0, 1) := by decide +kernel
theorem dL_law_710 : decode cL_law 710 = .ok (.iload_n 3, 1) := by decide +kernel
theorem dL_law_711 : decode cL_law 711 = .ok (.iconst 3, 1) := by decide +kernel
theorem dL_law_712 : decode cL_law 712 = .ok (.iadd, 1) := by decide +kernel
theorem dL_law_713 : decode cL_law 713 = .ok (.iaload, 1) := by decide +kernel
theorem dL_law_714 : decode cL_law 714 = .ok (.invokevirtual 104, 3) := by decide +kernel
theorem dL_law_717 : decode cL_law 717 = .ok (.aload_n 2, 1) := by decide +kernel
theorem dL_law_718 : decode cL_law 718 = .ok (.aload_n 0, 1) := by decide +kernel
theorem dL_law_719 : decode cL_law 719 = .ok (.iload_n 3, 1) := by decide +kernel
theorem dL_law_720 : decode cL_law 720 = .ok (.iconst 1, 1) := by decide +kernel
theorem dL_law_721 : decode cL_law 721 = .ok (.iadd, 1) := by decide +kernel
theorem dL_law_722 : decode cL_law 722 = .ok (.iaload, 1) := by decide +kernel
theorem dL_law_723 : decode cL_law 723 = .ok (.aload_n 0, 1) := by decide +kernel
theorem dL_law_724 : decode cL_law 724 = .ok (.iload_n 3, 1) := by decide +kernel
theorem dL_law_725 : decode cL_law 725 = .ok (.iconst 2, 1) := by decide +kernel
theorem dL_law_726 : decode cL_law 726 = .ok (.iadd, 1) := by decide +kernel
theorem dL_law_727 : decode cL_law 727 = .ok (.iaload, 1) := by decide +kernel
theorem dL_law_728 : decode cL_law 728 = .ok (.aload_n 0, 1) := by decide +kernel
theorem dL_law_729 : decode cL_law 729 = .ok (.iload_n 3, 1) := by decide +kernel
theorem dL_law_730 : decode cL_law 730 = .ok (.iconst 3, 1) := by decide +kernel
theorem dL_law_731 : decode cL_law 731 = .ok (.iadd, 1) := by decide +kernel
theorem dL_law_732 : decode cL_law 732 = .ok (.iaload, 1) := by decide +kernel
theorem dL_law_733 : decode cL_law 733 = .ok (.invokevirtual 108, 3) := by decide +kernel
theorem dL_law_736 : decode cL_law 736 = .ok (.if_icmp .eq 404, 3) := by decide +kernel
theorem dL_law_739 : decode cL_law 739 = .ok (.iconst 0, 1) := by decide +kernel
theorem dL_law_740 : decode cL_law 740 = .ok (.ireturn, 1) := by decide +kernel
theorem dL_law_741 : decode cL_law 741 = .ok (.aload_n 1, 1) := by decide +kernel
theorem dL_law_742 : decode cL_law 742 = .ok (.aload_n 0, 1) := by decide +kernel
theorem dL_law_743 : decode cL_law 743 = .ok (.iload_n 3, 1) := by decide +kernel
theorem dL_law_744 : decode cL_law 744 = .ok (.iconst 1, 1) := by decide +kernel
theorem dL_law_745 : decode cL_law 745 = .ok (.iadd, 1) := by decide +kernel
theorem dL_law_746 : decode cL_law 746 = .ok (.iaload, 1) := by decide +kernel
theorem dL_law_747 : decode cL_law 747 = .ok (.aload_n 0, 1) := by decide +kernel
theorem dL_law_748 : decode cL_law 748 = .ok (.iload_n 3, 1) := by decide +kernel
theorem dL_law_749 : decode cL_law 749 = .ok (.iconst 2, 1) := by decide +kernel
theorem dL_law_750 : decode cL_law 750 = .ok (.iadd, 1) := by decide +kernel
theorem dL_law_751 : decode cL_law 751 = .ok (.iaload, 1) := by decide +kernel
theorem dL_law_752 : decode cL_law 752 = .ok (.aload_n 0, 1) := by decide +kernel
theorem dL_law_753 : decode cL_law 753 = .ok (.iload_n 3, 1) := by decide +kernel
theorem dL_law_754 : decode cL_law 754 = .ok (.iconst 3, 1) := by decide +kernel
theorem dL_law_755 : decode cL_law 755 = .ok (.iadd, 1) := by decide +kernel
theorem dL_law_756 : decode cL_law 756 = .ok (.iaload, 1) := by decide +kernel
theorem dL_law_757 : decode cL_law 757 = .ok (.invokevirtual 109, 3) := by decide +kernel
theorem dL_law_760 : decode cL_law 760 = .ok (.aload_n 2, 1) := by decide +kernel
theorem dL_law_761 : decode cL_law 761 = .ok (.aload_n 0, 1) := by decide +kernel
theorem dL_law_762 : decode cL_law 762 = .ok (.iload_n 3, 1) := by decide +kernel
theorem dL_law_763 : decode cL_law 763 = .ok (.iconst 1, 1) := by decide +kernel
theorem dL_law_764 : decode cL_law 764 = .ok (.iadd, 1) := by decide +kernel
theorem dL_law_765 : decode cL_law 765 = .ok (.iaload, 1) := by decide +kernel
theorem dL_law_766 : decode cL_law 766 = .ok (.aload_n 0, 1) := by decide +kernel
theorem dL_law_767 : decode cL_law 767 = .ok (.iload_n 3, 1) := by decide +kernel
theorem dL_law_768 : decode cL_law 768 = .ok (.iconst 2, 1) := by decide +kernel
theorem dL_law_769 : decode cL_law 769 = .ok (.iadd, 1) := by decide +kernel
theorem dL_law_770 : decode cL_law 770 = .ok (.iaload, 1) := by decide +kernel
theorem dL_law_771 : decode cL_law 771 = .ok (.aload_n 0, 1) := by decide +kernel
theorem dL_law_772 : decode cL_law 772 = .ok (.iload_n 3, 1) := by decide +kernel
theorem dL_law_773 : decode cL_law 773 = .ok (.iconst 3, 1) := by decide +kernel
theorem dL_law_774 : decode cL_law 774 = .ok (.iadd, 1) := by decide +kernel
theorem dL_law_775 : decode cL_law 775 = .ok (.iaload, 1) := by decide +kernel
theorem dL_law_776 : decode cL_law 776 = .ok (.invokevirtual 112, 3) := by decide +kernel
theorem dL_law_779 : decode cL_law 779 = .ok (.if_icmp .eq 361, 3) := by decide +kernel
theorem dL_law_782 : decode cL_law 782 = .ok (.iconst 0, 1) := by decide +kernel
theorem dL_law_783 : decode cL_law 783 = .ok (.ireturn, 1) := by decide +kernel
theorem dL_law_784 : decode cL_law 784 = .ok (.aload_n 1, 1) := by decide +kernel
theorem dL_law_785 : decode cL_law 785 = .ok (.aload_n 0, 1) := by decide +kernel
theorem dL_law_786 : decode cL_law 786 = .ok (.iload_n 3, 1) := by decide +kernel
theorem dL_law_787 : decode cL_law 787 = .ok (.iconst 1, 1) := by decide +kernel
theorem dL_law_788 : decode cL_law 788 = .ok (.iadd, 1) := by decide +kernel
theorem dL_law_789 : decode cL_law 789 = .ok (.iaload, 1) := by decide +kernel
theorem dL_law_790 : decode cL_law 790 = .ok (.aload_n 0, 1) := by decide +kernel
theorem dL_law_791 : decode cL_law 791 = .ok (.iload_n 3, 1) := by decide +kernel
theorem dL_law_792 : decode cL_law 792 = .ok (.iconst 2, 1) := by decide +kernel
theorem dL_law_793 : decode cL_law 793 = .ok (.iadd, 1) := by decide +kernel
theorem dL_law_794 : decode cL_law 794 = .ok (.iaload, 1) := by decide +kernel
theorem dL_law_795 : decode cL_law 795 = .ok (.invokevirtual 113, 3) := by decide +kernel
theorem dL_law_798 : decode cL_law 798 = .ok (.aload_n 2, 1) := by decide +kernel
theorem dL_law_799 : decode cL_law 799 = .ok (.aload_n 0, 1) := by decide +kernel
theorem dL_law_800 : decode cL_law 800 = .ok (.iload_n 3, 1) := by decide +kernel
theorem dL_law_801 : decode cL_law 801 = .ok (.iconst 1, 1) := by decide +kernel
theorem dL_law_802 : decode cL_law 802 = .ok (.iadd, 1) := by decide +kernel
theorem dL_law_803 : decode cL_law 803 = .ok (.iaload, 1) := by decide +kernel
theorem dL_law_804 : decode cL_law 804 = .ok (.aload_n 0, 1) := by decide +kernel
theorem dL_law_805 : decode cL_law 805 = .ok (.iload_n 3, 1) := by decide +kernel
theorem dL_law_806 : decode cL_law 806 = .ok (.iconst 2, 1) := by decide +kernel
theorem dL_law_807 : decode cL_law 807 = .ok (.iadd, 1) := by decide +kernel
theorem dL_law_808 : decode cL_law 808 = .ok (.iaload, 1) := by decide +kernel
theorem dL_law_809 : decode cL_law 809 = .ok (.invokevirtual 116, 3) := by decide +kernel
theorem dL_law_812 : decode cL_law 812 = .ok (.if_icmp .eq 328, 3) := by decide +kernel
theorem dL_law_815 : decode cL_law 815 = .ok (.iconst 0, 1) := by decide +kernel
theorem dL_law_816 : decode cL_law 816 = .ok (.ireturn, 1) := by decide +kernel
theorem dL_law_817 : decode cL_law 817 = .ok (.aload_n 1, 1) := by decide +kernel
theorem dL_law_818 : decode cL_law 818 = .ok (.aload_n 0, 1) := by decide +kernel
theorem dL_law_819 : decode cL_law 819 = .ok (.iload_n 3, 1) := by decide +kernel
theorem dL_law_820 : decode cL_law 820 = .ok (.iconst 1, 1) := by decide +kernel
theorem dL_law_821 : decode cL_law 821 = .ok (.iadd, 1) := by decide +kernel
theorem dL_law_822 : decode cL_law 822 = .ok (.iaload, 1) := by decide +kernel
theorem dL_law_823 : decode cL_law 823 = .ok (.invokevirtual 117, 3) := by decide +kernel
theorem dL_law_826 : decode cL_law 826 = .ok (.aload_n 2, 1) := by decide +kernel
theorem dL_law_827 : decode cL_law 827 = .ok (.aload_n 0, 1) := by decide +kernel
theorem dL_law_828 : decode cL_law 828 = .ok (.iload_n 3, 1) := by decide +kernel
theorem dL_law_829 : decode cL_law 829 = .ok (.iconst 1, 1) := by decide +kernel
theorem dL_law_830 : decode cL_law 830 = .ok (.iadd, 1) := by decide +kernel
theorem dL_law_831 : decode cL_law 831 = .ok (.iaload, 1) := by decide +kernel
theorem dL_law_832 : decode cL_law 832 = .ok (.invokevirtual 120, 3) := by decide +kernel
theorem dL_law_835 : decode cL_law 835 = .ok (.if_icmp .eq 305, 3) := by decide +kernel
theorem dL_law_838 : decode cL_law 838 = .ok (.iconst 0, 1) := by decide +kernel
theorem dL_law_839 : decode cL_law 839 = .ok (.ireturn, 1) := by decide +kernel
theorem dL_law_840 : decode cL_law 840 = .ok (.aload_n 1, 1) := by decide +kernel
theorem dL_law_841 : decode cL_law 841 = .ok (.aload_n 0, 1) := by decide +kernel
theorem dL_law_842 : decode cL_law 842 = .ok (.iload_n 3, 1) := by decide +kernel
theorem dL_law_843 : decode cL_law 843 = .ok (.iconst 1, 1) := by decide +kernel
theorem dL_law_844 : decode cL_law 844 = .ok (.iadd, 1) := by decide +kernel
theorem dL_law_845 : decode cL_law 845 = .ok (.iaload, 1) := by decide +kernel
theorem dL_law_846 : decode cL_law 846 = .ok (.aload_n 0, 1) := by decide +kernel
theorem dL_law_847 : decode cL_law 847 = .ok (.iload_n 3, 1) := by decide +kernel
theorem dL_law_848 : decode cL_law 848 = .ok (.iconst 2, 1) := by decide +kernel
theorem dL_law_849 : decode cL_law 849 = .ok (.iadd, 1) := by decide +kernel
theorem dL_law_850 : decode cL_law 850 = .ok (.iaload, 1) := by decide +kernel
theorem dL_law_851 : decode cL_law 851 = .ok (.aload_n 0, 1) := by decide +kernel
theorem dL_law_852 : decode cL_law 852 = .ok (.iload_n 3, 1) := by decide +kernel
theorem dL_law_853 : decode cL_law 853 = .ok (.iconst 3, 1) := by decide +kernel
theorem dL_law_854 : decode cL_law 854 = .ok (.iadd, 1) := by decide +kernel
theorem dL_law_855 : decode cL_law 855 = .ok (.iaload, 1) := by decide +kernel
theorem dL_law_856 : decode cL_law 856 = .ok (.invokevirtual 121, 3) := by decide +kernel
theorem dL_law_859 : decode cL_law 859 = .ok (.aload_n 2, 1) := by decide +kernel
theorem dL_law_860 : decode cL_law 860 = .ok (.aload_n 0, 1) := by decide +kernel
theorem dL_law_861 : decode cL_law 861 = .ok (.iload_n 3, 1) := by decide +kernel
theorem dL_law_862 : decode cL_law 862 = .ok (.iconst 1, 1) := by decide +kernel
theorem dL_law_863 : decode cL_law 863 = .ok (.iadd, 1) := by decide +kernel
theorem dL_law_864 : decode cL_law 864 = .ok (.iaload, 1) := by decide +kernel
theorem dL_law_865 : decode cL_law 865 = .ok (.aload_n 0, 1) := by decide +kernel
theorem dL_law_866 : decode cL_law 866 = .ok (.iload_n 3, 1) := by decide +kernel
theorem dL_law_867 : decode cL_law 867 = .ok (.iconst 2, 1) := by decide +kernel
theorem dL_law_868 : decode cL_law 868 = .ok (.iadd, 1) := by decide +kernel
theorem dL_law_869 : decode cL_law 869 = .ok (.iaload, 1) := by decide +kernel
theorem dL_law_870 : decode cL_law 870 = .ok (.aload_n 0, 1) := by decide +kernel
theorem dL_law_871 : decode cL_law 871 = .ok (.iload_n 3, 1) := by decide +kernel
theorem dL_law_872 : decode cL_law 872 = .ok (.iconst 3, 1) := by decide +kernel
theorem dL_law_873 : decode cL_law 873 = .ok (.iadd, 1) := by decide +kernel
theorem dL_law_874 : decode cL_law 874 = .ok (.iaload, 1) := by decide +kernel
theorem dL_law_875 : decode cL_law 875 = .ok (.invokevirtual 124, 3) := by decide +kernel
theorem dL_law_878 : decode cL_law 878 = .ok (.if_icmp .eq 262, 3) := by decide +kernel
theorem dL_law_881 : decode cL_law 881 = .ok (.iconst 0, 1) := by decide +kernel
theorem dL_law_882 : decode cL_law 882 = .ok (.ireturn, 1) := by decide +kernel
theorem dL_law_883 : decode cL_law 883 = .ok (.aload_n 1, 1) := by decide +kernel
theorem dL_law_884 : decode cL_law 884 = .ok (.aload_n 0, 1) := by decide +kernel
theorem dL_law_885 : decode cL_law 885 = .ok (.iload_n 3, 1) := by decide +kernel
theorem dL_law_886 : decode cL_law 886 = .ok (.iconst 1, 1) := by decide +kernel
theorem dL_law_887 : decode cL_law 887 = .ok (.iadd, 1) := by decide +kernel
theorem dL_law_888 : decode cL_law 888 = .ok (.iaload, 1) := by decide +kernel
theorem dL_law_889 : decode cL_law 889 = .ok (.aload_n 0, 1) := by decide +kernel
theorem dL_law_890 : decode cL_law 890 = .ok (.iload_n 3, 1) := by decide +kernel
theorem dL_law_891 : decode cL_law 891 = .ok (.iconst 2, 1) := by decide +kernel
theorem dL_law_892 : decode cL_law 892 = .ok (.iadd, 1) := by decide +kernel
theorem dL_law_893 : decode cL_law 893 = .ok (.iaload, 1) := by decide +kernel
theorem dL_law_894 : decode cL_law 894 = .ok (.invokevirtual 125, 3) := by decide +kernel
theorem dL_law_897 : decode cL_law 897 = .ok (.aload_n 2, 1) := by decide +kernel
theorem dL_law_898 : decode cL_law 898 = .ok (.aload_n 0, 1) := by decide +kernel
theorem dL_law_899 : decode cL_law 899 = .ok (.iload_n 3, 1) := by decide +kernel
theorem dL_law_900 : decode cL_law 900 = .ok (.iconst 1, 1) := by decide +kernel
theorem dL_law_901 : decode cL_law 901 = .ok (.iadd, 1) := by decide +kernel
theorem dL_law_902 : decode cL_law 902 = .ok (.iaload, 1) := by decide +kernel
theorem dL_law_903 : decode cL_law 903 = .ok (.aload_n 0, 1) := by decide +kernel
theorem dL_law_904 : decode cL_law 904 = .ok (.iload_n 3, 1) := by decide +kernel
theorem dL_law_905 : decode cL_law 905 = .ok (.iconst 2, 1) := by decide +kernel
theorem dL_law_906 : decode cL_law 906 = .ok (.iadd, 1) := by decide +kernel
theorem dL_law_907 : decode cL_law 907 = .ok (.iaload, 1) := by decide +kernel
theorem dL_law_908 : decode cL_law 908 = .ok (.invokevirtual 128, 3) := by decide +kernel
theorem dL_law_911 : decode cL_law 911 = .ok (.if_icmp .eq 229, 3) := by decide +kernel
theorem dL_law_914 : decode cL_law 914 = .ok (.iconst 0, 1) := by decide +kernel
theorem dL_law_915 : decode cL_law 915 = .ok (.ireturn, 1) := by decide +kernel
theorem dL_law_916 : decode cL_law 916 = .ok (.aload_n 1, 1) := by decide +kernel
theorem dL_law_917 : decode cL_law 917 = .ok (.aload_n 0, 1) := by decide +kernel
theorem dL_law_918 : decode cL_law 918 = .ok (.iload_n 3, 1) := by decide +kernel
theorem dL_law_919 : decode cL_law 919 = .ok (.iconst 1, 1) := by decide +kernel
theorem dL_law_920 : decode cL_law 920 = .ok (.iadd, 1) := by decide +kernel
theorem dL_law_921 : decode cL_law 921 = .ok (.iaload, 1) := by decide +kernel
theorem dL_law_922 : decode cL_law 922 = .ok (.invokevirtual 129, 3) := by decide +kernel
theorem dL_law_925 : decode cL_law 925 = .ok (.aload_n 2, 1) := by decide +kernel
theorem dL_law_926 : decode cL_law 926 = .ok (.aload_n 0, 1) := by decide +kernel
theorem dL_law_927 : decode cL_law 927 = .ok (.iload_n 3, 1) := by decide +kernel
theorem dL_law_928 : decode cL_law 928 = .ok (.iconst 1, 1) := by decide +kernel
theorem dL_law_929 : decode cL_law 929 = .ok (.iadd, 1) := by decide +kernel
theorem dL_law_930 : decode cL_law 930 = .ok (.iaload, 1) := by decide +kernel
theorem dL_law_931 : decode cL_law 931 = .ok (.invokevirtual 132, 3) := by decide +kernel
theorem dL_law_934 : decode cL_law 934 = .ok (.if_icmp .eq 206, 3) := by decide +kernel
theorem dL_law_937 : decode cL_law 937 = .ok (.iconst 0, 1) := by decide +kernel
theorem dL_law_938 : decode cL_law 938 = .ok (.ireturn, 1) := by decide +kernel
theorem dL_law_939 : decode cL_law 939 = .ok (.aload_n 1, 1) := by decide +kernel
theorem dL_law_940 : decode cL_law 940 = .ok (.aload_n 0, 1) := by decide +kernel
theorem dL_law_941 : decode cL_law 941 = .ok (.iload_n 3, 1) := by decide +kernel
theorem dL_law_942 : decode cL_law 942 = .ok (.iconst 1, 1) := by decide +kernel
theorem dL_law_943 : decode cL_law 943 = .ok (.iadd, 1) := by decide +kernel
theorem dL_law_944 : decode cL_law 944 = .ok (.iaload, 1) := by decide +kernel
theorem dL_law_945 : decode cL_law 945 = .ok (.aload_n 0, 1) := by decide +kernel
theorem dL_law_946 : decode cL_law 946 = .ok (.iload_n 3, 1) := by decide +kernel
theorem dL_law_947 : decode cL_law 947 = .ok (.iconst 2, 1) := by decide +kernel
theorem dL_law_948 : decode cL_law 948 = .ok (.iadd, 1) := by decide +kernel
theorem dL_law_949 : decode cL_law 949 = .ok (.iaload, 1) := by decide +kernel
theorem dL_law_950 : decode cL_law 950 = .ok (.aload_n 0, 1) := by decide +kernel
theorem dL_law_951 : decode cL_law 951 = .ok (.iload_n 3, 1) := by decide +kernel
theorem dL_law_952 : decode cL_law 952 = .ok (.iconst 3, 1) := by decide +kernel
theorem dL_law_953 : decode cL_law 953 = .ok (.iadd, 1) := by decide +kernel
theorem dL_law_954 : decode cL_law 954 = .ok (.iaload, 1) := by decide +kernel
theorem dL_law_955 : decode cL_law 955 = .ok (.aload_n 0, 1) := by decide +kernel
theorem dL_law_956 : decode cL_law 956 = .ok (.iload_n 3, 1) := by decide +kernel
theorem dL_law_957 : decode cL_law 957 = .ok (.iconst 4, 1) := by decide +kernel
theorem dL_law_958 : decode cL_law 958 = .ok (.iadd, 1) := by decide +kernel
theorem dL_law_959 : decode cL_law 959 = .ok (.iaload, 1) := by decide +kernel
theorem dL_law_960 : decode cL_law 960 = .ok (.invokevirtual 133, 3) := by decide +kernel
theorem dL_law_963 : decode cL_law 963 = .ok (.aload_n 2, 1) := by decide +kernel
theorem dL_law_964 : decode cL_law 964 = .ok (.aload_n 0, 1) := by decide +kernel
theorem dL_law_965 : decode cL_law 965 = .ok (.iload_n 3, 1) := by decide +kernel
theorem dL_law_966 : decode cL_law 966 = .ok (.iconst 1, 1) := by decide +kernel
theorem dL_law_967 : decode cL_law 967 = .ok (.iadd, 1) := by decide +kernel
theorem dL_law_968 : decode cL_law 968 = .ok (.iaload, 1) := by decide +kernel
theorem dL_law_969 : decode cL_law 969 = .ok (.aload_n 0, 1) := by decide +kernel
theorem dL_law_970 : decode cL_law 970 = .ok (.iload_n 3, 1) := by decide +kernel
theorem dL_law_971 : decode cL_law 971 = .ok (.iconst 2, 1) := by decide +kernel
theorem dL_law_972 : decode cL_law 972 = .ok (.iadd, 1) := by decide +kernel
theorem dL_law_973 : decode cL_law 973 = .ok (.iaload, 1) := by decide +kernel
theorem dL_law_974 : decode cL_law 974 = .ok (.aload_n 0, 1) := by decide +kernel
theorem dL_law_975 : decode cL_law 975 = .ok (.iload_n 3, 1) := by decide +kernel
theorem dL_law_976 : decode cL_law 976 = .ok (.iconst 3, 1) := by decide +kernel
theorem dL_law_977 : decode cL_law 977 = .ok (.iadd, 1) := by decide +kernel
theorem dL_law_978 : decode cL_law 978 = .ok (.iaload, 1) := by decide +kernel
theorem dL_law_979 : decode cL_law 979 = .ok (.aload_n 0, 1) := by decide +kernel
theorem dL_law_980 : decode cL_law 980 = .ok (.iload_n 3, 1) := by decide +kernel
theorem dL_law_981 : decode cL_law 981 = .ok (.iconst 4, 1) := by decide +kernel
theorem dL_law_982 : decode cL_law 982 = .ok (.iadd, 1) := by decide +kernel
theorem dL_law_983 : decode cL_law 983 = .ok (.iaload, 1) := by decide +kernel
theorem dL_law_984 : decode cL_law 984 = .ok (.invokevirtual 137, 3) := by decide +kernel
theorem dL_law_987 : decode cL_law 987 = .ok (.if_icmp .eq 153, 3) := by decide +kernel
theorem dL_law_990 : decode cL_law 990 = .ok (.iconst 0, 1) := by decide +kernel
theorem dL_law_991 : decode cL_law 991 = .ok (.ireturn, 1) := by decide +kernel
theorem dL_law_992 : decode cL_law 992 = .ok (.aload_n 1, 1) := by decide +kernel
theorem dL_law_993 : decode cL_law 993 = .ok (.invokevirtual 138, 3) := by decide +kernel
theorem dL_law_996 : decode cL_law 996 = .ok (.aload_n 2, 1) := by decide +kernel
theorem dL_law_997 : decode cL_law 997 = .ok (.invokevirtual 141, 3) := by decide +kernel
theorem dL_law_1000 : decode cL_law 1000 = .ok (.if_icmp .eq 140, 3) := by decide +kernel
theorem dL_law_1003 : decode cL_law 1003 = .ok (.iconst 0, 1) := by decide +kernel
theorem dL_law_1004 : decode cL_law 1004 = .ok (.ireturn, 1) := by decide +kernel
theorem dL_law_1005 : decode cL_law 1005 = .ok (.aload_n 1, 1) := by decide +kernel
theorem dL_law_1006 : decode cL_law 1006 = .ok (.aload_n 0, 1) := by decide +kernel
theorem dL_law_1007 : decode cL_law 1007 = .ok (.iload_n 3, 1) := by decide +kernel
theorem dL_law_1008 : decode cL_law 1008 = .ok (.iconst 1, 1) := by decide +kernel
theorem dL_law_1009 : decode cL_law 1009 = .ok (.iadd, 1) := by decide +kernel
theorem dL_law_1010 : decode cL_law 1010 = .ok (.iaload, 1) := by decide +kernel
theorem dL_law_1011 : decode cL_law 1011 = .ok (.invokevirtual 142, 3) := by decide +kernel
theorem dL_law_1014 : decode cL_law 1014 = .ok (.aload_n 2, 1) := by decide +kernel
theorem dL_law_1015 : decode cL_law 1015 = .ok (.aload_n 0, 1) := by decide +kernel
theorem dL_law_1016 : decode cL_law 1016 = .ok (.iload_n 3, 1) := by decide +kernel
theorem dL_law_1017 : decode cL_law 1017 = .ok (.iconst 1, 1) := by decide +kernel
theorem dL_law_1018 : decode cL_law 1018 = .ok (.iadd, 1) := by decide +kernel
theorem dL_law_1019 : decode cL_law 1019 = .ok (.iaload, 1) := by decide +kernel
theorem dL_law_1020 : decode cL_law 1020 = .ok (.invokevirtual 145, 3) := by decide +kernel
theorem dL_law_1023 : decode cL_law 1023 = .ok (.if_icmp .eq 117, 3) := by decide +kernel
theorem dL_law_1026 : decode cL_law 1026 = .ok (.iconst 0, 1) := by decide +kernel
theorem dL_law_1027 : decode cL_law 1027 = .ok (.ireturn, 1) := by decide +kernel
theorem dL_law_1028 : decode cL_law 1028 = .ok (.aload_n 1, 1) := by decide +kernel
theorem dL_law_1029 : decode cL_law 1029 = .ok (.aload_n 0, 1) := by decide +kernel
theorem dL_law_1030 : decode cL_law 1030 = .ok (.iload_n 3, 1) := by decide +kernel
theorem dL_law_1031 : decode cL_law 1031 = .ok (.iconst 1, 1) := by decide +kernel
theorem dL_law_1032 : decode cL_law 1032 = .ok (.iadd, 1) := by decide +kernel
theorem dL_law_1033 : decode cL_law 1033 = .ok (.iaload, 1) := by decide +kernel
theorem dL_law_1034 : decode cL_law 1034 = .ok (.aload_n 0, 1) := by decide +kernel
theorem dL_law_1035 : decode cL_law 1035 = .ok (.iload_n 3, 1) := by decide +kernel
theorem dL_law_1036 : decode cL_law 1036 = .ok (.iconst 2, 1) := by decide +kernel
theorem dL_law_1037 : decode cL_law 1037 = .ok (.iadd, 1) := by decide +kernel
theorem dL_law_1038 : decode cL_law 1038 = .ok (.iaload, 1) := by decide +kernel
theorem dL_law_1039 : decode cL_law 1039 = .ok (.invokevirtual 146, 3) := by decide +kernel
theorem dL_law_1042 : decode cL_law 1042 = .ok (.aload_n 2, 1) := by decide +kernel
theorem dL_law_1043 : decode cL_law 1043 = .ok (.aload_n 0, 1) := by decide +kernel
theorem dL_law_1044 : decode cL_law 1044 = .ok (.iload_n 3, 1) := by decide +kernel
theorem dL_law_1045 : decode cL_law 1045 = .ok (.iconst 1, 1) := by decide +kernel
theorem dL_law_1046 : decode cL_law 1046 = .ok (.iadd, 1) := by decide +kernel
theorem dL_law_1047 : decode cL_law 1047 = .ok (.iaload, 1) := by decide +kernel
theorem dL_law_1048 : decode cL_law 1048 = .ok (.aload_n 0, 1) := by decide +kernel
theorem dL_law_1049 : decode cL_law 1049 = .ok (.iload_n 3, 1) := by decide +kernel
theorem dL_law_1050 : decode cL_law 1050 = .ok (.iconst 2, 1) := by decide +kernel
theorem dL_law_1051 : decode cL_law 1051 = .ok (.iadd, 1) := by decide +kernel
theorem dL_law_1052 : decode cL_law 1052 = .ok (.iaload, 1) := by decide +kernel
theorem dL_law_1053 : decode cL_law 1053 = .ok (.invokevirtual 149, 3) := by decide +kernel
theorem dL_law_1056 : decode cL_law 1056 = .ok (.if_icmp .eq 84, 3) := by decide +kernel
theorem dL_law_1059 : decode cL_law 1059 = .ok (.iconst 0, 1) := by decide +kernel
theorem dL_law_1060 : decode cL_law 1060 = .ok (.ireturn, 1) := by decide +kernel
theorem dL_law_1061 : decode cL_law 1061 = .ok (.aload_n 1, 1) := by decide +kernel
theorem dL_law_1062 : decode cL_law 1062 = .ok (.aload_n 0, 1) := by decide +kernel
theorem dL_law_1063 : decode cL_law 1063 = .ok (.iload_n 3, 1) := by decide +kernel
theorem dL_law_1064 : decode cL_law 1064 = .ok (.iconst 1, 1) := by decide +kernel
theorem dL_law_1065 : decode cL_law 1065 = .ok (.iadd, 1) := by decide +kernel
theorem dL_law_1066 : decode cL_law 1066 = .ok (.iaload, 1) := by decide +kernel
theorem dL_law_1067 : decode cL_law 1067 = .ok (.invokevirtual 150, 3) := by decide +kernel
theorem dL_law_1070 : decode cL_law 1070 = .ok (.aload_n 2, 1) := by decide +kernel
theorem dL_law_1071 : decode cL_law 1071 = .ok (.aload_n 0, 1) := by decide +kernel
theorem dL_law_1072 : decode cL_law 1072 = .ok (.iload_n 3, 1) := by decide +kernel
theorem dL_law_1073 : decode cL_law 1073 = .ok (.iconst 1, 1) := by decide +kernel
theorem dL_law_1074 : decode cL_law 1074 = .ok (.iadd, 1) := by decide +kernel
theorem dL_law_1075 : decode cL_law 1075 = .ok (.iaload, 1) := by decide +kernel
theorem dL_law_1076 : decode cL_law 1076 = .ok (.invokevirtual 153, 3) := by decide +kernel
theorem dL_law_1079 : decode cL_law 1079 = .ok (.if_icmp .eq 61, 3) := by decide +kernel
theorem dL_law_1082 : decode cL_law 1082 = .ok (.iconst 0, 1) := by decide +kernel
theorem dL_law_1083 : decode cL_law 1083 = .ok (.ireturn, 1) := by decide +kernel
theorem dL_law_1084 : decode cL_law 1084 = .ok (.aload_n 1, 1) := by decide +kernel
theorem dL_law_1085 : decode cL_law 1085 = .ok (.aload_n 0, 1) := by decide +kernel
theorem dL_law_1086 : decode cL_law 1086 = .ok (.iload_n 3, 1) := by decide +kernel
theorem dL_law_1087 : decode cL_law 1087 = .ok (.iconst 1, 1) := by decide +kernel
theorem dL_law_1088 : decode cL_law 1088 = .ok (.iadd, 1) := by decide +kernel
theorem dL_law_1089 : decode cL_law 1089 = .ok (.iaload, 1) := by decide +kernel
theorem dL_law_1090 : decode cL_law 1090 = .ok (.aload_n 0, 1) := by decide +kernel
theorem dL_law_1091 : decode cL_law 1091 = .ok (.iload_n 3, 1) := by decide +kernel
theorem dL_law_1092 : decode cL_law 1092 = .ok (.iconst 2, 1) := by decide +kernel
theorem dL_law_1093 : decode cL_law 1093 = .ok (.iadd, 1) := by decide +kernel
theorem dL_law_1094 : decode cL_law 1094 = .ok (.iaload, 1) := by decide +kernel
theorem dL_law_1095 : decode cL_law 1095 = .ok (.invokevirtual 154, 3) := by decide +kernel
theorem dL_law_1098 : decode cL_law 1098 = .ok (.aload_n 2, 1) := by decide +kernel
theorem dL_law_1099 : decode cL_law 1099 = .ok (.aload_n 0, 1) := by decide +kernel
theorem dL_law_1100 : decode cL_law 1100 = .ok (.iload_n 3, 1) := by decide +kernel
theorem dL_law_1101 : decode cL_law 1101 = .ok (.iconst 1, 1) := by decide +kernel
theorem dL_law_1102 : decode cL_law 1102 = .ok (.iadd, 1) := by decide +kernel
theorem dL_law_1103 : decode cL_law 1103 = .ok (.iaload, 1) := by decide +kernel
theorem dL_law_1104 : decode cL_law 1104 = .ok (.aload_n 0, 1) := by decide +kernel
theorem dL_law_1105 : decode cL_law 1105 = .ok (.iload_n 3, 1) := by decide +kernel
theorem dL_law_1106 : decode cL_law 1106 = .ok (.iconst 2, 1) := by decide +kernel
theorem dL_law_1107 : decode cL_law 1107 = .ok (.iadd, 1) := by decide +kernel
theorem dL_law_1108 : decode cL_law 1108 = .ok (.iaload, 1) := by decide +kernel
theorem dL_law_1109 : decode cL_law 1109 = .ok (.invokevirtual 157, 3) := by decide +kernel
theorem dL_law_1112 : decode cL_law 1112 = .ok (.if_icmp .eq 28, 3) := by decide +kernel
theorem dL_law_1115 : decode cL_law 1115 = .ok (.iconst 0, 1) := by decide +kernel
theorem dL_law_1116 : decode cL_law 1116 = .ok (.ireturn, 1) := by decide +kernel
theorem dL_law_1117 : decode cL_law 1117 = .ok (.aload_n 1, 1) := by decide +kernel
theorem dL_law_1118 : decode cL_law 1118 = .ok (.aload_n 0, 1) := by decide +kernel
theorem dL_law_1119 : decode cL_law 1119 = .ok (.iload_n 3, 1) := by decide +kernel
theorem dL_law_1120 : decode cL_law 1120 = .ok (.iconst 1, 1) := by decide +kernel
theorem dL_law_1121 : decode cL_law 1121 = .ok (.iadd, 1) := by decide +kernel
theorem dL_law_1122 : decode cL_law 1122 = .ok (.iaload, 1) := by decide +kernel
theorem dL_law_1123 : decode cL_law 1123 = .ok (.invokevirtual 158, 3) := by decide +kernel
theorem dL_law_1126 : decode cL_law 1126 = .ok (.aload_n 2, 1) := by decide +kernel
theorem dL_law_1127 : decode cL_law 1127 = .ok (.aload_n 0, 1) := by decide +kernel
theorem dL_law_1128 : decode cL_law 1128 = .ok (.iload_n 3, 1) := by decide +kernel
theorem dL_law_1129 : decode cL_law 1129 = .ok (.iconst 1, 1) := by decide +kernel
theorem dL_law_1130 : decode cL_law 1130 = .ok (.iadd, 1) := by decide +kernel
theorem dL_law_1131 : decode cL_law 1131 = .ok (.iaload, 1) := by decide +kernel
theorem dL_law_1132 : decode cL_law 1132 = .ok (.invokevirtual 161, 3) := by decide +kernel
theorem dL_law_1135 : decode cL_law 1135 = .ok (.if_icmp .eq 5, 3) := by decide +kernel
theorem dL_law_1138 : decode cL_law 1138 = .ok (.iconst 0, 1) := by decide +kernel
theorem dL_law_1139 : decode cL_law 1139 = .ok (.ireturn, 1) := by decide +kernel
theorem dL_law_1140 : decode cL_law 1140 = .ok (.iinc 3 5, 3) := by decide +kernel
theorem dL_law_1143 : decode cL_law 1143 = .ok (.goto (-1125), 3) := by decide +kernel
theorem dL_law_1146 : decode cL_law 1146 = .ok (.iconst 1, 1) := by decide +kernel
theorem dL_law_1147 : decode cL_law 1147 = .ok (.ireturn, 1) := by decide +kernel
