theorem dX9_init_0 : decode cX9_init 0 = .ok (.aload_n 0, 1) := by decide +kernel
theorem dX9_init_1 : decode cX9_init 1 = .ok (.invokespecial 1, 3) := by decide +kernel
theorem dX9_init_4 : decode cX9_init 4 = .ok (.aload_n 0, 1) := by decide +kernel
theorem dX9_init_5 : decode cX9_init 5 = .ok (.sipush 3200, 3) := by decide +kernel
theorem dX9_init_8 : decode cX9_init 8 = .ok (.newarray .int, 2) := by decide +kernel
theorem dX9_init_10 : decode cX9_init 10 = .ok (.putfield 7, 3) := by decide +kernel
theorem dX9_init_13 : decode cX9_init 13 = .ok (.aload_n 0, 1) := by decide +kernel
theorem dX9_init_14 : decode cX9_init 14 = .ok (.bipush 8, 2) := by decide +kernel
theorem dX9_init_16 : decode cX9_init 16 = .ok (.newarray .int, 2) := by decide +kernel
theorem dX9_init_18 : decode cX9_init 18 = .ok (.putfield 13, 3) := by decide +kernel
theorem dX9_init_21 : decode cX9_init 21 = .ok (.aload_n 0, 1) := by decide +kernel
theorem dX9_init_22 : decode cX9_init 22 = .ok (.sipush 408, 3) := by decide +kernel
theorem dX9_init_25 : decode cX9_init 25 = .ok (.newarray .int, 2) := by decide +kernel
theorem dX9_init_27 : decode cX9_init 27 = .ok (.putfield 16, 3) := by decide +kernel
theorem dX9_init_30 : decode cX9_init 30 = .ok (.aload_n 0, 1) := by decide +kernel
theorem dX9_init_31 : decode cX9_init 31 = .ok (.sipush 408, 3) := by decide +kernel
theorem dX9_init_34 : decode cX9_init 34 = .ok (.newarray .int, 2) := by decide +kernel
theorem dX9_init_36 : decode cX9_init 36 = .ok (.putfield 19, 3) := by decide +kernel
theorem dX9_init_39 : decode cX9_init 39 = .ok (.aload_n 0, 1) := by decide +kernel
theorem dX9_init_40 : decode cX9_init 40 = .ok (.bipush 8, 2) := by decide +kernel
theorem dX9_init_42 : decode cX9_init 42 = .ok (.newarray .int, 2) := by decide +kernel
theorem dX9_init_44 : decode cX9_init 44 = .ok (.putfield 22, 3) := by decide +kernel
theorem dX9_init_47 : decode cX9_init 47 = .ok (.aload_n 0, 1) := by decide +kernel
theorem dX9_init_48 : decode cX9_init 48 = .ok (.ldc 25, 2) := by decide +kernel
theorem dX9_init_50 : decode cX9_init 50 = .ok (.newarray .int, 2) := by decide +kernel
theorem dX9_init_52 : decode cX9_init 52 = .ok (.putfield 26, 3) := by decide +kernel
theorem dX9_init_55 : decode cX9_init 55 = .ok (.aload_n 0, 1) := by decide +kernel
theorem dX9_init_56 : decode cX9_init 56 = .ok (.sipush 408, 3) := by decide +kernel
theorem dX9_init_59 : decode cX9_init 59 = .ok (.newarray .int, 2) := by decide +kernel
theorem dX9_init_61 : decode cX9_init 61 = .ok (.putfield 29, 3) := by decide +kernel
theorem dX9_init_64 : decode cX9_init 64 = .ok (.aload_n 0, 1) := by decide +kernel
theorem dX9_init_65 : decode cX9_init 65 = .ok (.sipush 408, 3) := by decide +kernel
theorem dX9_init_68 : decode cX9_init 68 = .ok (.newarray .int, 2) := by decide +kernel
theorem dX9_init_70 : decode cX9_init 70 = .ok (.putfield 32, 3) := by decide +kernel
theorem dX9_init_73 : decode cX9_init 73 = .ok (.aload_n 0, 1) := by decide +kernel
theorem dX9_init_74 : decode cX9_init 74 = .ok (.sipush 408, 3) := by decide +kernel
theorem dX9_init_77 : decode cX9_init 77 = .ok (.newarray .int, 2) := by decide +kernel
theorem dX9_init_79 : decode cX9_init 79 = .ok (.putfield 35, 3) := by decide +kernel
theorem dX9_init_82 : decode cX9_init 82 = .ok (.aload_n 0, 1) := by decide +kernel
theorem dX9_init_83 : decode cX9_init 83 = .ok (.bipush 40, 2) := by decide +kernel
theorem dX9_init_85 : decode cX9_init 85 = .ok (.newarray .int, 2) := by decide +kernel
theorem dX9_init_87 : decode cX9_init 87 = .ok (.putfield 38, 3) := by decide +kernel
theorem dX9_init_90 : decode cX9_init 90 = .ok (.aload_n 0, 1) := by decide +kernel
theorem dX9_init_91 : decode cX9_init 91 = .ok (.bipush 8, 2) := by decide +kernel
theorem dX9_init_93 : decode cX9_init 93 = .ok (.newarray .int, 2) := by decide +kernel
theorem dX9_init_95 : decode cX9_init 95 = .ok (.putfield 41, 3) := by decide +kernel
theorem dX9_init_98 : decode cX9_init 98 = .ok (.aload_n 0, 1) := by decide +kernel
theorem dX9_init_99 : decode cX9_init 99 = .ok (.sipush 408, 3) := by decide +kernel
theorem dX9_init_102 : decode cX9_init 102 = .ok (.newarray .boolean, 2) := by decide +kernel
theorem dX9_init_104 : decode cX9_init 104 = .ok (.putfield 44, 3) := by decide +kernel
theorem dX9_init_107 : decode cX9_init 107 = .ok (.return_, 1) := by decide +kernel
theorem dX9_isText_0 : decode cX9_isText 0 = .ok (.iload_n 0, 1) := by decide +kernel
theorem dX9_isText_1 : decode cX9_isText 1 = .ok (.ifCond .lt 13, 3) := by decide +kernel
theorem dX9_isText_4 : decode cX9_isText 4 = .ok (.iload_n 0, 1) := by decide +kernel
theorem dX9_isText_5 : decode cX9_isText 5 = .ok (.bipush 8, 2) := by decide +kernel
theorem dX9_isText_7 : decode cX9_isText 7 = .ok (.if_icmp .ge 7, 3) := by decide +kernel
theorem dX9_isText_10 : decode cX9_isText 10 = .ok (.iconst 1, 1) := by decide +kernel
theorem dX9_isText_11 : decode cX9_isText 11 = .ok (.goto 4, 3) := by decide +kernel
theorem dX9_isText_14 : decode cX9_isText 14 = .ok (.iconst 0, 1) := by decide +kernel
theorem dX9_isText_15 : decode cX9_isText 15 = .ok (.ireturn, 1) := by decide +kernel
theorem dX9_isPlace_0 : decode cX9_isPlace 0 = .ok (.iload_n 1, 1) := by decide +kernel
theorem dX9_isPlace_1 : decode cX9_isPlace 1 = .ok (.ifCond .lt 15, 3) := by decide +kernel
theorem dX9_isPlace_4 : decode cX9_isPlace 4 = .ok (.iload_n 1, 1) := by decide +kernel
theorem dX9_isPlace_5 : decode cX9_isPlace 5 = .ok (.aload_n 0, 1) := by decide +kernel
theorem dX9_isPlace_6 : decode cX9_isPlace 6 = .ok (.getfield 48, 3) := by decide +kernel
theorem dX9_isPlace_9 : decode cX9_isPlace 9 = .ok (.if_icmp .ge 7, 3) := by decide +kernel
theorem dX9_isPlace_12 : decode cX9_isPlace 12 = .ok (.iconst 1, 1) := by decide +kernel
theorem dX9_isPlace_13 : decode cX9_isPlace 13 = .ok (.goto 4, 3) := by decide +kernel
theorem dX9_isPlace_16 : decode cX9_isPlace 16 = .ok (.iconst 0, 1) := by decide +kernel
theorem dX9_isPlace_17 : decode cX9_isPlace 17 = .ok (.ireturn, 1) := by decide +kernel
theorem dX9_isGiven_0 : decode cX9_isGiven 0 = .ok (.iload_n 0, 1) := by decide +kernel
theorem dX9_isGiven_1 : decode cX9_isGiven 1 = .ok (.iconst (-1), 1) := by decide +kernel
theorem dX9_isGiven_2 : decode cX9_isGiven 2 = .ok (.if_icmp .lt 14, 3) := by decide +kernel
theorem dX9_isGiven_5 : decode cX9_isGiven 5 = .ok (.iload_n 0, 1) := by decide +kernel
theorem dX9_isGiven_6 : decode cX9_isGiven 6 = .ok (.sipush 1000, 3) := by decide +kernel
theorem dX9_isGiven_9 : decode cX9_isGiven 9 = .ok (.if_icmp .ge 7, 3) := by decide +kernel
theorem dX9_isGiven_12 : decode cX9_isGiven 12 = .ok (.iconst 1, 1) := by decide +kernel
theorem dX9_isGiven_13 : decode cX9_isGiven 13 = .ok (.goto 4, 3) := by decide +kernel
theorem dX9_isGiven_16 : decode cX9_isGiven 16 = .ok (.iconst 0, 1) := by decide +kernel
theorem dX9_isGiven_17 : decode cX9_isGiven 17 = .ok (.ireturn, 1) := by decide +kernel
theorem dX9_given_0 : decode cX9_given 0 = .ok (.iload_n 0, 1) := by decide +kernel
theorem dX9_given_1 : decode cX9_given 1 = .ok (.ifCond .ge 7, 3) := by decide +kernel
theorem dX9_given_4 : decode cX9_given 4 = .ok (.iconst 0, 1) := by decide +kernel
theorem dX9_given_5 : decode cX9_given 5 = .ok (.goto 4, 3) := by decide +kernel
theorem dX9_given_8 : decode cX9_given 8 = .ok (.iconst 1, 1) := by decide +kernel
theorem dX9_given_9 : decode cX9_given 9 = .ok (.iload_n 1, 1) := by decide +kernel
theorem dX9_given_10 : decode cX9_given 10 = .ok (.ifCond .ge 7, 3) := by decide +kernel
theorem dX9_given_13 : decode cX9_given 13 = .ok (.iconst 0, 1) := by decide +kernel
theorem dX9_given_14 : decode cX9_given 14 = .ok (.goto 4, 3) := by decide +kernel
theorem dX9_given_17 : decode cX9_given 17 = .ok (.iconst 1, 1) := by decide +kernel
theorem dX9_given_18 : decode cX9_given 18 = .ok (.iadd, 1) := by decide +kernel
theorem dX9_given_19 : decode cX9_given 19 = .ok (.iload_n 2, 1) := by decide +kernel
theorem dX9_given_20 : decode cX9_given 20 = .ok (.ifCond .ge 7, 3) := by decide +kernel
theorem dX9_given_23 : decode cX9_given 23 = .ok (.iconst 0, 1) := by decide +kernel
theorem dX9_given_24 : decode cX9_given 24 = .ok (.goto 4, 3) := by decide +kernel
theorem dX9_given_27 : decode cX9_given 27 = .ok (.iconst 1, 1) := by decide +kernel
theorem dX9_given_28 : decode cX9_given 28 = .ok (.iadd, 1) := by decide +kernel
theorem dX9_given_29 : decode cX9_given 29 = .ok (.iload_n 3, 1) := by decide +kernel
theorem dX9_given_30 : decode cX9_given 30 = .ok (.ifCond .ge 7, 3) := by decide +kernel
theorem dX9_given_33 : decode cX9_given 33 = .ok (.iconst 0, 1) := by decide +kernel
theorem dX9_given_34 : decode cX9_given 34 = .ok (.goto 4, 3) := by decide +kernel
theorem dX9_given_37 : decode cX9_given 37 = .ok (.iconst 1, 1) := by decide +kernel
theorem dX9_given_38 : decode cX9_given 38 = .ok (.iadd, 1) := by decide +kernel
theorem dX9_given_39 : decode cX9_given 39 = .ok (.ireturn, 1) := by decide +kernel
theorem dX9_comeTo_0 : decode cX9_comeTo 0 = .ok (.iload_n 2, 1) := by decide +kernel
theorem dX9_comeTo_1 : decode cX9_comeTo 1 = .ok (.ifCond .lt 41, 3) := by decide +kernel
theorem dX9_comeTo_4 : decode cX9_comeTo 4 = .ok (.aload_n 0, 1) := by decide +kernel
theorem dX9_comeTo_5 : decode cX9_comeTo 5 = .ok (.getfield 7, 3) := by decide +kernel
theorem dX9_comeTo_8 : decode cX9_comeTo 8 = .ok (.sipush 400, 3) := by decide +kernel
theorem dX9_comeTo_11 : decode cX9_comeTo 11 = .ok (.iload_n 1, 1) := by decide +kernel
theorem dX9_comeTo_12 : decode cX9_comeTo 12 = .ok (.imul, 1) := by decide +kernel
theorem dX9_comeTo_13 : decode cX9_comeTo 13 = .ok (.aload_n 0, 1) := by decide +kernel
theorem dX9_comeTo_14 : decode cX9_comeTo 14 = .ok (.getfield 13, 3) := by decide +kernel
theorem dX9_comeTo_17 : decode cX9_comeTo 17 = .ok (.iload_n 1, 1) := by decide +kernel
theorem dX9_comeTo_18 : decode cX9_comeTo 18 = .ok (.iaload, 1) := by decide +kernel
theorem dX9_comeTo_19 : decode cX9_comeTo 19 = .ok (.iadd, 1) := by decide +kernel
theorem dX9_comeTo_20 : decode cX9_comeTo 20 = .ok (.iload_n 2, 1) := by decide +kernel
theorem dX9_comeTo_21 : decode cX9_comeTo 21 = .ok (.iastore, 1) := by decide +kernel
theorem dX9_comeTo_22 : decode cX9_comeTo 22 = .ok (.aload_n 0, 1) := by decide +kernel
theorem dX9_comeTo_23 : decode cX9_comeTo 23 = .ok (.getfield 13, 3) := by decide +kernel
theorem dX9_comeTo_26 : decode cX9_comeTo 26 = .ok (.iload_n 1, 1) := by decide +kernel
theorem dX9_comeTo_27 : decode cX9_comeTo 27 = .ok (.dup2, 1) := by decide +kernel
theorem dX9_comeTo_28 : decode cX9_comeTo 28 = .ok (.iaload, 1) := by decide +kernel
theorem dX9_comeTo_29 : decode cX9_comeTo 29 = .ok (.iconst 1, 1) := by decide +kernel
theorem dX9_comeTo_30 : decode cX9_comeTo 30 = .ok (.iadd, 1) := by decide +kernel
theorem dX9_comeTo_31 : decode cX9_comeTo 31 = .ok (.iastore, 1) := by decide +kernel
theorem dX9_comeTo_32 : decode cX9_comeTo 32 = .ok (.aload_n 0, 1) := by decide +kernel
theorem dX9_comeTo_33 : decode cX9_comeTo 33 = .ok (.dup, 1) := by decide +kernel
theorem dX9_comeTo_34 : decode cX9_comeTo 34 = .ok (.getfield 52, 3) := by decide +kernel
theorem dX9_comeTo_37 : decode cX9_comeTo 37 = .ok (.iconst 1, 1) := by decide +kernel
theorem dX9_comeTo_38 : decode cX9_comeTo 38 = .ok (.iadd, 1) := by decide +kernel
theorem dX9_comeTo_39 : decode cX9_comeTo 39 = .ok (.putfield 52, 3) := by decide +kernel
theorem dX9_comeTo_42 : decode cX9_comeTo 42 = .ok (.return_, 1) := by decide +kernel
theorem dX9_add_0 : decode cX9_add 0 = .ok (.iload_n 1, 1) := by decide +kernel
theorem dX9_add_1 : decode cX9_add 1 = .ok (.invokestatic 55, 3) := by decide +kernel
theorem dX9_add_4 : decode cX9_add 4 = .ok (.ifCond .eq 53, 3) := by decide +kernel
theorem dX9_add_7 : decode cX9_add 7 = .ok (.iload_n 2, 1) := by decide +kernel
theorem dX9_add_8 : decode cX9_add 8 = .ok (.invokestatic 59, 3) := by decide +kernel
theorem dX9_add_11 : decode cX9_add 11 = .ok (.ifCond .eq 46, 3) := by decide +kernel
theorem dX9_add_14 : decode cX9_add 14 = .ok (.iload_n 3, 1) := by decide +kernel
theorem dX9_add_15 : decode cX9_add 15 = .ok (.invokestatic 59, 3) := by decide +kernel
theorem dX9_add_18 : decode cX9_add 18 = .ok (.ifCond .eq 39, 3) := by decide +kernel
theorem dX9_add_21 : decode cX9_add 21 = .ok (.iload 4, 2) := by decide +kernel
theorem dX9_add_23 : decode cX9_add 23 = .ok (.invokestatic 59, 3) := by decide +kernel
theorem dX9_add_26 : decode cX9_add 26 = .ok (.ifCond .eq 31, 3) := by decide +kernel
theorem dX9_add_29 : decode cX9_add 29 = .ok (.iload 5, 2) := by decide +kernel
theorem dX9_add_31 : decode cX9_add 31 = .ok (.invokestatic 59, 3) := by decide +kernel
theorem dX9_add_34 : decode cX9_add 34 = .ok (.ifCond .eq 23, 3) := by decide +kernel
theorem dX9_add_37 : decode cX9_add 37 = .ok (.aload_n 0, 1) := by decide +kernel
theorem dX9_add_38 : decode cX9_add 38 = .ok (.getfield 52, 3) := by decide +kernel
theorem dX9_add_41 : decode cX9_add 41 = .ok (.iload_n 2, 1) := by decide +kernel
theorem dX9_add_42 : decode cX9_add 42 = .ok (.iload_n 3, 1) := by decide +kernel
theorem dX9_add_43 : decode cX9_add 43 = .ok (.iload 4, 2) := by decide +kernel
theorem dX9_add_45 : decode cX9_add 45 = .ok (.iload 5, 2) := by decide +kernel
theorem dX9_add_47 : decode cX9_add 47 = .ok (.invokestatic 62, 3) := by decide +kernel
theorem dX9_add_50 : decode cX9_add 50 = .ok (.iadd, 1) := by decide +kernel
theorem dX9_add_51 : decode cX9_add 51 = .ok (.sipush 400, 3) := by decide +kernel
theorem dX9_add_54 : decode cX9_add 54 = .ok (.if_icmp .le 5, 3) := by decide +kernel
theorem dX9_add_57 : decode cX9_add 57 = .ok (.iconst (-1), 1) := by decide +kernel
theorem dX9_add_58 : decode cX9_add 58 = .ok (.ireturn, 1) := by decide +kernel
theorem dX9_add_59 : decode cX9_add 59 = .ok (.aload_n 0, 1) := by decide +kernel
theorem dX9_add_60 : decode cX9_add 60 = .ok (.iload_n 1, 1) := by decide +kernel
theorem dX9_add_61 : decode cX9_add 61 = .ok (.iload_n 2, 1) := by decide +kernel
theorem dX9_add_62 : decode cX9_add 62 = .ok (.invokevirtual 66, 3) := by decide +kernel
theorem dX9_add_65 : decode cX9_add 65 = .ok (.aload_n 0, 1) := by decide +kernel
theorem dX9_add_66 : decode cX9_add 66 = .ok (.iload_n 1, 1) := by decide +kernel
theorem dX9_add_67 : decode cX9_add 67 = .ok (.iload_n 3, 1) := by decide +kernel
theorem dX9_add_68 : decode cX9_add 68 = .ok (.invokevirtual 66, 3) := by decide +kernel
theorem dX9_add_71 : decode cX9_add 71 = .ok (.aload_n 0, 1) := by decide +kernel
theorem dX9_add_72 : decode cX9_add 72 = .ok (.iload_n 1, 1) := by decide +kernel
theorem dX9_add_73 : decode cX9_add 73 = .ok (.iload 4, 2) := by decide +kernel
theorem dX9_add_75 : decode cX9_add 75 = .ok (.invokevirtual 66, 3) := by decide +kernel
theorem dX9_add_78 : decode cX9_add 78 = .ok (.aload_n 0, 1) := by decide +kernel
theorem dX9_add_79 : decode cX9_add 79 = .ok (.iload_n 1, 1) := by decide +kernel
theorem dX9_add_80 : decode cX9_add 80 = .ok (.iload 5, 2) := by decide +kernel
theorem dX9_add_82 : decode cX9_add 82 = .ok (.invokevirtual 66, 3) := by decide +kernel
theorem dX9_add_85 : decode cX9_add 85 = .ok (.aload_n 0, 1) := by decide +kernel
theorem dX9_add_86 : decode cX9_add 86 = .ok (.getfield 13, 3) := by decide +kernel
theorem dX9_add_89 : decode cX9_add 89 = .ok (.iload_n 1, 1) := by decide +kernel
theorem dX9_add_90 : decode cX9_add 90 = .ok (.iaload, 1) := by decide +kernel
theorem dX9_add_91 : decode cX9_add 91 = .ok (.ireturn, 1) := by decide +kernel
theorem dX9_cut_0 : decode cX9_cut 0 = .ok (.iload_n 1, 1) := by decide +kernel
theorem dX9_cut_1 : decode cX9_cut 1 = .ok (.invokestatic 55, 3) := by decide +kernel
theorem dX9_cut_4 : decode cX9_cut 4 = .ok (.ifCond .eq 17, 3) := by decide +kernel
theorem dX9_cut_7 : decode cX9_cut 7 = .ok (.iload_n 2, 1) := by decide +kernel
theorem dX9_cut_8 : decode cX9_cut 8 = .ok (.ifCond .lt 13, 3) := by decide +kernel
theorem dX9_cut_11 : decode cX9_cut 11 = .ok (.iload_n 2, 1) := by decide +kernel
theorem dX9_cut_12 : decode cX9_cut 12 = .ok (.aload_n 0, 1) := by decide +kernel
theorem dX9_cut_13 : decode cX9_cut 13 = .ok (.getfield 13, 3) := by decide +kernel
theorem dX9_cut_16 : decode cX9_cut 16 = .ok (.iload_n 1, 1) := by decide +kernel
theorem dX9_cut_17 : decode cX9_cut 17 = .ok (.iaload, 1) := by decide +kernel
theorem dX9_cut_18 : decode cX9_cut 18 = .ok (.if_icmp .le 5, 3) := by decide +kernel
theorem dX9_cut_21 : decode cX9_cut 21 = .ok (.iconst (-1), 1) := by decide +kernel
theorem dX9_cut_22 : decode cX9_cut 22 = .ok (.ireturn, 1) := by decide +kernel
theorem dX9_cut_23 : decode cX9_cut 23 = .ok (.aload_n 0, 1) := by decide +kernel
theorem dX9_cut_24 : decode cX9_cut 24 = .ok (.getfield 13, 3) := by decide +kernel
theorem dX9_cut_27 : decode cX9_cut 27 = .ok (.iload_n 1, 1) := by decide +kernel
theorem dX9_cut_28 : decode cX9_cut 28 = .ok (.dup2, 1) := by decide +kernel
theorem dX9_cut_29 : decode cX9_cut 29 = .ok (.iaload, 1) := by decide +kernel
theorem dX9_cut_30 : decode cX9_cut 30 = .ok (.iload_n 2, 1) := by decide +kernel
theorem dX9_cut_31 : decode cX9_cut 31 = .ok (.isub, 1) := by decide +kernel
theorem dX9_cut_32 : decode cX9_cut 32 = .ok (.iastore, 1) := by decide +kernel
theorem dX9_cut_33 : decode cX9_cut 33 = .ok (.aload_n 0, 1) := by decide +kernel
theorem dX9_cut_34 : decode cX9_cut 34 = .ok (.dup, 1) := by decide +kernel
theorem dX9_cut_35 : decode cX9_cut 35 = .ok (.getfield 52, 3) := by decide +kernel
theorem dX9_cut_38 : decode cX9_cut 38 = .ok (.iload_n 2, 1) := by decide +kernel
theorem dX9_cut_39 : decode cX9_cut 39 = .ok (.isub, 1) := by decide +kernel
theorem dX9_cut_40 : decode cX9_cut 40 = .ok (.putfield 52, 3) := by decide +kernel
theorem dX9_cut_43 : decode cX9_cut 43 = .ok (.aload_n 0, 1) := by decide +kernel
theorem dX9_cut_44 : decode cX9_cut 44 = .ok (.getfield 13, 3) := by decide +kernel
theorem dX9_cut_47 : decode cX9_cut 47 = .ok (.iload_n 1, 1) := by decide +kernel
theorem dX9_cut_48 : decode cX9_cut 48 = .ok (.iaload, 1) := by decide +kernel
theorem dX9_cut_49 : decode cX9_cut 49 = .ok (.ireturn, 1) := by decide +kernel
theorem dX9_common0_0 : decode cX9_common0 0 = .ok (.aload_n 0, 1) := by decide +kernel
theorem dX9_common0_1 : decode cX9_common0 1 = .ok (.getfield 26, 3) := by decide +kernel
theorem dX9_common0_4 : decode cX9_common0 4 = .ok (.sipush 408, 3) := by decide +kernel
theorem dX9_common0_7 : decode cX9_common0 7 = .ok (.iload_n 1, 1) := by decide +kernel
theorem dX9_common0_8 : decode cX9_common0 8 = .ok (.imul, 1) := by decide +kernel
theorem dX9_common0_9 : decode cX9_common0 9 = .ok (.iload_n 2, 1) := by decide +kernel
theorem dX9_common0_10 : decode cX9_common0 10 = .ok (.iadd, 1) := by decide +kernel
theorem dX9_common0_11 : decode cX9_common0 11 = .ok (.iaload, 1) := by decide +kernel
theorem dX9_common0_12 : decode cX9_common0 12 = .ok (.ireturn, 1) := by decide +kernel
theorem dX9_toEnd_0 : decode cX9_toEnd 0 = .ok (.aload_n 0, 1) := by decide +kernel
theorem dX9_toEnd_1 : decode cX9_toEnd 1 = .ok (.iload_n 1, 1) := by decide +kernel
theorem dX9_toEnd_2 : decode cX9_toEnd 2 = .ok (.iload_n 1, 1) := by decide +kernel
theorem dX9_toEnd_3 : decode cX9_toEnd 3 = .ok (.invokevirtual 70, 3) := by decide +kernel
theorem dX9_toEnd_6 : decode cX9_toEnd 6 = .ok (.ireturn, 1) := by decide +kernel
theorem dX9_isLess_0 : decode cX9_isLess 0 = .ok (.aload_n 0, 1) := by decide +kernel
theorem dX9_isLess_1 : decode cX9_isLess 1 = .ok (.iload_n 1, 1) := by decide +kernel
theorem dX9_isLess_2 : decode cX9_isLess 2 = .ok (.iload_n 2, 1) := by decide +kernel
theorem dX9_isLess_3 : decode cX9_isLess 3 = .ok (.invokevirtual 70, 3) := by decide +kernel
theorem dX9_isLess_6 : decode cX9_isLess 6 = .ok (.istore_n 3, 1) := by decide +kernel
theorem dX9_isLess_7 : decode cX9_isLess 7 = .ok (.aload_n 0, 1) := by decide +kernel
theorem dX9_isLess_8 : decode cX9_isLess 8 = .ok (.getfield 16, 3) := by decide +kernel
theorem dX9_isLess_11 : decode cX9_isLess 11 = .ok (.iload_n 1, 1) := by decide +kernel
theorem dX9_isLess_12 : decode cX9_isLess 12 = .ok (.iload_n 3, 1) := by decide +kernel
theorem dX9_isLess_13 : decode cX9_isLess 13 = .ok (.iadd, 1) := by decide +kernel
theorem dX9_isLess_14 : decode cX9_isLess 14 = .ok (.iaload, 1) := by decide +kernel
theorem dX9_isLess_15 : decode cX9_isLess 15 = .ok (.istore 4, 2) := by decide +kernel
theorem dX9_isLess_17 : decode cX9_isLess 17 = .ok (.aload_n 0, 1) := by decide +kernel
theorem dX9_isLess_18 : decode cX9_isLess 18 = .ok (.getfield 16, 3) := by decide +kernel
theorem dX9_isLess_21 : decode cX9_isLess 21 = .ok (.iload_n 2, 1) := by decide +kernel
theorem dX9_isLess_22 : decode cX9_isLess 22 = .ok (.iload_n 3, 1) := by decide +kernel
theorem dX9_isLess_23 : decode cX9_isLess 23 = .ok (.iadd, 1) := by decide +kernel
theorem dX9_isLess_24 : decode cX9_isLess 24 = .ok (.iaload, 1) := by decide +kernel
theorem dX9_isLess_25 : decode cX9_isLess 25 = .ok (.istore 5, 2) := by decide +kernel
theorem dX9_isLess_27 : decode cX9_isLess 27 = .ok (.iload 4, 2) := by decide +kernel
theorem dX9_isLess_29 : decode cX9_isLess 29 = .ok (.ifCond .ge 23, 3) := by decide +kernel
theorem dX9_isLess_32 : decode cX9_isLess 32 = .ok (.iload 5, 2) := by decide +kernel
theorem dX9_isLess_34 : decode cX9_isLess 34 = .ok (.ifCond .ge 18, 3) := by decide +kernel
theorem dX9_isLess_37 : decode cX9_isLess 37 = .ok (.iload 4, 2) := by decide +kernel
theorem dX9_isLess_39 : decode cX9_isLess 39 = .ok (.iload 5, 2) := by decide +kernel
theorem dX9_isLess_41 : decode cX9_isLess 41 = .ok (.if_icmp .le 7, 3) := by decide +kernel
theorem dX9_isLess_44 : decode cX9_isLess 44 = .ok (.iconst 1, 1) := by decide +kernel
theorem dX9_isLess_45 : decode cX9_isLess 45 = .ok (.goto 19, 3) := by decide +kernel
theorem dX9_isLess_48 : decode cX9_isLess 48 = .ok (.iconst 0, 1) := by decide +kernel
theorem dX9_isLess_49 : decode cX9_isLess 49 = .ok (.goto 15, 3) := by decide +kernel
theorem dX9_isLess_52 : decode cX9_isLess 52 = .ok (.iload 4, 2) := by decide +kernel
theorem dX9_isLess_54 : decode cX9_isLess 54 = .ok (.iload 5, 2) := by decide +kernel
theorem dX9_isLess_56 : decode cX9_isLess 56 = .ok (.if_icmp .ge 7, 3) := by decide +kernel
theorem dX9_isLess_59 : decode cX9_isLess 59 = .ok (.iconst 1, 1) := by decide +kernel
theorem dX9_isLess_60 : decode cX9_isLess 60 = .ok (.goto 4, 3) := by decide +kernel
theorem dX9_isLess_63 : decode cX9_isLess 63 = .ok (.iconst 0, 1) := by decide +kernel
theorem dX9_isLess_64 : decode cX9_isLess 64 = .ok (.ireturn, 1) := by decide +kernel
theorem dX9_build_0 : decode cX9_build 0 = .ok (.aload_n 0, 1) := by decide +kernel
theorem dX9_build_1 : decode cX9_build 1 = .ok (.iconst 0, 1) := by decide +kernel
theorem dX9_build_2 : decode cX9_build 2 = .ok (.putfield 48, 3) := by decide +kernel
theorem dX9_build_5 : decode cX9_build 5 = .ok (.iconst 0, 1) := by decide +kernel
theorem dX9_build_6 : decode cX9_build 6 = .ok (.istore_n 1, 1) := by decide +kernel
theorem dX9_build_7 : decode cX9_build 7 = .ok (.iload_n 1, 1) := by decide +kernel
theorem dX9_build_8 : decode cX9_build 8 = .ok (.bipush 8, 2) := by decide +kernel
theorem dX9_build_10 : decode cX9_build 10 = .ok (.if_icmp .ge 120, 3) := by decide +kernel
theorem dX9_build_13 : decode cX9_build 13 = .ok (.aload_n 0, 1) := by decide +kernel
theorem dX9_build_14 : decode cX9_build 14 = .ok (.getfield 22, 3) := by decide +kernel
theorem dX9_build_17 : decode cX9_build 17 = .ok (.iload_n 1, 1) := by decide +kernel
theorem dX9_build_18 : decode cX9_build 18 = .ok (.aload_n 0, 1) := by decide +kernel
theorem dX9_build_19 : decode cX9_build 19 = .ok (.getfield 48, 3) := by decide +kernel
theorem dX9_build_22 : decode cX9_build 22 = .ok (.iastore, 1) := by decide +kernel
theorem dX9_build_23 : decode cX9_build 23 = .ok (.iconst 0, 1) := by decide +kernel
theorem dX9_build_24 : decode cX9_build 24 = .ok (.istore_n 2, 1) := by decide +kernel
theorem dX9_build_25 : decode cX9_build 25 = .ok (.iload_n 2, 1) := by decide +kernel
theorem dX9_build_26 : decode cX9_build 26 = .ok (.aload_n 0, 1) := by decide +kernel
theorem dX9_build_27 : decode cX9_build 27 = .ok (.getfield 13, 3) := by decide +kernel
theorem dX9_build_30 : decode cX9_build 30 = .ok (.iload_n 1, 1) := by decide +kernel
theorem dX9_build_31 : decode cX9_build 31 = .ok (.iaload, 1) := by decide +kernel
theorem dX9_build_32 : decode cX9_build 32 = .ok (.if_icmp .ge 50, 3) := by decide +kernel
theorem dX9_build_35 : decode cX9_build 35 = .ok (.aload_n 0, 1) := by decide +kernel
theorem dX9_build_36 : decode cX9_build 36 = .ok (.getfield 16, 3) := by decide +kernel
theorem dX9_build_39 : decode cX9_build 39 = .ok (.aload_n 0, 1) := by decide +kernel
theorem dX9_build_40 : decode cX9_build 40 = .ok (.getfield 48, 3) := by decide +kernel
theorem dX9_build_43 : decode cX9_build 43 = .ok (.aload_n 0, 1) := by decide +kernel
theorem dX9_build_44 : decode cX9_build 44 = .ok (.getfield 7, 3) := by decide +kernel
theorem dX9_build_47 : decode cX9_build 47 = .ok (.sipush 400, 3) := by decide +kernel
theorem dX9_build_50 : decode cX9_build 50 = .ok (.iload_n 1, 1) := by decide +kernel
theorem dX9_build_51 : decode cX9_build 51 = .ok (.imul, 1) := by decide +kernel
theorem dX9_build_52 : decode cX9_build 52 = .ok (.iload_n 2, 1) := by decide +kernel
theorem dX9_build_53 : decode cX9_build 53 = .ok (.iadd, 1) := by decide +kernel
theorem dX9_build_54 : decode cX9_build 54 = .ok (.iaload, 1) := by decide +kernel
theorem dX9_build_55 : decode cX9_build 55 = .ok (.iastore, 1) := by decide +kernel
theorem dX9_build_56 : decode cX9_build 56 = .ok (.aload_n 0, 1) := by decide +kernel
theorem dX9_build_57 : decode cX9_build 57 = .ok (.getfield 19, 3) := by decide +kernel
theorem dX9_build_60 : decode cX9_build 60 = .ok (.aload_n 0, 1) := by decide +kernel
theorem dX9_build_61 : decode cX9_build 61 = .ok (.getfield 48, 3) := by decide +kernel
theorem dX9_build_64 : decode cX9_build 64 = .ok (.iload_n 1, 1) := by decide +kernel
theorem dX9_build_65 : decode cX9_build 65 = .ok (.iastore, 1) := by decide +kernel
theorem dX9_build_66 : decode cX9_build 66 = .ok (.aload_n 0, 1) := by decide +kernel
theorem dX9_build_67 : decode cX9_build 67 = .ok (.dup, 1) := by decide +kernel
theorem dX9_build_68 : decode cX9_build 68 = .ok (.getfield 48, 3) := by decide +kernel
theorem dX9_build_71 : decode cX9_build 71 = .ok (.iconst 1, 1) := by decide +kernel
theorem dX9_build_72 : decode cX9_build 72 = .ok (.iadd, 1) := by decide +kernel
theorem dX9_build_73 : decode cX9_build 73 = .ok (.putfield 48, 3) := by decide +kernel
theorem dX9_build_76 : decode cX9_build 76 = .ok (.iinc 2 1, 3) := by decide +kernel
theorem dX9_build_79 : decode cX9_build 79 = .ok (.goto (-54), 3) := by decide +kernel
theorem dX9_build_82 : decode cX9_build 82 = .ok (.aload_n 0, 1) := by decide +kernel
theorem dX9_build_83 : decode cX9_build 83 = .ok (.getfield 13, 3) := by decide +kernel
theorem dX9_build_86 : decode cX9_build 86 = .ok (.iload_n 1, 1) := by decide +kernel
theorem dX9_build_87 : decode cX9_build 87 = .ok (.iaload, 1) := by decide +kernel
theorem dX9_build_88 : decode cX9_build 88 = .ok (.ifCond .le 36, 3) := by decide +kernel
theorem dX9_build_91 : decode cX9_build 91 = .ok (.aload_n 0, 1) := by decide +kernel
theorem dX9_build_92 : decode cX9_build 92 = .ok (.getfield 16, 3) := by decide +kernel
theorem dX9_build_95 : decode cX9_build 95 = .ok (.aload_n 0, 1) := by decide +kernel
theorem dX9_build_96 : decode cX9_build 96 = .ok (.getfield 48, 3) := by decide +kernel
theorem dX9_build_99 : decode cX9_build 99 = .ok (.bipush (-2), 2) := by decide +kernel
theorem dX9_build_101 : decode cX9_build 101 = .ok (.iload_n 1, 1) := by decide +kernel
theorem dX9_build_102 : decode cX9_build 102 = .ok (.isub, 1) := by decide +kernel
theorem dX9_build_103 : decode cX9_build 103 = .ok (.iastore, 1) := by decide +kernel
theorem dX9_build_104 : decode cX9_build 104 = .ok (.aload_n 0, 1) := by decide +kernel
theorem dX9_build_105 : decode cX9_build 105 = .ok (.getfield 19, 3) := by decide +kernel
theorem dX9_build_108 : decode cX9_build 108 = .ok (.aload_n 0, 1) := by decide +kernel
theorem dX9_build_109 : decode cX9_build 109 = .ok (.getfield 48, 3) := by decide +kernel
theorem dX9_build_112 : decode cX9_build 112 = .ok (.iload_n 1, 1) := by decide +kernel
theorem dX9_build_113 : decode cX9_build 113 = .ok (.iastore, 1) := by decide +kernel
theorem dX9_build_114 : decode cX9_build 114 = .ok (.aload_n 0, 1) := by decide +kernel
theorem dX9_build_115 : decode cX9_build 115 = .ok (.dup, 1) := by decide +kernel
theorem dX9_build_116 : decode cX9_build 116 = .ok (.getfield 48, 3) := by decide +kernel
theorem dX9_build_119 : decode cX9_build 119 = .ok (.iconst 1, 1) := by decide +kernel
theorem dX9_build_120 : decode cX9_build 120 = .ok (.iadd, 1) := by decide +kernel
theorem dX9_build_121 : decode cX9_build 121 = .ok (.putfield 48, 3) := by decide +kernel
theorem dX9_build_124 : decode cX9_build 124 = .ok (.iinc 1 1, 3) := by decide +kernel
theorem dX9_build_127 : decode cX9_build 127 = .ok (.goto (-120), 3) := by decide +kernel
theorem dX9_build_130 : decode cX9_build 130 = .ok (.aload_n 0, 1) := by decide +kernel
theorem dX9_build_131 : decode cX9_build 131 = .ok (.getfield 48, 3) := by decide +kernel
theorem dX9_build_134 : decode cX9_build 134 = .ok (.iconst 1, 1) := by decide +kernel
theorem dX9_build_135 : decode cX9_build 135 = .ok (.isub, 1) := by decide +kernel
theorem dX9_build_136 : decode cX9_build 136 = .ok (.istore_n 1, 1) := by decide +kernel
theorem dX9_build_137 : decode cX9_build 137 = .ok (.iload_n 1, 1) := by decide +kernel
theorem dX9_build_138 : decode cX9_build 138 = .ok (.ifCond .lt 94, 3) := by decide +kernel
theorem dX9_build_141 : decode cX9_build 141 = .ok (.aload_n 0, 1) := by decide +kernel
theorem dX9_build_142 : decode cX9_build 142 = .ok (.getfield 48, 3) := by decide +kernel
theorem dX9_build_145 : decode cX9_build 145 = .ok (.iconst 1, 1) := by decide +kernel
theorem dX9_build_146 : decode cX9_build 146 = .ok (.isub, 1) := by decide +kernel
theorem dX9_build_147 : decode cX9_build 147 = .ok (.istore_n 2, 1) := by decide +kernel
theorem dX9_build_148 : decode cX9_build 148 = .ok (.iload_n 2, 1) := by decide +kernel
theorem dX9_build_149 : decode cX9_build 149 = .ok (.ifCond .lt 77, 3) := by decide +kernel
theorem dX9_build_152 : decode cX9_build 152 = .ok (.aload_n 0, 1) := by decide +kernel
theorem dX9_build_153 : decode cX9_build 153 = .ok (.getfield 16, 3) := by decide +kernel
theorem dX9_build_156 : decode cX9_build 156 = .ok (.iload_n 1, 1) := by decide +kernel
theorem dX9_build_157 : decode cX9_build 157 = .ok (.iaload, 1) := by decide +kernel
theorem dX9_build_158 : decode cX9_build 158 = .ok (.ifCond .lt 22, 3) := by decide +kernel
theorem dX9_build_161 : decode cX9_build 161 = .ok (.aload_n 0, 1) := by decide +kernel
theorem dX9_build_162 : decode cX9_build 162 = .ok (.getfield 16, 3) := by decide +kernel
theorem dX9_build_165 : decode cX9_build 165 = .ok (.iload_n 1, 1) := by decide +kernel
theorem dX9_build_166 : decode cX9_build 166 = .ok (.iaload, 1) := by decide +kernel
theorem dX9_build_167 : decode cX9_build 167 = .ok (.aload_n 0, 1) := by decide +kernel
theorem dX9_build_168 : decode cX9_build 168 = .ok (.getfield 16, 3) := by decide +kernel
theorem dX9_build_171 : decode cX9_build 171 = .ok (.iload_n 2, 1) := by decide +kernel
theorem dX9_build_172 : decode cX9_build 172 = .ok (.iaload, 1) := by decide +kernel
theorem dX9_build_173 : decode cX9_build 173 = .ok (.if_icmp .ne 7, 3) := by decide +kernel
theorem dX9_build_176 : decode cX9_build 176 = .ok (.iconst 1, 1) := by decide +kernel
theorem dX9_build_177 : decode cX9_build 177 = .ok (.goto 4, 3) := by decide +kernel
theorem dX9_build_180 : decode cX9_build 180 = .ok (.iconst 0, 1) := by decide +kernel
theorem dX9_build_181 : decode cX9_build 181 = .ok (.istore_n 3, 1) := by decide +kernel
theorem dX9_build_182 : decode cX9_build 182 = .ok (.aload_n 0, 1) := by decide +kernel
theorem dX9_build_183 : decode cX9_build 183 = .ok (.getfield 26, 3) := by decide +kernel
theorem dX9_build_186 : decode cX9_build 186 = .ok (.sipush 408, 3) := by decide +kernel
theorem dX9_build_189 : decode cX9_build 189 = .ok (.iload_n 1, 1) := by decide +kernel
theorem dX9_build_190 : decode cX9_build 190 = .ok (.imul, 1) := by decide +kernel
theorem dX9_build_191 : decode cX9_build 191 = .ok (.iload_n 2, 1) := by decide +kernel
theorem dX9_build_192 : decode cX9_build 192 = .ok (.iadd, 1) := by decide +kernel
theorem dX9_build_193 : decode cX9_build 193 = .ok (.iload_n 3, 1) := by decide +kernel
theorem dX9_build_194 : decode cX9_build 194 = .ok (.ifCond .eq 24, 3) := by decide +kernel
theorem dX9_build_197 : decode cX9_build 197 = .ok (.iconst 1, 1) := by decide +kernel
theorem dX9_build_198 : decode cX9_build 198 = .ok (.aload_n 0, 1) := by decide +kernel
theorem dX9_build_199 : decode cX9_build 199 = .ok (.getfield 26, 3) := by decide +kernel
theorem dX9_build_202 : decode cX9_build 202 = .ok (.sipush 408, 3) := by decide +kernel
theorem dX9_build_205 : decode cX9_build 205 = .ok (.iload_n 1, 1) := by decide +kernel
theorem dX9_build_206 : decode cX9_build 206 = .ok (.iconst 1, 1) := by decide +kernel
theorem dX9_build_207 : decode cX9_build 207 = .ok (.iadd, 1) := by decide +kernel
theorem dX9_build_208 : decode cX9_build 208 = .ok (.imul, 1) := by decide +kernel
theorem dX9_build_209 : decode cX9_build 209 = .ok (.iload_n 2, 1) := by decide +kernel
theorem dX9_build_210 : decode cX9_build 210 = .ok (.iadd, 1) := by decide +kernel
theorem dX9_build_211 : decode cX9_build 211 = .ok (.iconst 1, 1) := by decide +kernel
theorem dX9_build_212 : decode cX9_build 212 = .ok (.iadd, 1) := by decide +kernel
theorem dX9_build_213 : decode cX9_build 213 = .ok (.iaload, 1) := by decide +kernel
theorem dX9_build_214 : decode cX9_build 214 = .ok (.iadd, 1) := by decide +kernel
theorem dX9_build_215 : decode cX9_build 215 = .ok (.goto 4, 3) := by decide +kernel
theorem dX9_build_218 : decode cX9_build 218 = .ok (.iconst 0, 1) := by decide +kernel
theorem dX9_build_219 : decode cX9_build 219 = .ok (.iastore, 1) := by decide +kernel
theorem dX9_build_220 : decode cX9_build 220 = .ok (.iinc 2 (-1), 3) := by decide +kernel
theorem dX9_build_223 : decode cX9_build 223 = .ok (.goto (-75), 3) := by decide +kernel
theorem dX9_build_226 : decode cX9_build 226 = .ok (.iinc 1 (-1), 3) := by decide +kernel
theorem dX9_build_229 : decode cX9_build 229 = .ok (.goto (-92), 3) := by decide +kernel
theorem dX9_build_232 : decode cX9_build 232 = .ok (.iconst 0, 1) := by decide +kernel
theorem dX9_build_233 : decode cX9_build 233 = .ok (.istore_n 1, 1) := by decide +kernel
theorem dX9_build_234 : decode cX9_build 234 = .ok (.iload_n 1, 1) := by decide +kernel
theorem dX9_build_235 : decode cX9_build 235 = .ok (.aload_n 0, 1) := by decide +kernel
theorem dX9_build_236 : decode cX9_build 236 = .ok (.getfield 48, 3) := by decide +kernel
theorem dX9_build_239 : decode cX9_build 239 = .ok (.if_icmp .ge 58, 3) := by decide +kernel
theorem dX9_build_242 : decode cX9_build 242 = .ok (.iload_n 1, 1) := by decide +kernel
theorem dX9_build_243 : decode cX9_build 243 = .ok (.istore_n 2, 1) := by decide +kernel
theorem dX9_build_244 : decode cX9_build 244 = .ok (.iload_n 2, 1) := by decide +kernel
theorem dX9_build_245 : decode cX9_build 245 = .ok (.ifCond .le 39, 3) := by decide +kernel
theorem dX9_build_248 : decode cX9_build 248 = .ok (.aload_n 0, 1) := by decide +kernel
theorem dX9_build_249 : decode cX9_build 249 = .ok (.iload_n 1, 1) := by decide +kernel
theorem dX9_build_250 : decode cX9_build 250 = .ok (.aload_n 0, 1) := by decide +kernel
theorem dX9_build_251 : decode cX9_build 251 = .ok (.getfield 29, 3) := by decide +kernel
theorem dX9_build_254 : decode cX9_build 254 = .ok (.iload_n 2, 1) := by decide +kernel
theorem dX9_build_255 : decode cX9_build 255 = .ok (.iconst 1, 1) := by decide +kernel
theorem dX9_build_256 : decode cX9_build 256 = .ok (.isub, 1) := by decide +kernel
theorem dX9_build_257 : decode cX9_build 257 = .ok (.iaload, 1) := by decide +kernel
theorem dX9_build_258 : decode cX9_build 258 = .ok (.invokevirtual 74, 3) := by decide +kernel
theorem dX9_build_261 : decode cX9_build 261 = .ok (.ifCond .eq 23, 3) := by decide +kernel
theorem dX9_build_264 : decode cX9_build 264 = .ok (.aload_n 0, 1) := by decide +kernel
theorem dX9_build_265 : decode cX9_build 265 = .ok (.getfield 29, 3) := by decide +kernel
theorem dX9_build_268 : decode cX9_build 268 = .ok (.iload_n 2, 1) := by decide +kernel
theorem dX9_build_269 : decode cX9_build 269 = .ok (.aload_n 0, 1) := by decide +kernel
theorem dX9_build_270 : decode cX9_build 270 = .ok (.getfield 29, 3) := by decide +kernel
theorem dX9_build_273 : decode cX9_build 273 = .ok (.iload_n 2, 1) := by decide +kernel
theorem dX9_build_274 : decode cX9_build 274 = .ok (.iconst 1, 1) := by decide +kernel
theorem dX9_build_275 : decode cX9_build 275 = .ok (.isub, 1) := by decide +kernel
theorem dX9_build_276 : decode cX9_build 276 = .ok (.iaload, 1) := by decide +kernel
theorem dX9_build_277 : decode cX9_build 277 = .ok (.iastore, 1) := by decide +kernel
theorem dX9_build_278 : decode cX9_build 278 = .ok (.iinc 2 (-1), 3) := by decide +kernel
theorem dX9_build_281 : decode cX9_build 281 = .ok (.goto (-37), 3) := by decide +kernel
theorem dX9_build_284 : decode cX9_build 284 = .ok (.aload_n 0, 1) := by decide +kernel
theorem dX9_build_285 : decode cX9_build 285 = .ok (.getfield 29, 3) := by decide +kernel
theorem dX9_build_288 : decode cX9_build 288 = .ok (.iload_n 2, 1) := by decide +kernel
theorem dX9_build_289 : decode cX9_build 289 = .ok (.iload_n 1, 1) := by decide +kernel
theorem dX9_build_290 : decode cX9_build 290 = .ok (.iastore, 1) := by decide +kernel
theorem dX9_build_291 : decode cX9_build 291 = .ok (.iinc 1 1, 3) := by decide +kernel
theorem dX9_build_294 : decode cX9_build 294 = .ok (.goto (-60), 3) := by decide +kernel
theorem dX9_build_297 : decode cX9_build 297 = .ok (.iconst 0, 1) := by decide +kernel
theorem dX9_build_298 : decode cX9_build 298 = .ok (.istore_n 1, 1) := by decide +kernel
theorem dX9_build_299 : decode cX9_build 299 = .ok (.iload_n 1, 1) := by decide +kernel
theorem dX9_build_300 : decode cX9_build 300 = .ok (.aload_n 0, 1) := by decide +kernel
theorem dX9_build_301 : decode cX9_build 301 = .ok (.getfield 48, 3) := by decide +kernel
theorem dX9_build_304 : decode cX9_build 304 = .ok (.if_icmp .ge 33, 3) := by decide +kernel
theorem dX9_build_307 : decode cX9_build 307 = .ok (.aload_n 0, 1) := by decide +kernel
theorem dX9_build_308 : decode cX9_build 308 = .ok (.getfield 32, 3) := by decide +kernel
theorem dX9_build_311 : decode cX9_build 311 = .ok (.aload_n 0, 1) := by decide +kernel
theorem dX9_build_312 : decode cX9_build 312 = .ok (.getfield 29, 3) := by decide +kernel
theorem dX9_build_315 : decode cX9_build 315 = .ok (.iload_n 1, 1) := by decide +kernel
theorem dX9_build_316 : decode cX9_build 316 = .ok (.iaload, 1) := by decide +kernel
theorem dX9_build_317 : decode cX9_build 317 = .ok (.iload_n 1, 1) := by decide +kernel
theorem dX9_build_318 : decode cX9_build 318 = .ok (.iastore, 1) := by decide +kernel
theorem dX9_build_319 : decode cX9_build 319 = .ok (.aload_n 0, 1) := by decide +kernel
theorem dX9_build_320 : decode cX9_build 320 = .ok (.getfield 35, 3) := by decide +kernel
theorem dX9_build_323 : decode cX9_build 323 = .ok (.iload_n 1, 1) := by decide +kernel
theorem dX9_build_324 : decode cX9_build 324 = .ok (.aload_n 0, 1) := by decide +kernel
theorem dX9_build_325 : decode cX9_build 325 = .ok (.getfield 29, 3) := by decide +kernel
theorem dX9_build_328 : decode cX9_build 328 = .ok (.iload_n 1, 1) := by decide +kernel
theorem dX9_build_329 : decode cX9_build 329 = .ok (.iaload, 1) := by decide +kernel
theorem dX9_build_330 : decode cX9_build 330 = .ok (.iastore, 1) := by decide +kernel
theorem dX9_build_331 : decode cX9_build 331 = .ok (.iinc 1 1, 3) := by decide +kernel
theorem dX9_build_334 : decode cX9_build 334 = .ok (.goto (-35), 3) := by decide +kernel
theorem dX9_build_337 : decode cX9_build 337 = .ok (.aload_n 0, 1) := by decide +kernel
theorem dX9_build_338 : decode cX9_build 338 = .ok (.getfield 48, 3) := by decide +kernel
theorem dX9_build_341 : decode cX9_build 341 = .ok (.ireturn, 1) := by decide +kernel
theorem dX9_sign_0 : decode cX9_sign 0 = .ok (.aload_n 0, 1) := by decide +kernel
theorem dX9_sign_1 : decode cX9_sign 1 = .ok (.iload_n 1, 1) := by decide +kernel
theorem dX9_sign_2 : decode cX9_sign 2 = .ok (.invokevirtual 78, 3) := by decide +kernel
theorem dX9_sign_5 : decode cX9_sign 5 = .ok (.ifCond .eq 12, 3) := by decide +kernel
theorem dX9_sign_8 : decode cX9_sign 8 = .ok (.aload_n 0, 1) := by decide +kernel
theorem dX9_sign_9 : decode cX9_sign 9 = .ok (.getfield 16, 3) := by decide +kernel
theorem dX9_sign_12 : decode cX9_sign 12 = .ok (.iload_n 1, 1) := by decide +kernel
theorem dX9_sign_13 : decode cX9_sign 13 = .ok (.iaload, 1) := by decide +kernel
theorem dX9_sign_14 : decode cX9_sign 14 = .ok (.goto 4, 3) := by decide +kernel
theorem dX9_sign_17 : decode cX9_sign 17 = .ok (.iconst (-1), 1) := by decide +kernel
theorem dX9_sign_18 : decode cX9_sign 18 = .ok (.ireturn, 1) := by decide +kernel
theorem dX9_text_0 : decode cX9_text 0 = .ok (.aload_n 0, 1) := by decide +kernel
theorem dX9_text_1 : decode cX9_text 1 = .ok (.iload_n 1, 1) := by decide +kernel
theorem dX9_text_2 : decode cX9_text 2 = .ok (.invokevirtual 78, 3) := by decide +kernel
theorem dX9_text_5 : decode cX9_text 5 = .ok (.ifCond .eq 12, 3) := by decide +kernel
theorem dX9_text_8 : decode cX9_text 8 = .ok (.iload_n 2, 1) := by decide +kernel
theorem dX9_text_9 : decode cX9_text 9 = .ok (.ifCond .lt 8, 3) := by decide +kernel
theorem dX9_text_12 : decode cX9_text 12 = .ok (.iload_n 2, 1) := by decide +kernel
theorem dX9_text_13 : decode cX9_text 13 = .ok (.iconst 1, 1) := by decide +kernel
theorem dX9_text_14 : decode cX9_text 14 = .ok (.if_icmp .le 5, 3) := by decide +kernel
theorem dX9_text_17 : decode cX9_text 17 = .ok (.iconst (-1), 1) := by decide +kernel
theorem dX9_text_18 : decode cX9_text 18 = .ok (.ireturn, 1) := by decide +kernel
theorem dX9_text_19 : decode cX9_text 19 = .ok (.iload_n 2, 1) := by decide +kernel
theorem dX9_text_20 : decode cX9_text 20 = .ok (.ifCond .ne 12, 3) := by decide +kernel
theorem dX9_text_23 : decode cX9_text 23 = .ok (.aload_n 0, 1) := by decide +kernel
theorem dX9_text_24 : decode cX9_text 24 = .ok (.getfield 19, 3) := by decide +kernel
theorem dX9_text_27 : decode cX9_text 27 = .ok (.iload_n 1, 1) := by decide +kernel
theorem dX9_text_28 : decode cX9_text 28 = .ok (.iaload, 1) := by decide +kernel
theorem dX9_text_29 : decode cX9_text 29 = .ok (.goto 16, 3) := by decide +kernel
theorem dX9_text_32 : decode cX9_text 32 = .ok (.iload_n 1, 1) := by decide +kernel
theorem dX9_text_33 : decode cX9_text 33 = .ok (.aload_n 0, 1) := by decide +kernel
theorem dX9_text_34 : decode cX9_text 34 = .ok (.getfield 22, 3) := by decide +kernel
theorem dX9_text_37 : decode cX9_text 37 = .ok (.aload_n 0, 1) := by decide +kernel
theorem dX9_text_38 : decode cX9_text 38 = .ok (.getfield 19, 3) := by decide +kernel
theorem dX9_text_41 : decode cX9_text 41 = .ok (.iload_n 1, 1) := by decide +kernel
theorem dX9_text_42 : decode cX9_text 42 = .ok (.iaload, 1) := by decide +kernel
theorem dX9_text_43 : decode cX9_text 43 = .ok (.iaload, 1) := by decide +kernel
theorem dX9_text_44 : decode cX9_text 44 = .ok (.isub, 1) := by decide +kernel
theorem dX9_text_45 : decode cX9_text 45 = .ok (.ireturn, 1) := by decide +kernel
theorem dX9_at_0 : decode cX9_at 0 = .ok (.aload_n 0, 1) := by decide +kernel
theorem dX9_at_1 : decode cX9_at 1 = .ok (.iload_n 1, 1) := by decide +kernel
theorem dX9_at_2 : decode cX9_at 2 = .ok (.invokevirtual 78, 3) := by decide +kernel
theorem dX9_at_5 : decode cX9_at 5 = .ok (.ifCond .eq 12, 3) := by decide +kernel
theorem dX9_at_8 : decode cX9_at 8 = .ok (.aload_n 0, 1) := by decide +kernel
theorem dX9_at_9 : decode cX9_at 9 = .ok (.getfield 29, 3) := by decide +kernel
theorem dX9_at_12 : decode cX9_at 12 = .ok (.iload_n 1, 1) := by decide +kernel
theorem dX9_at_13 : decode cX9_at 13 = .ok (.iaload, 1) := by decide +kernel
theorem dX9_at_14 : decode cX9_at 14 = .ok (.goto 4, 3) := by decide +kernel
theorem dX9_at_17 : decode cX9_at 17 = .ok (.iconst (-1), 1) := by decide +kernel
theorem dX9_at_18 : decode cX9_at 18 = .ok (.ireturn, 1) := by decide +kernel
theorem dX9_rank_0 : decode cX9_rank 0 = .ok (.aload_n 0, 1) := by decide +kernel
theorem dX9_rank_1 : decode cX9_rank 1 = .ok (.iload_n 1, 1) := by decide +kernel
theorem dX9_rank_2 : decode cX9_rank 2 = .ok (.invokevirtual 78, 3) := by decide +kernel
theorem dX9_rank_5 : decode cX9_rank 5 = .ok (.ifCond .eq 12, 3) := by decide +kernel
theorem dX9_rank_8 : decode cX9_rank 8 = .ok (.aload_n 0, 1) := by decide +kernel
theorem dX9_rank_9 : decode cX9_rank 9 = .ok (.getfield 32, 3) := by decide +kernel
theorem dX9_rank_12 : decode cX9_rank 12 = .ok (.iload_n 1, 1) := by decide +kernel
theorem dX9_rank_13 : decode cX9_rank 13 = .ok (.iaload, 1) := by decide +kernel
theorem dX9_rank_14 : decode cX9_rank 14 = .ok (.goto 4, 3) := by decide +kernel
theorem dX9_rank_17 : decode cX9_rank 17 = .ok (.iconst (-1), 1) := by decide +kernel
theorem dX9_rank_18 : decode cX9_rank 18 = .ok (.ireturn, 1) := by decide +kernel
theorem dX9_beside0_0 : decode cX9_beside0 0 = .ok (.iload_n 1, 1) := by decide +kernel
theorem dX9_beside0_1 : decode cX9_beside0 1 = .ok (.ifCond .ne 7, 3) := by decide +kernel
theorem dX9_beside0_4 : decode cX9_beside0 4 = .ok (.iconst 0, 1) := by decide +kernel
theorem dX9_beside0_5 : decode cX9_beside0 5 = .ok (.goto 21, 3) := by decide +kernel
theorem dX9_beside0_8 : decode cX9_beside0 8 = .ok (.aload_n 0, 1) := by decide +kernel
theorem dX9_beside0_9 : decode cX9_beside0 9 = .ok (.aload_n 0, 1) := by decide +kernel
theorem dX9_beside0_10 : decode cX9_beside0 10 = .ok (.getfield 29, 3) := by decide +kernel
theorem dX9_beside0_13 : decode cX9_beside0 13 = .ok (.iload_n 1, 1) := by decide +kernel
theorem dX9_beside0_14 : decode cX9_beside0 14 = .ok (.iaload, 1) := by decide +kernel
theorem dX9_beside0_15 : decode cX9_beside0 15 = .ok (.aload_n 0, 1) := by decide +kernel
theorem dX9_beside0_16 : decode cX9_beside0 16 = .ok (.getfield 29, 3) := by decide +kernel
theorem dX9_beside0_19 : decode cX9_beside0 19 = .ok (.iload_n 1, 1) := by decide +kernel
theorem dX9_beside0_20 : decode cX9_beside0 20 = .ok (.iconst 1, 1) := by decide +kernel
theorem dX9_beside0_21 : decode cX9_beside0 21 = .ok (.isub, 1) := by decide +kernel
theorem dX9_beside0_22 : decode cX9_beside0 22 = .ok (.iaload, 1) := by decide +kernel
theorem dX9_beside0_23 : decode cX9_beside0 23 = .ok (.invokevirtual 70, 3) := by decide +kernel
theorem dX9_beside0_26 : decode cX9_beside0 26 = .ok (.ireturn, 1) := by decide +kernel
theorem dX9_beside_0 : decode cX9_beside 0 = .ok (.aload_n 0, 1) := by decide +kernel
theorem dX9_beside_1 : decode cX9_beside 1 = .ok (.iload_n 1, 1) := by decide +kernel
theorem dX9_beside_2 : decode cX9_beside 2 = .ok (.invokevirtual 78, 3) := by decide +kernel
theorem dX9_beside_5 : decode cX9_beside 5 = .ok (.ifCond .eq 11, 3) := by decide +kernel
theorem dX9_beside_8 : decode cX9_beside 8 = .ok (.aload_n 0, 1) := by decide +kernel
theorem dX9_beside_9 : decode cX9_beside 9 = .ok (.iload_n 1, 1) := by decide +kernel
theorem dX9_beside_10 : decode cX9_beside 10 = .ok (.invokevirtual 81, 3) := by decide +kernel
theorem dX9_beside_13 : decode cX9_beside 13 = .ok (.goto 4, 3) := by decide +kernel
theorem dX9_beside_16 : decode cX9_beside 16 = .ok (.iconst (-1), 1) := by decide +kernel
theorem dX9_beside_17 : decode cX9_beside 17 = .ok (.ireturn, 1) := by decide +kernel
theorem dX9_common_0 : decode cX9_common 0 = .ok (.aload_n 0, 1) := by decide +kernel
theorem dX9_common_1 : decode cX9_common 1 = .ok (.iload_n 1, 1) := by decide +kernel
theorem dX9_common_2 : decode cX9_common 2 = .ok (.invokevirtual 78, 3) := by decide +kernel
theorem dX9_common_5 : decode cX9_common 5 = .ok (.ifCond .eq 20, 3) := by decide +kernel
theorem dX9_common_8 : decode cX9_common 8 = .ok (.aload_n 0, 1) := by decide +kernel
theorem dX9_common_9 : decode cX9_common 9 = .ok (.iload_n 2, 1) := by decide +kernel
theorem dX9_common_10 : decode cX9_common 10 = .ok (.invokevirtual 78, 3) := by decide +kernel
theorem dX9_common_13 : decode cX9_common 13 = .ok (.ifCond .eq 12, 3) := by decide +kernel
theorem dX9_common_16 : decode cX9_common 16 = .ok (.aload_n 0, 1) := by decide +kernel
theorem dX9_common_17 : decode cX9_common 17 = .ok (.iload_n 1, 1) := by decide +kernel
theorem dX9_common_18 : decode cX9_common 18 = .ok (.iload_n 2, 1) := by decide +kernel
theorem dX9_common_19 : decode cX9_common 19 = .ok (.invokevirtual 70, 3) := by decide +kernel
theorem dX9_common_22 : decode cX9_common 22 = .ok (.goto 4, 3) := by decide +kernel
theorem dX9_common_25 : decode cX9_common 25 = .ok (.iconst (-1), 1) := by decide +kernel
theorem dX9_common_26 : decode cX9_common 26 = .ok (.ireturn, 1) := by decide +kernel
theorem dX9_copyOf_0 : decode cX9_copyOf 0 = .ok (.iconst (-1), 1) := by decide +kernel
theorem dX9_copyOf_1 : decode cX9_copyOf 1 = .ok (.istore_n 2, 1) := by decide +kernel
theorem dX9_copyOf_2 : decode cX9_copyOf 2 = .ok (.iconst 0, 1) := by decide +kernel
theorem dX9_copyOf_3 : decode cX9_copyOf 3 = .ok (.istore_n 3, 1) := by decide +kernel
theorem dX9_copyOf_4 : decode cX9_copyOf 4 = .ok (.iload_n 3, 1) := by decide +kernel
theorem dX9_copyOf_5 : decode cX9_copyOf 5 = .ok (.iload_n 1, 1) := by decide +kernel
theorem dX9_copyOf_6 : decode cX9_copyOf 6 = .ok (.if_icmp .ge 43, 3) := by decide +kernel
theorem dX9_copyOf_9 : decode cX9_copyOf 9 = .ok (.aload_n 0, 1) := by decide +kernel
theorem dX9_copyOf_10 : decode cX9_copyOf 10 = .ok (.iload_n 1, 1) := by decide +kernel
theorem dX9_copyOf_11 : decode cX9_copyOf 11 = .ok (.iload_n 3, 1) := by decide +kernel
theorem dX9_copyOf_12 : decode cX9_copyOf 12 = .ok (.invokevirtual 70, 3) := by decide +kernel
theorem dX9_copyOf_15 : decode cX9_copyOf 15 = .ok (.istore 4, 2) := by decide +kernel
theorem dX9_copyOf_17 : decode cX9_copyOf 17 = .ok (.iload 4, 2) := by decide +kernel
theorem dX9_copyOf_19 : decode cX9_copyOf 19 = .ok (.ifCond .le 22, 3) := by decide +kernel
theorem dX9_copyOf_22 : decode cX9_copyOf 22 = .ok (.iload_n 2, 1) := by decide +kernel
theorem dX9_copyOf_23 : decode cX9_copyOf 23 = .ok (.ifCond .lt 14, 3) := by decide +kernel
theorem dX9_copyOf_26 : decode cX9_copyOf 26 = .ok (.iload 4, 2) := by decide +kernel
theorem dX9_copyOf_28 : decode cX9_copyOf 28 = .ok (.aload_n 0, 1) := by decide +kernel
theorem dX9_copyOf_29 : decode cX9_copyOf 29 = .ok (.iload_n 1, 1) := by decide +kernel
theorem dX9_copyOf_30 : decode cX9_copyOf 30 = .ok (.iload_n 2, 1) := by decide +kernel
theorem dX9_copyOf_31 : decode cX9_copyOf 31 = .ok (.invokevirtual 70, 3) := by decide +kernel
theorem dX9_copyOf_34 : decode cX9_copyOf 34 = .ok (.if_icmp .le 7, 3) := by decide +kernel
theorem dX9_copyOf_37 : decode cX9_copyOf 37 = .ok (.iload_n 3, 1) := by decide +kernel
theorem dX9_copyOf_38 : decode cX9_copyOf 38 = .ok (.goto 4, 3) := by decide +kernel
theorem dX9_copyOf_41 : decode cX9_copyOf 41 = .ok (.iload_n 2, 1) := by decide +kernel
theorem dX9_copyOf_42 : decode cX9_copyOf 42 = .ok (.istore_n 2, 1) := by decide +kernel
theorem dX9_copyOf_43 : decode cX9_copyOf 43 = .ok (.iinc 3 1, 3) := by decide +kernel
theorem dX9_copyOf_46 : decode cX9_copyOf 46 = .ok (.goto (-42), 3) := by decide +kernel
theorem dX9_copyOf_49 : decode cX9_copyOf 49 = .ok (.iload_n 2, 1) := by decide +kernel
theorem dX9_copyOf_50 : decode cX9_copyOf 50 = .ok (.ireturn, 1) := by decide +kernel
theorem dX9_copy_0 : decode cX9_copy 0 = .ok (.aload_n 0, 1) := by decide +kernel
theorem dX9_copy_1 : decode cX9_copy 1 = .ok (.iload_n 1, 1) := by decide +kernel
theorem dX9_copy_2 : decode cX9_copy 2 = .ok (.invokevirtual 78, 3) := by decide +kernel
theorem dX9_copy_5 : decode cX9_copy 5 = .ok (.ifCond .eq 12, 3) := by decide +kernel
theorem dX9_copy_8 : decode cX9_copy 8 = .ok (.iload_n 2, 1) := by decide +kernel
theorem dX9_copy_9 : decode cX9_copy 9 = .ok (.ifCond .lt 8, 3) := by decide +kernel
theorem dX9_copy_12 : decode cX9_copy 12 = .ok (.iload_n 2, 1) := by decide +kernel
theorem dX9_copy_13 : decode cX9_copy 13 = .ok (.iconst 2, 1) := by decide +kernel
theorem dX9_copy_14 : decode cX9_copy 14 = .ok (.if_icmp .le 5, 3) := by decide +kernel
theorem dX9_copy_17 : decode cX9_copy 17 = .ok (.iconst (-1), 1) := by decide +kernel
theorem dX9_copy_18 : decode cX9_copy 18 = .ok (.ireturn, 1) := by decide +kernel
theorem dX9_copy_19 : decode cX9_copy 19 = .ok (.aload_n 0, 1) := by decide +kernel
theorem dX9_copy_20 : decode cX9_copy 20 = .ok (.iload_n 1, 1) := by decide +kernel
theorem dX9_copy_21 : decode cX9_copy 21 = .ok (.invokevirtual 85, 3) := by decide +kernel
theorem dX9_copy_24 : decode cX9_copy 24 = .ok (.istore_n 3, 1) := by decide +kernel
theorem dX9_copy_25 : decode cX9_copy 25 = .ok (.iload_n 2, 1) := by decide +kernel
theorem dX9_copy_26 : decode cX9_copy 26 = .ok (.iconst 2, 1) := by decide +kernel
theorem dX9_copy_27 : decode cX9_copy 27 = .ok (.if_icmp .ge 26, 3) := by decide +kernel
theorem dX9_copy_30 : decode cX9_copy 30 = .ok (.iload_n 2, 1) := by decide +kernel
theorem dX9_copy_31 : decode cX9_copy 31 = .ok (.ifCond .ne 7, 3) := by decide +kernel
theorem dX9_copy_34 : decode cX9_copy 34 = .ok (.iload_n 3, 1) := by decide +kernel
theorem dX9_copy_35 : decode cX9_copy 35 = .ok (.goto 17, 3) := by decide +kernel
theorem dX9_copy_38 : decode cX9_copy 38 = .ok (.iload_n 3, 1) := by decide +kernel
theorem dX9_copy_39 : decode cX9_copy 39 = .ok (.ifCond .ge 7, 3) := by decide +kernel
theorem dX9_copy_42 : decode cX9_copy 42 = .ok (.iconst 0, 1) := by decide +kernel
theorem dX9_copy_43 : decode cX9_copy 43 = .ok (.goto 9, 3) := by decide +kernel
theorem dX9_copy_46 : decode cX9_copy 46 = .ok (.aload_n 0, 1) := by decide +kernel
theorem dX9_copy_47 : decode cX9_copy 47 = .ok (.iload_n 1, 1) := by decide +kernel
theorem dX9_copy_48 : decode cX9_copy 48 = .ok (.iload_n 3, 1) := by decide +kernel
theorem dX9_copy_49 : decode cX9_copy 49 = .ok (.invokevirtual 70, 3) := by decide +kernel
theorem dX9_copy_52 : decode cX9_copy 52 = .ok (.ireturn, 1) := by decide +kernel
theorem dX9_copy_53 : decode cX9_copy 53 = .ok (.iconst 0, 1) := by decide +kernel
theorem dX9_copy_54 : decode cX9_copy 54 = .ok (.istore 4, 2) := by decide +kernel
theorem dX9_copy_56 : decode cX9_copy 56 = .ok (.iload_n 1, 1) := by decide +kernel
theorem dX9_copy_57 : decode cX9_copy 57 = .ok (.istore 5, 2) := by decide +kernel
theorem dX9_copy_59 : decode cX9_copy 59 = .ok (.aload_n 0, 1) := by decide +kernel
theorem dX9_copy_60 : decode cX9_copy 60 = .ok (.getfield 16, 3) := by decide +kernel
theorem dX9_copy_63 : decode cX9_copy 63 = .ok (.iload 5, 2) := by decide +kernel
theorem dX9_copy_65 : decode cX9_copy 65 = .ok (.iaload, 1) := by decide +kernel
theorem dX9_copy_66 : decode cX9_copy 66 = .ok (.ifCond .lt 39, 3) := by decide +kernel
theorem dX9_copy_69 : decode cX9_copy 69 = .ok (.aload_n 0, 1) := by decide +kernel
theorem dX9_copy_70 : decode cX9_copy 70 = .ok (.iload 5, 2) := by decide +kernel
theorem dX9_copy_72 : decode cX9_copy 72 = .ok (.invokevirtual 85, 3) := by decide +kernel
theorem dX9_copy_75 : decode cX9_copy 75 = .ok (.istore 6, 2) := by decide +kernel
theorem dX9_copy_77 : decode cX9_copy 77 = .ok (.iload 5, 2) := by decide +kernel
theorem dX9_copy_79 : decode cX9_copy 79 = .ok (.iload 6, 2) := by decide +kernel
theorem dX9_copy_81 : decode cX9_copy 81 = .ok (.ifCond .ge 7, 3) := by decide +kernel
theorem dX9_copy_84 : decode cX9_copy 84 = .ok (.iconst 1, 1) := by decide +kernel
theorem dX9_copy_85 : decode cX9_copy 85 = .ok (.goto 11, 3) := by decide +kernel
theorem dX9_copy_88 : decode cX9_copy 88 = .ok (.aload_n 0, 1) := by decide +kernel
theorem dX9_copy_89 : decode cX9_copy 89 = .ok (.iload 5, 2) := by decide +kernel
theorem dX9_copy_91 : decode cX9_copy 91 = .ok (.iload 6, 2) := by decide +kernel
theorem dX9_copy_93 : decode cX9_copy 93 = .ok (.invokevirtual 70, 3) := by decide +kernel
theorem dX9_copy_96 : decode cX9_copy 96 = .ok (.iadd, 1) := by decide +kernel
theorem dX9_copy_97 : decode cX9_copy 97 = .ok (.istore 5, 2) := by decide +kernel
theorem dX9_copy_99 : decode cX9_copy 99 = .ok (.iinc 4 1, 3) := by decide +kernel
theorem dX9_copy_102 : decode cX9_copy 102 = .ok (.goto (-43), 3) := by decide +kernel
theorem dX9_copy_105 : decode cX9_copy 105 = .ok (.iload 4, 2) := by decide +kernel
theorem dX9_copy_107 : decode cX9_copy 107 = .ok (.ireturn, 1) := by decide +kernel
theorem dX9_pattern_0 : decode cX9_pattern 0 = .ok (.iload_n 1, 1) := by decide +kernel
theorem dX9_pattern_1 : decode cX9_pattern 1 = .ok (.invokestatic 59, 3) := by decide +kernel
theorem dX9_pattern_4 : decode cX9_pattern 4 = .ok (.ifCond .eq 43, 3) := by decide +kernel
theorem dX9_pattern_7 : decode cX9_pattern 7 = .ok (.iload_n 2, 1) := by decide +kernel
theorem dX9_pattern_8 : decode cX9_pattern 8 = .ok (.invokestatic 59, 3) := by decide +kernel
theorem dX9_pattern_11 : decode cX9_pattern 11 = .ok (.ifCond .eq 36, 3) := by decide +kernel
theorem dX9_pattern_14 : decode cX9_pattern 14 = .ok (.iload_n 3, 1) := by decide +kernel
theorem dX9_pattern_15 : decode cX9_pattern 15 = .ok (.invokestatic 59, 3) := by decide +kernel
theorem dX9_pattern_18 : decode cX9_pattern 18 = .ok (.ifCond .eq 29, 3) := by decide +kernel
theorem dX9_pattern_21 : decode cX9_pattern 21 = .ok (.iload 4, 2) := by decide +kernel
theorem dX9_pattern_23 : decode cX9_pattern 23 = .ok (.invokestatic 59, 3) := by decide +kernel
theorem dX9_pattern_26 : decode cX9_pattern 26 = .ok (.ifCond .eq 21, 3) := by decide +kernel
theorem dX9_pattern_29 : decode cX9_pattern 29 = .ok (.aload_n 0, 1) := by decide +kernel
theorem dX9_pattern_30 : decode cX9_pattern 30 = .ok (.getfield 88, 3) := by decide +kernel
theorem dX9_pattern_33 : decode cX9_pattern 33 = .ok (.iload_n 1, 1) := by decide +kernel
theorem dX9_pattern_34 : decode cX9_pattern 34 = .ok (.iload_n 2, 1) := by decide +kernel
theorem dX9_pattern_35 : decode cX9_pattern 35 = .ok (.iload_n 3, 1) := by decide +kernel
theorem dX9_pattern_36 : decode cX9_pattern 36 = .ok (.iload 4, 2) := by decide +kernel
theorem dX9_pattern_38 : decode cX9_pattern 38 = .ok (.invokestatic 62, 3) := by decide +kernel
theorem dX9_pattern_41 : decode cX9_pattern 41 = .ok (.iadd, 1) := by decide +kernel
theorem dX9_pattern_42 : decode cX9_pattern 42 = .ok (.bipush 40, 2) := by decide +kernel
theorem dX9_pattern_44 : decode cX9_pattern 44 = .ok (.if_icmp .le 5, 3) := by decide +kernel
theorem dX9_pattern_47 : decode cX9_pattern 47 = .ok (.iconst (-1), 1) := by decide +kernel
theorem dX9_pattern_48 : decode cX9_pattern 48 = .ok (.ireturn, 1) := by decide +kernel
theorem dX9_pattern_49 : decode cX9_pattern 49 = .ok (.iconst 0, 1) := by decide +kernel
theorem dX9_pattern_50 : decode cX9_pattern 50 = .ok (.istore 5, 2) := by decide +kernel
theorem dX9_pattern_52 : decode cX9_pattern 52 = .ok (.iload 5, 2) := by decide +kernel
theorem dX9_pattern_54 : decode cX9_pattern 54 = .ok (.iconst 4, 1) := by decide +kernel
theorem dX9_pattern_55 : decode cX9_pattern 55 = .ok (.if_icmp .ge 68, 3) := by decide +kernel
theorem dX9_pattern_58 : decode cX9_pattern 58 = .ok (.iload 5, 2) := by decide +kernel
theorem dX9_pattern_60 : decode cX9_pattern 60 = .ok (.ifCond .ne 7, 3) := by decide +kernel
theorem dX9_pattern_63 : decode cX9_pattern 63 = .ok (.iload_n 1, 1) := by decide +kernel
theorem dX9_pattern_64 : decode cX9_pattern 64 = .ok (.goto 25, 3) := by decide +kernel
theorem dX9_pattern_67 : decode cX9_pattern 67 = .ok (.iload 5, 2) := by decide +kernel
theorem dX9_pattern_69 : decode cX9_pattern 69 = .ok (.iconst 1, 1) := by decide +kernel
theorem dX9_pattern_70 : decode cX9_pattern 70 = .ok (.if_icmp .ne 7, 3) := by decide +kernel
theorem dX9_pattern_73 : decode cX9_pattern 73 = .ok (.iload_n 2, 1) := by decide +kernel
theorem dX9_pattern_74 : decode cX9_pattern 74 = .ok (.goto 15, 3) := by decide +kernel
theorem dX9_pattern_77 : decode cX9_pattern 77 = .ok (.iload 5, 2) := by decide +kernel
theorem dX9_pattern_79 : decode cX9_pattern 79 = .ok (.iconst 2, 1) := by decide +kernel
theorem dX9_pattern_80 : decode cX9_pattern 80 = .ok (.if_icmp .ne 7, 3) := by decide +kernel
theorem dX9_pattern_83 : decode cX9_pattern 83 = .ok (.iload_n 3, 1) := by decide +kernel
theorem dX9_pattern_84 : decode cX9_pattern 84 = .ok (.goto 5, 3) := by decide +kernel
theorem dX9_pattern_87 : decode cX9_pattern 87 = .ok (.iload 4, 2) := by decide +kernel
theorem dX9_pattern_89 : decode cX9_pattern 89 = .ok (.istore 6, 2) := by decide +kernel
theorem dX9_pattern_91 : decode cX9_pattern 91 = .ok (.iload 6, 2) := by decide +kernel
theorem dX9_pattern_93 : decode cX9_pattern 93 = .ok (.ifCond .lt 24, 3) := by decide +kernel
theorem dX9_pattern_96 : decode cX9_pattern 96 = .ok (.aload_n 0, 1) := by decide +kernel
theorem dX9_pattern_97 : decode cX9_pattern 97 = .ok (.getfield 38, 3) := by decide +kernel
theorem dX9_pattern_100 : decode cX9_pattern 100 = .ok (.aload_n 0, 1) := by decide +kernel
theorem dX9_pattern_101 : decode cX9_pattern 101 = .ok (.getfield 88, 3) := by decide +kernel
theorem dX9_pattern_104 : decode cX9_pattern 104 = .ok (.iload 6, 2) := by decide +kernel
theorem dX9_pattern_106 : decode cX9_pattern 106 = .ok (.iastore, 1) := by decide +kernel
theorem dX9_pattern_107 : decode cX9_pattern 107 = .ok (.aload_n 0, 1) := by decide +kernel
theorem dX9_pattern_108 : decode cX9_pattern 108 = .ok (.dup, 1) := by decide +kernel
theorem dX9_pattern_109 : decode cX9_pattern 109 = .ok (.getfield 88, 3) := by decide +kernel
theorem dX9_pattern_112 : decode cX9_pattern 112 = .ok (.iconst 1, 1) := by decide +kernel
theorem dX9_pattern_113 : decode cX9_pattern 113 = .ok (.iadd, 1) := by decide +kernel
theorem dX9_pattern_114 : decode cX9_pattern 114 = .ok (.putfield 88, 3) := by decide +kernel
theorem dX9_pattern_117 : decode cX9_pattern 117 = .ok (.iinc 5 1, 3) := by decide +kernel
theorem dX9_pattern_120 : decode cX9_pattern 120 = .ok (.goto (-68), 3) := by decide +kernel
theorem dX9_pattern_123 : decode cX9_pattern 123 = .ok (.aload_n 0, 1) := by decide +kernel
theorem dX9_pattern_124 : decode cX9_pattern 124 = .ok (.getfield 88, 3) := by decide +kernel
theorem dX9_pattern_127 : decode cX9_pattern 127 = .ok (.ireturn, 1) := by decide +kernel
theorem dX9_wipe_0 : decode cX9_wipe 0 = .ok (.aload_n 0, 1) := by decide +kernel
theorem dX9_wipe_1 : decode cX9_wipe 1 = .ok (.getfield 88, 3) := by decide +kernel
theorem dX9_wipe_4 : decode cX9_wipe 4 = .ok (.istore_n 1, 1) := by decide +kernel
theorem dX9_wipe_5 : decode cX9_wipe 5 = .ok (.aload_n 0, 1) := by decide +kernel
theorem dX9_wipe_6 : decode cX9_wipe 6 = .ok (.iconst 0, 1) := by decide +kernel
theorem dX9_wipe_7 : decode cX9_wipe 7 = .ok (.putfield 88, 3) := by decide +kernel
theorem dX9_wipe_10 : decode cX9_wipe 10 = .ok (.iload_n 1, 1) := by decide +kernel
theorem dX9_wipe_11 : decode cX9_wipe 11 = .ok (.ireturn, 1) := by decide +kernel
theorem dX9_matched_0 : decode cX9_matched 0 = .ok (.iconst 0, 1) := by decide +kernel
theorem dX9_matched_1 : decode cX9_matched 1 = .ok (.istore_n 2, 1) := by decide +kernel
theorem dX9_matched_2 : decode cX9_matched 2 = .ok (.iload_n 2, 1) := by decide +kernel
theorem dX9_matched_3 : decode cX9_matched 3 = .ok (.aload_n 0, 1) := by decide +kernel
theorem dX9_matched_4 : decode cX9_matched 4 = .ok (.getfield 88, 3) := by decide +kernel
theorem dX9_matched_7 : decode cX9_matched 7 = .ok (.if_icmp .ge 26, 3) := by decide +kernel
theorem dX9_matched_10 : decode cX9_matched 10 = .ok (.aload_n 0, 1) := by decide +kernel
theorem dX9_matched_11 : decode cX9_matched 11 = .ok (.getfield 16, 3) := by decide +kernel
theorem dX9_matched_14 : decode cX9_matched 14 = .ok (.iload_n 1, 1) := by decide +kernel
theorem dX9_matched_15 : decode cX9_matched 15 = .ok (.iload_n 2, 1) := by decide +kernel
theorem dX9_matched_16 : decode cX9_matched 16 = .ok (.iadd, 1) := by decide +kernel
theorem dX9_matched_17 : decode cX9_matched 17 = .ok (.iaload, 1) := by decide +kernel
theorem dX9_matched_18 : decode cX9_matched 18 = .ok (.aload_n 0, 1) := by decide +kernel
theorem dX9_matched_19 : decode cX9_matched 19 = .ok (.getfield 38, 3) := by decide +kernel
theorem dX9_matched_22 : decode cX9_matched 22 = .ok (.iload_n 2, 1) := by decide +kernel
theorem dX9_matched_23 : decode cX9_matched 23 = .ok (.iaload, 1) := by decide +kernel
theorem dX9_matched_24 : decode cX9_matched 24 = .ok (.if_icmp .ne 9, 3) := by decide +kernel
theorem dX9_matched_27 : decode cX9_matched 27 = .ok (.iinc 2 1, 3) := by decide +kernel
theorem dX9_matched_30 : decode cX9_matched 30 = .ok (.goto (-28), 3) := by decide +kernel
theorem dX9_matched_33 : decode cX9_matched 33 = .ok (.iload_n 2, 1) := by decide +kernel
theorem dX9_matched_34 : decode cX9_matched 34 = .ok (.ireturn, 1) := by decide +kernel
theorem dX9_find_0 : decode cX9_find 0 = .ok (.iload_n 1, 1) := by decide +kernel
theorem dX9_find_1 : decode cX9_find 1 = .ok (.ifCond .lt 8, 3) := by decide +kernel
theorem dX9_find_4 : decode cX9_find 4 = .ok (.iload_n 1, 1) := by decide +kernel
theorem dX9_find_5 : decode cX9_find 5 = .ok (.iconst 5, 1) := by decide +kernel
theorem dX9_find_6 : decode cX9_find 6 = .ok (.if_icmp .le 5, 3) := by decide +kernel
theorem dX9_find_9 : decode cX9_find 9 = .ok (.iconst (-1), 1) := by decide +kernel
theorem dX9_find_10 : decode cX9_find 10 = .ok (.ireturn, 1) := by decide +kernel
theorem dX9_find_11 : decode cX9_find 11 = .ok (.iconst 0, 1) := by decide +kernel
theorem dX9_find_12 : decode cX9_find 12 = .ok (.istore_n 2, 1) := by decide +kernel
theorem dX9_find_13 : decode cX9_find 13 = .ok (.iconst 0, 1) := by decide +kernel
theorem dX9_find_14 : decode cX9_find 14 = .ok (.istore_n 3, 1) := by decide +kernel
theorem dX9_find_15 : decode cX9_find 15 = .ok (.iconst 0, 1) := by decide +kernel
theorem dX9_find_16 : decode cX9_find 16 = .ok (.istore 4, 2) := by decide +kernel
theorem dX9_find_18 : decode cX9_find 18 = .ok (.iconst (-1), 1) := by decide +kernel
theorem dX9_find_19 : decode cX9_find 19 = .ok (.istore 5, 2) := by decide +kernel
theorem dX9_find_21 : decode cX9_find 21 = .ok (.iconst (-1), 1) := by decide +kernel
theorem dX9_find_22 : decode cX9_find 22 = .ok (.istore 6, 2) := by decide +kernel
theorem dX9_find_24 : decode cX9_find 24 = .ok (.iconst 0, 1) := by decide +kernel
theorem dX9_find_25 : decode cX9_find 25 = .ok (.istore 7, 2) := by decide +kernel
theorem dX9_find_27 : decode cX9_find 27 = .ok (.iconst 0, 1) := by decide +kernel
theorem dX9_find_28 : decode cX9_find 28 = .ok (.istore 8, 2) := by decide +kernel
theorem dX9_find_30 : decode cX9_find 30 = .ok (.iconst 0, 1) := by decide +kernel
theorem dX9_find_31 : decode cX9_find 31 = .ok (.istore 9, 2) := by decide +kernel
theorem dX9_find_33 : decode cX9_find 33 = .ok (.iload 9, 2) := by decide +kernel
theorem dX9_find_35 : decode cX9_find 35 = .ok (.aload_n 0, 1) := by decide +kernel
theorem dX9_find_36 : decode cX9_find 36 = .ok (.getfield 48, 3) := by decide +kernel
theorem dX9_find_39 : decode cX9_find 39 = .ok (.if_icmp .ge 133, 3) := by decide +kernel
theorem dX9_find_42 : decode cX9_find 42 = .ok (.aload_n 0, 1) := by decide +kernel
theorem dX9_find_43 : decode cX9_find 43 = .ok (.iload 9, 2) := by decide +kernel
theorem dX9_find_45 : decode cX9_find 45 = .ok (.invokevirtual 91, 3) := by decide +kernel
theorem dX9_find_48 : decode cX9_find 48 = .ok (.istore 10, 2) := by decide +kernel
theorem dX9_find_50 : decode cX9_find 50 = .ok (.iload 10, 2) := by decide +kernel
theorem dX9_find_52 : decode cX9_find 52 = .ok (.iload 7, 2) := by decide +kernel
theorem dX9_find_54 : decode cX9_find 54 = .ok (.if_icmp .le 8, 3) := by decide +kernel
theorem dX9_find_57 : decode cX9_find 57 = .ok (.iload 10, 2) := by decide +kernel
theorem dX9_find_59 : decode cX9_find 59 = .ok (.goto 5, 3) := by decide +kernel
theorem dX9_find_62 : decode cX9_find 62 = .ok (.iload 7, 2) := by decide +kernel
theorem dX9_find_64 : decode cX9_find 64 = .ok (.istore 7, 2) := by decide +kernel
theorem dX9_find_66 : decode cX9_find 66 = .ok (.iload 10, 2) := by decide +kernel
theorem dX9_find_68 : decode cX9_find 68 = .ok (.aload_n 0, 1) := by decide +kernel
theorem dX9_find_69 : decode cX9_find 69 = .ok (.getfield 88, 3) := by decide +kernel
theorem dX9_find_72 : decode cX9_find 72 = .ok (.if_icmp .ne 66, 3) := by decide +kernel
theorem dX9_find_75 : decode cX9_find 75 = .ok (.iinc 2 1, 3) := by decide +kernel
theorem dX9_find_78 : decode cX9_find 78 = .ok (.iload 5, 2) := by decide +kernel
theorem dX9_find_80 : decode cX9_find 80 = .ok (.ifCond .ge 8, 3) := by decide +kernel
theorem dX9_find_83 : decode cX9_find 83 = .ok (.iload 9, 2) := by decide +kernel
theorem dX9_find_85 : decode cX9_find 85 = .ok (.goto 5, 3) := by decide +kernel
theorem dX9_find_88 : decode cX9_find 88 = .ok (.iload 5, 2) := by decide +kernel
theorem dX9_find_90 : decode cX9_find 90 = .ok (.istore 5, 2) := by decide +kernel
theorem dX9_find_92 : decode cX9_find 92 = .ok (.iload 9, 2) := by decide +kernel
theorem dX9_find_94 : decode cX9_find 94 = .ok (.istore 6, 2) := by decide +kernel
theorem dX9_find_96 : decode cX9_find 96 = .ok (.iload 4, 2) := by decide +kernel
theorem dX9_find_98 : decode cX9_find 98 = .ok (.iload 8, 2) := by decide +kernel
theorem dX9_find_100 : decode cX9_find 100 = .ok (.aload_n 0, 1) := by decide +kernel
theorem dX9_find_101 : decode cX9_find 101 = .ok (.getfield 19, 3) := by decide +kernel
theorem dX9_find_104 : decode cX9_find 104 = .ok (.iload 9, 2) := by decide +kernel
theorem dX9_find_106 : decode cX9_find 106 = .ok (.iaload, 1) := by decide +kernel
theorem dX9_find_107 : decode cX9_find 107 = .ok (.ishr, 1) := by decide +kernel
theorem dX9_find_108 : decode cX9_find 108 = .ok (.iconst 1, 1) := by decide +kernel
theorem dX9_find_109 : decode cX9_find 109 = .ok (.iand, 1) := by decide +kernel
theorem dX9_find_110 : decode cX9_find 110 = .ok (.ifCond .ne 7, 3) := by decide +kernel
theorem dX9_find_113 : decode cX9_find 113 = .ok (.iconst 1, 1) := by decide +kernel
theorem dX9_find_114 : decode cX9_find 114 = .ok (.goto 4, 3) := by decide +kernel
theorem dX9_find_117 : decode cX9_find 117 = .ok (.iconst 0, 1) := by decide +kernel
theorem dX9_find_118 : decode cX9_find 118 = .ok (.iadd, 1) := by decide +kernel
theorem dX9_find_119 : decode cX9_find 119 = .ok (.istore 4, 2) := by decide +kernel
theorem dX9_find_121 : decode cX9_find 121 = .ok (.iload 8, 2) := by decide +kernel
theorem dX9_find_123 : decode cX9_find 123 = .ok (.iconst 1, 1) := by decide +kernel
theorem dX9_find_124 : decode cX9_find 124 = .ok (.aload_n 0, 1) := by decide +kernel
theorem dX9_find_125 : decode cX9_find 125 = .ok (.getfield 19, 3) := by decide +kernel
theorem dX9_find_128 : decode cX9_find 128 = .ok (.iload 9, 2) := by decide +kernel
theorem dX9_find_130 : decode cX9_find 130 = .ok (.iaload, 1) := by decide +kernel
theorem dX9_find_131 : decode cX9_find 131 = .ok (.ishl, 1) := by decide +kernel
theorem dX9_find_132 : decode cX9_find 132 = .ok (.ior, 1) := by decide +kernel
theorem dX9_find_133 : decode cX9_find 133 = .ok (.istore 8, 2) := by decide +kernel
theorem dX9_find_135 : decode cX9_find 135 = .ok (.goto 31, 3) := by decide +kernel
theorem dX9_find_138 : decode cX9_find 138 = .ok (.iload_n 3, 1) := by decide +kernel
theorem dX9_find_139 : decode cX9_find 139 = .ok (.aload_n 0, 1) := by decide +kernel
theorem dX9_find_140 : decode cX9_find 140 = .ok (.getfield 16, 3) := by decide +kernel
theorem dX9_find_143 : decode cX9_find 143 = .ok (.iload 9, 2) := by decide +kernel
theorem dX9_find_145 : decode cX9_find 145 = .ok (.iload 10, 2) := by decide +kernel
theorem dX9_find_147 : decode cX9_find 147 = .ok (.iadd, 1) := by decide +kernel
theorem dX9_find_148 : decode cX9_find 148 = .ok (.iaload, 1) := by decide +kernel
theorem dX9_find_149 : decode cX9_find 149 = .ok (.aload_n 0, 1) := by decide +kernel
theorem dX9_find_150 : decode cX9_find 150 = .ok (.getfield 38, 3) := by decide +kernel
theorem dX9_find_153 : decode cX9_find 153 = .ok (.iload 10, 2) := by decide +kernel
theorem dX9_find_155 : decode cX9_find 155 = .ok (.iaload, 1) := by decide +kernel
theorem dX9_find_156 : decode cX9_find 156 = .ok (.if_icmp .ge 7, 3) := by decide +kernel
theorem dX9_find_159 : decode cX9_find 159 = .ok (.iconst 1, 1) := by decide +kernel
theorem dX9_find_160 : decode cX9_find 160 = .ok (.goto 4, 3) := by decide +kernel
theorem dX9_find_163 : decode cX9_find 163 = .ok (.iconst 0, 1) := by decide +kernel
theorem dX9_find_164 : decode cX9_find 164 = .ok (.iadd, 1) := by decide +kernel
theorem dX9_find_165 : decode cX9_find 165 = .ok (.istore_n 3, 1) := by decide +kernel
theorem dX9_find_166 : decode cX9_find 166 = .ok (.iinc 9 1, 3) := by decide +kernel
theorem dX9_find_169 : decode cX9_find 169 = .ok (.goto (-136), 3) := by decide +kernel
theorem dX9_find_172 : decode cX9_find 172 = .ok (.iload_n 1, 1) := by decide +kernel
theorem dX9_find_173 : decode cX9_find 173 = .ok (.ifCond .ne 7, 3) := by decide +kernel
theorem dX9_find_176 : decode cX9_find 176 = .ok (.iload_n 2, 1) := by decide +kernel
theorem dX9_find_177 : decode cX9_find 177 = .ok (.goto 44, 3) := by decide +kernel
theorem dX9_find_180 : decode cX9_find 180 = .ok (.iload_n 1, 1) := by decide +kernel
theorem dX9_find_181 : decode cX9_find 181 = .ok (.iconst 1, 1) := by decide +kernel
theorem dX9_find_182 : decode cX9_find 182 = .ok (.if_icmp .ne 7, 3) := by decide +kernel
theorem dX9_find_185 : decode cX9_find 185 = .ok (.iload_n 3, 1) := by decide +kernel
theorem dX9_find_186 : decode cX9_find 186 = .ok (.goto 35, 3) := by decide +kernel
theorem dX9_find_189 : decode cX9_find 189 = .ok (.iload_n 1, 1) := by decide +kernel
theorem dX9_find_190 : decode cX9_find 190 = .ok (.iconst 2, 1) := by decide +kernel
theorem dX9_find_191 : decode cX9_find 191 = .ok (.if_icmp .ne 8, 3) := by decide +kernel
theorem dX9_find_194 : decode cX9_find 194 = .ok (.iload 4, 2) := by decide +kernel
theorem dX9_find_196 : decode cX9_find 196 = .ok (.goto 25, 3) := by decide +kernel
theorem dX9_find_199 : decode cX9_find 199 = .ok (.iload_n 1, 1) := by decide +kernel
theorem dX9_find_200 : decode cX9_find 200 = .ok (.iconst 3, 1) := by decide +kernel
theorem dX9_find_201 : decode cX9_find 201 = .ok (.if_icmp .ne 8, 3) := by decide +kernel
theorem dX9_find_204 : decode cX9_find 204 = .ok (.iload 5, 2) := by decide +kernel
theorem dX9_find_206 : decode cX9_find 206 = .ok (.goto 15, 3) := by decide +kernel
theorem dX9_find_209 : decode cX9_find 209 = .ok (.iload_n 1, 1) := by decide +kernel
theorem dX9_find_210 : decode cX9_find 210 = .ok (.iconst 4, 1) := by decide +kernel
theorem dX9_find_211 : decode cX9_find 211 = .ok (.if_icmp .ne 8, 3) := by decide +kernel
theorem dX9_find_214 : decode cX9_find 214 = .ok (.iload 6, 2) := by decide +kernel
theorem dX9_find_216 : decode cX9_find 216 = .ok (.goto 5, 3) := by decide +kernel
theorem dX9_find_219 : decode cX9_find 219 = .ok (.iload 7, 2) := by decide +kernel
theorem dX9_find_221 : decode cX9_find 221 = .ok (.ireturn, 1) := by decide +kernel
theorem dX9_where_0 : decode cX9_where 0 = .ok (.iconst 0, 1) := by decide +kernel
theorem dX9_where_1 : decode cX9_where 1 = .ok (.istore_n 2, 1) := by decide +kernel
theorem dX9_where_2 : decode cX9_where 2 = .ok (.iconst 0, 1) := by decide +kernel
theorem dX9_where_3 : decode cX9_where 3 = .ok (.istore_n 3, 1) := by decide +kernel
theorem dX9_where_4 : decode cX9_where 4 = .ok (.iload_n 3, 1) := by decide +kernel
theorem dX9_where_5 : decode cX9_where 5 = .ok (.aload_n 0, 1) := by decide +kernel
theorem dX9_where_6 : decode cX9_where 6 = .ok (.getfield 48, 3) := by decide +kernel
theorem dX9_where_9 : decode cX9_where 9 = .ok (.if_icmp .ge 35, 3) := by decide +kernel
theorem dX9_where_12 : decode cX9_where 12 = .ok (.iload_n 1, 1) := by decide +kernel
theorem dX9_where_13 : decode cX9_where 13 = .ok (.ifCond .lt 31, 3) := by decide +kernel
theorem dX9_where_16 : decode cX9_where 16 = .ok (.aload_n 0, 1) := by decide +kernel
theorem dX9_where_17 : decode cX9_where 17 = .ok (.iload_n 3, 1) := by decide +kernel
theorem dX9_where_18 : decode cX9_where 18 = .ok (.invokevirtual 91, 3) := by decide +kernel
theorem dX9_where_21 : decode cX9_where 21 = .ok (.aload_n 0, 1) := by decide +kernel
theorem dX9_where_22 : decode cX9_where 22 = .ok (.getfield 88, 3) := by decide +kernel
theorem dX9_where_25 : decode cX9_where 25 = .ok (.if_icmp .ne 13, 3) := by decide +kernel
theorem dX9_where_28 : decode cX9_where 28 = .ok (.iload_n 2, 1) := by decide +kernel
theorem dX9_where_29 : decode cX9_where 29 = .ok (.iload_n 1, 1) := by decide +kernel
theorem dX9_where_30 : decode cX9_where 30 = .ok (.if_icmp .ne 5, 3) := by decide +kernel
theorem dX9_where_33 : decode cX9_where 33 = .ok (.iload_n 3, 1) := by decide +kernel
theorem dX9_where_34 : decode cX9_where 34 = .ok (.ireturn, 1) := by decide +kernel
theorem dX9_where_35 : decode cX9_where 35 = .ok (.iinc 2 1, 3) := by decide +kernel
theorem dX9_where_38 : decode cX9_where 38 = .ok (.iinc 3 1, 3) := by decide +kernel
theorem dX9_where_41 : decode cX9_where 41 = .ok (.goto (-37), 3) := by decide +kernel
theorem dX9_where_44 : decode cX9_where 44 = .ok (.iconst (-1), 1) := by decide +kernel
theorem dX9_where_45 : decode cX9_where 45 = .ok (.ireturn, 1) := by decide +kernel
theorem dX9_different_0 : decode cX9_different 0 = .ok (.lconst 0, 1) := by decide +kernel
theorem dX9_different_1 : decode cX9_different 1 = .ok (.lstore_n 1, 1) := by decide +kernel
theorem dX9_different_2 : decode cX9_different 2 = .ok (.iconst 0, 1) := by decide +kernel
theorem dX9_different_3 : decode cX9_different 3 = .ok (.istore_n 3, 1) := by decide +kernel
theorem dX9_different_4 : decode cX9_different 4 = .ok (.iload_n 3, 1) := by decide +kernel
theorem dX9_different_5 : decode cX9_different 5 = .ok (.aload_n 0, 1) := by decide +kernel
theorem dX9_different_6 : decode cX9_different 6 = .ok (.getfield 48, 3) := by decide +kernel
theorem dX9_different_9 : decode cX9_different 9 = .ok (.if_icmp .ge 29, 3) := by decide +kernel
theorem dX9_different_12 : decode cX9_different 12 = .ok (.lload_n 1, 1) := by decide +kernel
theorem dX9_different_13 : decode cX9_different 13 = .ok (.aload_n 0, 1) := by decide +kernel
theorem dX9_different_14 : decode cX9_different 14 = .ok (.aload_n 0, 1) := by decide +kernel
theorem dX9_different_15 : decode cX9_different 15 = .ok (.getfield 29, 3) := by decide +kernel
theorem dX9_different_18 : decode cX9_different 18 = .ok (.iload_n 3, 1) := by decide +kernel
theorem dX9_different_19 : decode cX9_different 19 = .ok (.iaload, 1) := by decide +kernel
theorem dX9_different_20 : decode cX9_different 20 = .ok (.invokevirtual 94, 3) := by decide +kernel
theorem dX9_different_23 : decode cX9_different 23 = .ok (.aload_n 0, 1) := by decide +kernel
theorem dX9_different_24 : decode cX9_different 24 = .ok (.iload_n 3, 1) := by decide +kernel
theorem dX9_different_25 : decode cX9_different 25 = .ok (.invokevirtual 81, 3) := by decide +kernel
theorem dX9_different_28 : decode cX9_different 28 = .ok (.isub, 1) := by decide +kernel
theorem dX9_different_29 : decode cX9_different 29 = .ok (.i2l, 1) := by decide +kernel
theorem dX9_different_30 : decode cX9_different 30 = .ok (.ladd, 1) := by decide +kernel
theorem dX9_different_31 : decode cX9_different 31 = .ok (.lstore_n 1, 1) := by decide +kernel
theorem dX9_different_32 : decode cX9_different 32 = .ok (.iinc 3 1, 3) := by decide +kernel
theorem dX9_different_35 : decode cX9_different 35 = .ok (.goto (-31), 3) := by decide +kernel
theorem dX9_different_38 : decode cX9_different 38 = .ok (.lload_n 1, 1) := by decide +kernel
theorem dX9_different_39 : decode cX9_different 39 = .ok (.lreturn, 1) := by decide +kernel
theorem dX9_repeats_0 : decode cX9_repeats 0 = .ok (.iload_n 1, 1) := by decide +kernel
theorem dX9_repeats_1 : decode cX9_repeats 1 = .ok (.iconst 1, 1) := by decide +kernel
theorem dX9_repeats_2 : decode cX9_repeats 2 = .ok (.if_icmp .lt 15, 3) := by decide +kernel
theorem dX9_repeats_5 : decode cX9_repeats 5 = .ok (.iload_n 2, 1) := by decide +kernel
theorem dX9_repeats_6 : decode cX9_repeats 6 = .ok (.iconst 1, 1) := by decide +kernel
theorem dX9_repeats_7 : decode cX9_repeats 7 = .ok (.if_icmp .lt 10, 3) := by decide +kernel
theorem dX9_repeats_10 : decode cX9_repeats 10 = .ok (.iload_n 2, 1) := by decide +kernel
theorem dX9_repeats_11 : decode cX9_repeats 11 = .ok (.sipush 408, 3) := by decide +kernel
theorem dX9_repeats_14 : decode cX9_repeats 14 = .ok (.if_icmp .le 5, 3) := by decide +kernel
theorem dX9_repeats_17 : decode cX9_repeats 17 = .ok (.iconst (-1), 1) := by decide +kernel
theorem dX9_repeats_18 : decode cX9_repeats 18 = .ok (.ireturn, 1) := by decide +kernel
theorem dX9_repeats_19 : decode cX9_repeats 19 = .ok (.iconst 0, 1) := by decide +kernel
theorem dX9_repeats_20 : decode cX9_repeats 20 = .ok (.istore_n 3, 1) := by decide +kernel
theorem dX9_repeats_21 : decode cX9_repeats 21 = .ok (.iconst 0, 1) := by decide +kernel
theorem dX9_repeats_22 : decode cX9_repeats 22 = .ok (.istore 4, 2) := by decide +kernel
theorem dX9_repeats_24 : decode cX9_repeats 24 = .ok (.iconst 0, 1) := by decide +kernel
theorem dX9_repeats_25 : decode cX9_repeats 25 = .ok (.istore 5, 2) := by decide +kernel
theorem dX9_repeats_27 : decode cX9_repeats 27 = .ok (.iload 5, 2) := by decide +kernel
theorem dX9_repeats_29 : decode cX9_repeats 29 = .ok (.aload_n 0, 1) := by decide +kernel
theorem dX9_repeats_30 : decode cX9_repeats 30 = .ok (.getfield 48, 3) := by decide +kernel
theorem dX9_repeats_33 : decode cX9_repeats 33 = .ok (.if_icmp .ge 79, 3) := by decide +kernel
theorem dX9_repeats_36 : decode cX9_repeats 36 = .ok (.iload 4, 2) := by decide +kernel
theorem dX9_repeats_38 : decode cX9_repeats 38 = .ok (.ifCond .le 17, 3) := by decide +kernel
theorem dX9_repeats_41 : decode cX9_repeats 41 = .ok (.aload_n 0, 1) := by decide +kernel
theorem dX9_repeats_42 : decode cX9_repeats 42 = .ok (.iload 5, 2) := by decide +kernel
theorem dX9_repeats_44 : decode cX9_repeats 44 = .ok (.invokevirtual 81, 3) := by decide +kernel
theorem dX9_repeats_47 : decode cX9_repeats 47 = .ok (.iload_n 1, 1) := by decide +kernel
theorem dX9_repeats_48 : decode cX9_repeats 48 = .ok (.if_icmp .lt 7, 3) := by decide +kernel
theorem dX9_repeats_51 : decode cX9_repeats 51 = .ok (.iconst 1, 1) := by decide +kernel
theorem dX9_repeats_52 : decode cX9_repeats 52 = .ok (.goto 4, 3) := by decide +kernel
theorem dX9_repeats_55 : decode cX9_repeats 55 = .ok (.iconst 0, 1) := by decide +kernel
theorem dX9_repeats_56 : decode cX9_repeats 56 = .ok (.istore 6, 2) := by decide +kernel
theorem dX9_repeats_58 : decode cX9_repeats 58 = .ok (.aload_n 0, 1) := by decide +kernel
theorem dX9_repeats_59 : decode cX9_repeats 59 = .ok (.aload_n 0, 1) := by decide +kernel
theorem dX9_repeats_60 : decode cX9_repeats 60 = .ok (.getfield 29, 3) := by decide +kernel
theorem dX9_repeats_63 : decode cX9_repeats 63 = .ok (.iload 5, 2) := by decide +kernel
theorem dX9_repeats_65 : decode cX9_repeats 65 = .ok (.iaload, 1) := by decide +kernel
theorem dX9_repeats_66 : decode cX9_repeats 66 = .ok (.invokevirtual 94, 3) := by decide +kernel
theorem dX9_repeats_69 : decode cX9_repeats 69 = .ok (.iload_n 1, 1) := by decide +kernel
theorem dX9_repeats_70 : decode cX9_repeats 70 = .ok (.if_icmp .ge 7, 3) := by decide +kernel
theorem dX9_repeats_73 : decode cX9_repeats 73 = .ok (.iconst 0, 1) := by decide +kernel
theorem dX9_repeats_74 : decode cX9_repeats 74 = .ok (.goto 16, 3) := by decide +kernel
theorem dX9_repeats_77 : decode cX9_repeats 77 = .ok (.iload 6, 2) := by decide +kernel
theorem dX9_repeats_79 : decode cX9_repeats 79 = .ok (.ifCond .eq 10, 3) := by decide +kernel
theorem dX9_repeats_82 : decode cX9_repeats 82 = .ok (.iload 4, 2) := by decide +kernel
theorem dX9_repeats_84 : decode cX9_repeats 84 = .ok (.iconst 1, 1) := by decide +kernel
theorem dX9_repeats_85 : decode cX9_repeats 85 = .ok (.iadd, 1) := by decide +kernel
theorem dX9_repeats_86 : decode cX9_repeats 86 = .ok (.goto 4, 3) := by decide +kernel
theorem dX9_repeats_89 : decode cX9_repeats 89 = .ok (.iconst 1, 1) := by decide +kernel
theorem dX9_repeats_90 : decode cX9_repeats 90 = .ok (.istore 4, 2) := by decide +kernel
theorem dX9_repeats_92 : decode cX9_repeats 92 = .ok (.iload_n 3, 1) := by decide +kernel
theorem dX9_repeats_93 : decode cX9_repeats 93 = .ok (.iload 4, 2) := by decide +kernel
theorem dX9_repeats_95 : decode cX9_repeats 95 = .ok (.iload_n 2, 1) := by decide +kernel
theorem dX9_repeats_96 : decode cX9_repeats 96 = .ok (.if_icmp .ne 7, 3) := by decide +kernel
theorem dX9_repeats_99 : decode cX9_repeats 99 = .ok (.iconst 1, 1) := by decide +kernel
theorem dX9_repeats_100 : decode cX9_repeats 100 = .ok (.goto 4, 3) := by decide +kernel
theorem dX9_repeats_103 : decode cX9_repeats 103 = .ok (.iconst 0, 1) := by decide +kernel
theorem dX9_repeats_104 : decode cX9_repeats 104 = .ok (.iadd, 1) := by decide +kernel
theorem dX9_repeats_105 : decode cX9_repeats 105 = .ok (.istore_n 3, 1) := by decide +kernel
theorem dX9_repeats_106 : decode cX9_repeats 106 = .ok (.iinc 5 1, 3) := by decide +kernel
theorem dX9_repeats_109 : decode cX9_repeats 109 = .ok (.goto (-82), 3) := by decide +kernel
theorem dX9_repeats_112 : decode cX9_repeats 112 = .ok (.iload_n 3, 1) := by decide +kernel
theorem dX9_repeats_113 : decode cX9_repeats 113 = .ok (.ireturn, 1) := by decide +kernel
theorem dX9_tellStretch_0 : decode cX9_tellStretch 0 = .ok (.iload_n 3, 1) := by decide +kernel
theorem dX9_tellStretch_1 : decode cX9_tellStretch 1 = .ok (.ifCond .ne 5, 3) := by decide +kernel
theorem dX9_tellStretch_4 : decode cX9_tellStretch 4 = .ok (.iload_n 2, 1) := by decide +kernel
theorem dX9_tellStretch_5 : decode cX9_tellStretch 5 = .ok (.ireturn, 1) := by decide +kernel
theorem dX9_tellStretch_6 : decode cX9_tellStretch 6 = .ok (.iload_n 2, 1) := by decide +kernel
theorem dX9_tellStretch_7 : decode cX9_tellStretch 7 = .ok (.ifCond .ne 5, 3) := by decide +kernel
theorem dX9_tellStretch_10 : decode cX9_tellStretch 10 = .ok (.iconst (-1), 1) := by decide +kernel
theorem dX9_tellStretch_11 : decode cX9_tellStretch 11 = .ok (.ireturn, 1) := by decide +kernel
theorem dX9_tellStretch_12 : decode cX9_tellStretch 12 = .ok (.iconst (-1), 1) := by decide +kernel
theorem dX9_tellStretch_13 : decode cX9_tellStretch 13 = .ok (.istore 4, 2) := by decide +kernel
theorem dX9_tellStretch_15 : decode cX9_tellStretch 15 = .ok (.iconst 0, 1) := by decide +kernel
theorem dX9_tellStretch_16 : decode cX9_tellStretch 16 = .ok (.istore 5, 2) := by decide +kernel
theorem dX9_tellStretch_18 : decode cX9_tellStretch 18 = .ok (.iconst 0, 1) := by decide +kernel
theorem dX9_tellStretch_19 : decode cX9_tellStretch 19 = .ok (.istore 6, 2) := by decide +kernel
theorem dX9_tellStretch_21 : decode cX9_tellStretch 21 = .ok (.iconst 0, 1) := by decide +kernel
theorem dX9_tellStretch_22 : decode cX9_tellStretch 22 = .ok (.istore 7, 2) := by decide +kernel
theorem dX9_tellStretch_24 : decode cX9_tellStretch 24 = .ok (.iconst 0, 1) := by decide +kernel
theorem dX9_tellStretch_25 : decode cX9_tellStretch 25 = .ok (.istore 8, 2) := by decide +kernel
theorem dX9_tellStretch_27 : decode cX9_tellStretch 27 = .ok (.iload 8, 2) := by decide +kernel
theorem dX9_tellStretch_29 : decode cX9_tellStretch 29 = .ok (.aload_n 0, 1) := by decide +kernel
theorem dX9_tellStretch_30 : decode cX9_tellStretch 30 = .ok (.getfield 48, 3) := by decide +kernel
theorem dX9_tellStretch_33 : decode cX9_tellStretch 33 = .ok (.if_icmp .ge 81, 3) := by decide +kernel
theorem dX9_tellStretch_36 : decode cX9_tellStretch 36 = .ok (.aload_n 0, 1) := by decide +kernel
theorem dX9_tellStretch_37 : decode cX9_tellStretch 37 = .ok (.iload 8, 2) := by decide +kernel
theorem dX9_tellStretch_39 : decode cX9_tellStretch 39 = .ok (.aload_n 0, 1) := by decide +kernel
theorem dX9_tellStretch_40 : decode cX9_tellStretch 40 = .ok (.getfield 29, 3) := by decide +kernel
theorem dX9_tellStretch_43 : decode cX9_tellStretch 43 = .ok (.iload_n 1, 1) := by decide +kernel
theorem dX9_tellStretch_44 : decode cX9_tellStretch 44 = .ok (.iaload, 1) := by decide +kernel
theorem dX9_tellStretch_45 : decode cX9_tellStretch 45 = .ok (.invokevirtual 70, 3) := by decide +kernel
theorem dX9_tellStretch_48 : decode cX9_tellStretch 48 = .ok (.iload_n 2, 1) := by decide +kernel
theorem dX9_tellStretch_49 : decode cX9_tellStretch 49 = .ok (.if_icmp .lt 59, 3) := by decide +kernel
theorem dX9_tellStretch_52 : decode cX9_tellStretch 52 = .ok (.iload 4, 2) := by decide +kernel
theorem dX9_tellStretch_54 : decode cX9_tellStretch 54 = .ok (.ifCond .ge 8, 3) := by decide +kernel
theorem dX9_tellStretch_57 : decode cX9_tellStretch 57 = .ok (.iload 8, 2) := by decide +kernel
theorem dX9_tellStretch_59 : decode cX9_tellStretch 59 = .ok (.goto 5, 3) := by decide +kernel
theorem dX9_tellStretch_62 : decode cX9_tellStretch 62 = .ok (.iload 4, 2) := by decide +kernel
theorem dX9_tellStretch_64 : decode cX9_tellStretch 64 = .ok (.istore 4, 2) := by decide +kernel
theorem dX9_tellStretch_66 : decode cX9_tellStretch 66 = .ok (.iinc 5 1, 3) := by decide +kernel
theorem dX9_tellStretch_69 : decode cX9_tellStretch 69 = .ok (.iload 6, 2) := by decide +kernel
theorem dX9_tellStretch_71 : decode cX9_tellStretch 71 = .ok (.iload 7, 2) := by decide +kernel
theorem dX9_tellStretch_73 : decode cX9_tellStretch 73 = .ok (.aload_n 0, 1) := by decide +kernel
theorem dX9_tellStretch_74 : decode cX9_tellStretch 74 = .ok (.getfield 19, 3) := by decide +kernel
theorem dX9_tellStretch_77 : decode cX9_tellStretch 77 = .ok (.iload 8, 2) := by decide +kernel
theorem dX9_tellStretch_79 : decode cX9_tellStretch 79 = .ok (.iaload, 1) := by decide +kernel
theorem dX9_tellStretch_80 : decode cX9_tellStretch 80 = .ok (.ishr, 1) := by decide +kernel
theorem dX9_tellStretch_81 : decode cX9_tellStretch 81 = .ok (.iconst 1, 1) := by decide +kernel
theorem dX9_tellStretch_82 : decode cX9_tellStretch 82 = .ok (.iand, 1) := by decide +kernel
theorem dX9_tellStretch_83 : decode cX9_tellStretch 83 = .ok (.ifCond .ne 7, 3) := by decide +kernel
theorem dX9_tellStretch_86 : decode cX9_tellStretch 86 = .ok (.iconst 1, 1) := by decide +kernel
theorem dX9_tellStretch_87 : decode cX9_tellStretch 87 = .ok (.goto 4, 3) := by decide +kernel
theorem dX9_tellStretch_90 : decode cX9_tellStretch 90 = .ok (.iconst 0, 1) := by decide +kernel
theorem dX9_tellStretch_91 : decode cX9_tellStretch 91 = .ok (.iadd, 1) := by decide +kernel
theorem dX9_tellStretch_92 : decode cX9_tellStretch 92 = .ok (.istore 6, 2) := by decide +kernel
theorem dX9_tellStretch_94 : decode cX9_tellStretch 94 = .ok (.iload 7, 2) := by decide +kernel
theorem dX9_tellStretch_96 : decode cX9_tellStretch 96 = .ok (.iconst 1, 1) := by decide +kernel
theorem dX9_tellStretch_97 : decode cX9_tellStretch 97 = .ok (.aload_n 0, 1) := by decide +kernel
theorem dX9_tellStretch_98 : decode cX9_tellStretch 98 = .ok (.getfield 19, 3) := by decide +kernel
theorem dX9_tellStretch_101 : decode cX9_tellStretch 101 = .ok (.iload 8, 2) := by decide +kernel
theorem dX9_tellStretch_103 : decode cX9_tellStretch 103 = .ok (.iaload, 1) := by decide +kernel
theorem dX9_tellStretch_104 : decode cX9_tellStretch 104 = .ok (.ishl, 1) := by decide +kernel
theorem dX9_tellStretch_105 : decode cX9_tellStretch 105 = .ok (.ior, 1) := by decide +kernel
theorem dX9_tellStretch_106 : decode cX9_tellStretch 106 = .ok (.istore 7, 2) := by decide +kernel
theorem dX9_tellStretch_108 : decode cX9_tellStretch 108 = .ok (.iinc 8 1, 3) := by decide +kernel
theorem dX9_tellStretch_111 : decode cX9_tellStretch 111 = .ok (.goto (-84), 3) := by decide +kernel
theorem dX9_tellStretch_114 : decode cX9_tellStretch 114 = .ok (.iload_n 3, 1) := by decide +kernel
theorem dX9_tellStretch_115 : decode cX9_tellStretch 115 = .ok (.iconst 1, 1) := by decide +kernel
theorem dX9_tellStretch_116 : decode cX9_tellStretch 116 = .ok (.if_icmp .ne 8, 3) := by decide +kernel
theorem dX9_tellStretch_119 : decode cX9_tellStretch 119 = .ok (.iload 4, 2) := by decide +kernel
theorem dX9_tellStretch_121 : decode cX9_tellStretch 121 = .ok (.goto 15, 3) := by decide +kernel
theorem dX9_tellStretch_124 : decode cX9_tellStretch 124 = .ok (.iload_n 3, 1) := by decide +kernel
theorem dX9_tellStretch_125 : decode cX9_tellStretch 125 = .ok (.iconst 2, 1) := by decide +kernel
theorem dX9_tellStretch_126 : decode cX9_tellStretch 126 = .ok (.if_icmp .ne 8, 3) := by decide +kernel
theorem dX9_tellStretch_129 : decode cX9_tellStretch 129 = .ok (.iload 5, 2) := by decide +kernel
theorem dX9_tellStretch_131 : decode cX9_tellStretch 131 = .ok (.goto 5, 3) := by decide +kernel
theorem dX9_tellStretch_134 : decode cX9_tellStretch 134 = .ok (.iload 6, 2) := by decide +kernel
theorem dX9_tellStretch_136 : decode cX9_tellStretch 136 = .ok (.ireturn, 1) := by decide +kernel
theorem dX9_longest_0 : decode cX9_longest 0 = .ok (.iload_n 1, 1) := by decide +kernel
theorem dX9_longest_1 : decode cX9_longest 1 = .ok (.iconst 2, 1) := by decide +kernel
theorem dX9_longest_2 : decode cX9_longest 2 = .ok (.if_icmp .lt 19, 3) := by decide +kernel
theorem dX9_longest_5 : decode cX9_longest 5 = .ok (.iload_n 1, 1) := by decide +kernel
theorem dX9_longest_6 : decode cX9_longest 6 = .ok (.sipush 408, 3) := by decide +kernel
theorem dX9_longest_9 : decode cX9_longest 9 = .ok (.if_icmp .gt 12, 3) := by decide +kernel
theorem dX9_longest_12 : decode cX9_longest 12 = .ok (.iload_n 2, 1) := by decide +kernel
theorem dX9_longest_13 : decode cX9_longest 13 = .ok (.ifCond .lt 8, 3) := by decide +kernel
theorem dX9_longest_16 : decode cX9_longest 16 = .ok (.iload_n 2, 1) := by decide +kernel
theorem dX9_longest_17 : decode cX9_longest 17 = .ok (.iconst 2, 1) := by decide +kernel
theorem dX9_longest_18 : decode cX9_longest 18 = .ok (.if_icmp .le 5, 3) := by decide +kernel
theorem dX9_longest_21 : decode cX9_longest 21 = .ok (.iconst (-1), 1) := by decide +kernel
theorem dX9_longest_22 : decode cX9_longest 22 = .ok (.ireturn, 1) := by decide +kernel
theorem dX9_longest_23 : decode cX9_longest 23 = .ok (.iconst 0, 1) := by decide +kernel
theorem dX9_longest_24 : decode cX9_longest 24 = .ok (.istore_n 3, 1) := by decide +kernel
theorem dX9_longest_25 : decode cX9_longest 25 = .ok (.iconst 0, 1) := by decide +kernel
theorem dX9_longest_26 : decode cX9_longest 26 = .ok (.istore 4, 2) := by decide +kernel
theorem dX9_longest_28 : decode cX9_longest 28 = .ok (.iconst 0, 1) := by decide +kernel
theorem dX9_longest_29 : decode cX9_longest 29 = .ok (.istore 5, 2) := by decide +kernel
theorem dX9_longest_31 : decode cX9_longest 31 = .ok (.iload 5, 2) := by decide +kernel
theorem dX9_longest_33 : decode cX9_longest 33 = .ok (.iload_n 1, 1) := by decide +kernel
theorem dX9_longest_34 : decode cX9_longest 34 = .ok (.iadd, 1) := by decide +kernel
theorem dX9_longest_35 : decode cX9_longest 35 = .ok (.aload_n 0, 1) := by decide +kernel
theorem dX9_longest_36 : decode cX9_longest 36 = .ok (.getfield 48, 3) := by decide +kernel
theorem dX9_longest_39 : decode cX9_longest 39 = .ok (.if_icmp .gt 72, 3) := by decide +kernel
theorem dX9_longest_42 : decode cX9_longest 42 = .ok (.sipush 400, 3) := by decide +kernel
theorem dX9_longest_45 : decode cX9_longest 45 = .ok (.istore 6, 2) := by decide +kernel
theorem dX9_longest_47 : decode cX9_longest 47 = .ok (.iload 5, 2) := by decide +kernel
theorem dX9_longest_49 : decode cX9_longest 49 = .ok (.iconst 1, 1) := by decide +kernel
theorem dX9_longest_50 : decode cX9_longest 50 = .ok (.iadd, 1) := by decide +kernel
theorem dX9_longest_51 : decode cX9_longest 51 = .ok (.istore 7, 2) := by decide +kernel
theorem dX9_longest_53 : decode cX9_longest 53 = .ok (.iload 7, 2) := by decide +kernel
theorem dX9_longest_55 : decode cX9_longest 55 = .ok (.iload 5, 2) := by decide +kernel
theorem dX9_longest_57 : decode cX9_longest 57 = .ok (.iload_n 1, 1) := by decide +kernel
theorem dX9_longest_58 : decode cX9_longest 58 = .ok (.iadd, 1) := by decide +kernel
theorem dX9_longest_59 : decode cX9_longest 59 = .ok (.if_icmp .ge 33, 3) := by decide +kernel
theorem dX9_longest_62 : decode cX9_longest 62 = .ok (.aload_n 0, 1) := by decide +kernel
theorem dX9_longest_63 : decode cX9_longest 63 = .ok (.iload 7, 2) := by decide +kernel
theorem dX9_longest_65 : decode cX9_longest 65 = .ok (.invokevirtual 81, 3) := by decide +kernel
theorem dX9_longest_68 : decode cX9_longest 68 = .ok (.iload 6, 2) := by decide +kernel
theorem dX9_longest_70 : decode cX9_longest 70 = .ok (.if_icmp .ge 12, 3) := by decide +kernel
theorem dX9_longest_73 : decode cX9_longest 73 = .ok (.aload_n 0, 1) := by decide +kernel
theorem dX9_longest_74 : decode cX9_longest 74 = .ok (.iload 7, 2) := by decide +kernel
theorem dX9_longest_76 : decode cX9_longest 76 = .ok (.invokevirtual 81, 3) := by decide +kernel
theorem dX9_longest_79 : decode cX9_longest 79 = .ok (.goto 5, 3) := by decide +kernel
theorem dX9_longest_82 : decode cX9_longest 82 = .ok (.iload 6, 2) := by decide +kernel
theorem dX9_longest_84 : decode cX9_longest 84 = .ok (.istore 6, 2) := by decide +kernel
theorem dX9_longest_86 : decode cX9_longest 86 = .ok (.iinc 7 1, 3) := by decide +kernel
theorem dX9_longest_89 : decode cX9_longest 89 = .ok (.goto (-36), 3) := by decide +kernel
theorem dX9_longest_92 : decode cX9_longest 92 = .ok (.iload 6, 2) := by decide +kernel
theorem dX9_longest_94 : decode cX9_longest 94 = .ok (.iload_n 3, 1) := by decide +kernel
theorem dX9_longest_95 : decode cX9_longest 95 = .ok (.if_icmp .le 10, 3) := by decide +kernel
theorem dX9_longest_98 : decode cX9_longest 98 = .ok (.iload 6, 2) := by decide +kernel
theorem dX9_longest_100 : decode cX9_longest 100 = .ok (.istore_n 3, 1) := by decide +kernel
theorem dX9_longest_101 : decode cX9_longest 101 = .ok (.iload 5, 2) := by decide +kernel
theorem dX9_longest_103 : decode cX9_longest 103 = .ok (.istore 4, 2) := by decide +kernel
theorem dX9_longest_105 : decode cX9_longest 105 = .ok (.iinc 5 1, 3) := by decide +kernel
theorem dX9_longest_108 : decode cX9_longest 108 = .ok (.goto (-77), 3) := by decide +kernel
theorem dX9_longest_111 : decode cX9_longest 111 = .ok (.aload_n 0, 1) := by decide +kernel
theorem dX9_longest_112 : decode cX9_longest 112 = .ok (.iload 4, 2) := by decide +kernel
theorem dX9_longest_114 : decode cX9_longest 114 = .ok (.iload_n 3, 1) := by decide +kernel
theorem dX9_longest_115 : decode cX9_longest 115 = .ok (.iload_n 2, 1) := by decide +kernel
theorem dX9_longest_116 : decode cX9_longest 116 = .ok (.invokevirtual 97, 3) := by decide +kernel
theorem dX9_longest_119 : decode cX9_longest 119 = .ok (.ireturn, 1) := by decide +kernel
theorem dX9_shared_0 : decode cX9_shared 0 = .ok (.iload_n 1, 1) := by decide +kernel
theorem dX9_shared_1 : decode cX9_shared 1 = .ok (.iconst 1, 1) := by decide +kernel
theorem dX9_shared_2 : decode cX9_shared 2 = .ok (.if_icmp .lt 18, 3) := by decide +kernel
theorem dX9_shared_5 : decode cX9_shared 5 = .ok (.iload_n 1, 1) := by decide +kernel
theorem dX9_shared_6 : decode cX9_shared 6 = .ok (.bipush 8, 2) := by decide +kernel
theorem dX9_shared_8 : decode cX9_shared 8 = .ok (.if_icmp .gt 12, 3) := by decide +kernel
theorem dX9_shared_11 : decode cX9_shared 11 = .ok (.iload_n 2, 1) := by decide +kernel
theorem dX9_shared_12 : decode cX9_shared 12 = .ok (.ifCond .lt 8, 3) := by decide +kernel
theorem dX9_shared_15 : decode cX9_shared 15 = .ok (.iload_n 2, 1) := by decide +kernel
theorem dX9_shared_16 : decode cX9_shared 16 = .ok (.iconst 3, 1) := by decide +kernel
theorem dX9_shared_17 : decode cX9_shared 17 = .ok (.if_icmp .le 5, 3) := by decide +kernel
theorem dX9_shared_20 : decode cX9_shared 20 = .ok (.iconst (-1), 1) := by decide +kernel
theorem dX9_shared_21 : decode cX9_shared 21 = .ok (.ireturn, 1) := by decide +kernel
theorem dX9_shared_22 : decode cX9_shared 22 = .ok (.iconst 0, 1) := by decide +kernel
theorem dX9_shared_23 : decode cX9_shared 23 = .ok (.istore_n 3, 1) := by decide +kernel
theorem dX9_shared_24 : decode cX9_shared 24 = .ok (.iconst 0, 1) := by decide +kernel
theorem dX9_shared_25 : decode cX9_shared 25 = .ok (.istore 4, 2) := by decide +kernel
theorem dX9_shared_27 : decode cX9_shared 27 = .ok (.iconst 0, 1) := by decide +kernel
theorem dX9_shared_28 : decode cX9_shared 28 = .ok (.istore 5, 2) := by decide +kernel
theorem dX9_shared_30 : decode cX9_shared 30 = .ok (.iload 5, 2) := by decide +kernel
theorem dX9_shared_32 : decode cX9_shared 32 = .ok (.aload_n 0, 1) := by decide +kernel
theorem dX9_shared_33 : decode cX9_shared 33 = .ok (.getfield 48, 3) := by decide +kernel
theorem dX9_shared_36 : decode cX9_shared 36 = .ok (.if_icmp .ge 132, 3) := by decide +kernel
theorem dX9_shared_39 : decode cX9_shared 39 = .ok (.iconst 0, 1) := by decide +kernel
theorem dX9_shared_40 : decode cX9_shared 40 = .ok (.istore 6, 2) := by decide +kernel
theorem dX9_shared_42 : decode cX9_shared 42 = .ok (.iload 6, 2) := by decide +kernel
theorem dX9_shared_44 : decode cX9_shared 44 = .ok (.bipush 8, 2) := by decide +kernel
theorem dX9_shared_46 : decode cX9_shared 46 = .ok (.if_icmp .ge 17, 3) := by decide +kernel
theorem dX9_shared_49 : decode cX9_shared 49 = .ok (.aload_n 0, 1) := by decide +kernel
theorem dX9_shared_50 : decode cX9_shared 50 = .ok (.getfield 41, 3) := by decide +kernel
theorem dX9_shared_53 : decode cX9_shared 53 = .ok (.iload 6, 2) := by decide +kernel
theorem dX9_shared_55 : decode cX9_shared 55 = .ok (.iconst 0, 1) := by decide +kernel
theorem dX9_shared_56 : decode cX9_shared 56 = .ok (.iastore, 1) := by decide +kernel
theorem dX9_shared_57 : decode cX9_shared 57 = .ok (.iinc 6 1, 3) := by decide +kernel
theorem dX9_shared_60 : decode cX9_shared 60 = .ok (.goto (-18), 3) := by decide +kernel
theorem dX9_shared_63 : decode cX9_shared 63 = .ok (.iconst 0, 1) := by decide +kernel
theorem dX9_shared_64 : decode cX9_shared 64 = .ok (.istore 6, 2) := by decide +kernel
theorem dX9_shared_66 : decode cX9_shared 66 = .ok (.iload 6, 2) := by decide +kernel
theorem dX9_shared_68 : decode cX9_shared 68 = .ok (.aload_n 0, 1) := by decide +kernel
theorem dX9_shared_69 : decode cX9_shared 69 = .ok (.getfield 48, 3) := by decide +kernel
theorem dX9_shared_72 : decode cX9_shared 72 = .ok (.if_icmp .ge 70, 3) := by decide +kernel
theorem dX9_shared_75 : decode cX9_shared 75 = .ok (.aload_n 0, 1) := by decide +kernel
theorem dX9_shared_76 : decode cX9_shared 76 = .ok (.aload_n 0, 1) := by decide +kernel
theorem dX9_shared_77 : decode cX9_shared 77 = .ok (.getfield 29, 3) := by decide +kernel
theorem dX9_shared_80 : decode cX9_shared 80 = .ok (.iload 5, 2) := by decide +kernel
theorem dX9_shared_82 : decode cX9_shared 82 = .ok (.iaload, 1) := by decide +kernel
theorem dX9_shared_83 : decode cX9_shared 83 = .ok (.iload 6, 2) := by decide +kernel
theorem dX9_shared_85 : decode cX9_shared 85 = .ok (.invokevirtual 70, 3) := by decide +kernel
theorem dX9_shared_88 : decode cX9_shared 88 = .ok (.istore 7, 2) := by decide +kernel
theorem dX9_shared_90 : decode cX9_shared 90 = .ok (.aload_n 0, 1) := by decide +kernel
theorem dX9_shared_91 : decode cX9_shared 91 = .ok (.getfield 41, 3) := by decide +kernel
theorem dX9_shared_94 : decode cX9_shared 94 = .ok (.aload_n 0, 1) := by decide +kernel
theorem dX9_shared_95 : decode cX9_shared 95 = .ok (.getfield 19, 3) := by decide +kernel
theorem dX9_shared_98 : decode cX9_shared 98 = .ok (.iload 6, 2) := by decide +kernel
theorem dX9_shared_100 : decode cX9_shared 100 = .ok (.iaload, 1) := by decide +kernel
theorem dX9_shared_101 : decode cX9_shared 101 = .ok (.iload 7, 2) := by decide +kernel
theorem dX9_shared_103 : decode cX9_shared 103 = .ok (.aload_n 0, 1) := by decide +kernel
theorem dX9_shared_104 : decode cX9_shared 104 = .ok (.getfield 41, 3) := by decide +kernel
theorem dX9_shared_107 : decode cX9_shared 107 = .ok (.aload_n 0, 1) := by decide +kernel
theorem dX9_shared_108 : decode cX9_shared 108 = .ok (.getfield 19, 3) := by decide +kernel
theorem dX9_shared_111 : decode cX9_shared 111 = .ok (.iload 6, 2) := by decide +kernel
theorem dX9_shared_113 : decode cX9_shared 113 = .ok (.iaload, 1) := by decide +kernel
theorem dX9_shared_114 : decode cX9_shared 114 = .ok (.iaload, 1) := by decide +kernel
theorem dX9_shared_115 : decode cX9_shared 115 = .ok (.if_icmp .le 8, 3) := by decide +kernel
theorem dX9_shared_118 : decode cX9_shared 118 = .ok (.iload 7, 2) := by decide +kernel
theorem dX9_shared_120 : decode cX9_shared 120 = .ok (.goto 15, 3) := by decide +kernel
theorem dX9_shared_123 : decode cX9_shared 123 = .ok (.aload_n 0, 1) := by decide +kernel
theorem dX9_shared_124 : decode cX9_shared 124 = .ok (.getfield 41, 3) := by decide +kernel
theorem dX9_shared_127 : decode cX9_shared 127 = .ok (.aload_n 0, 1) := by decide +kernel
theorem dX9_shared_128 : decode cX9_shared 128 = .ok (.getfield 19, 3) := by decide +kernel
theorem dX9_shared_131 : decode cX9_shared 131 = .ok (.iload 6, 2) := by decide +kernel
theorem dX9_shared_133 : decode cX9_shared 133 = .ok (.iaload, 1) := by decide +kernel
theorem dX9_shared_134 : decode cX9_shared 134 = .ok (.iaload, 1) := by decide +kernel
theorem dX9_shared_135 : decode cX9_shared 135 = .ok (.iastore, 1) := by decide +kernel
theorem dX9_shared_136 : decode cX9_shared 136 = .ok (.iinc 6 1, 3) := by decide +kernel
theorem dX9_shared_139 : decode cX9_shared 139 = .ok (.goto (-73), 3) := by decide +kernel
theorem dX9_shared_142 : decode cX9_shared 142 = .ok (.aload_n 0, 1) := by decide +kernel
theorem dX9_shared_143 : decode cX9_shared 143 = .ok (.iload_n 1, 1) := by decide +kernel
theorem dX9_shared_144 : decode cX9_shared 144 = .ok (.invokevirtual 101, 3) := by decide +kernel
theorem dX9_shared_147 : decode cX9_shared 147 = .ok (.istore 6, 2) := by decide +kernel
theorem dX9_shared_149 : decode cX9_shared 149 = .ok (.iload 6, 2) := by decide +kernel
theorem dX9_shared_151 : decode cX9_shared 151 = .ok (.iload_n 3, 1) := by decide +kernel
theorem dX9_shared_152 : decode cX9_shared 152 = .ok (.if_icmp .le 10, 3) := by decide +kernel
theorem dX9_shared_155 : decode cX9_shared 155 = .ok (.iload 6, 2) := by decide +kernel
theorem dX9_shared_157 : decode cX9_shared 157 = .ok (.istore_n 3, 1) := by decide +kernel
theorem dX9_shared_158 : decode cX9_shared 158 = .ok (.iload 5, 2) := by decide +kernel
theorem dX9_shared_160 : decode cX9_shared 160 = .ok (.istore 4, 2) := by decide +kernel
theorem dX9_shared_162 : decode cX9_shared 162 = .ok (.iinc 5 1, 3) := by decide +kernel
theorem dX9_shared_165 : decode cX9_shared 165 = .ok (.goto (-135), 3) := by decide +kernel
theorem dX9_shared_168 : decode cX9_shared 168 = .ok (.aload_n 0, 1) := by decide +kernel
theorem dX9_shared_169 : decode cX9_shared 169 = .ok (.iload 4, 2) := by decide +kernel
theorem dX9_shared_171 : decode cX9_shared 171 = .ok (.iload_n 3, 1) := by decide +kernel
theorem dX9_shared_172 : decode cX9_shared 172 = .ok (.iload_n 2, 1) := by decide +kernel
theorem dX9_shared_173 : decode cX9_shared 173 = .ok (.invokevirtual 97, 3) := by decide +kernel
theorem dX9_shared_176 : decode cX9_shared 176 = .ok (.ireturn, 1) := by decide +kernel
theorem dX9_mth_0 : decode cX9_mth 0 = .ok (.iconst 0, 1) := by decide +kernel
theorem dX9_mth_1 : decode cX9_mth 1 = .ok (.istore_n 2, 1) := by decide +kernel
theorem dX9_mth_2 : decode cX9_mth 2 = .ok (.iconst 0, 1) := by decide +kernel
theorem dX9_mth_3 : decode cX9_mth 3 = .ok (.istore_n 3, 1) := by decide +kernel
theorem dX9_mth_4 : decode cX9_mth 4 = .ok (.iload_n 3, 1) := by decide +kernel
theorem dX9_mth_5 : decode cX9_mth 5 = .ok (.bipush 8, 2) := by decide +kernel
theorem dX9_mth_7 : decode cX9_mth 7 = .ok (.if_icmp .ge 81, 3) := by decide +kernel
theorem dX9_mth_10 : decode cX9_mth 10 = .ok (.iconst 0, 1) := by decide +kernel
theorem dX9_mth_11 : decode cX9_mth 11 = .ok (.istore 4, 2) := by decide +kernel
theorem dX9_mth_13 : decode cX9_mth 13 = .ok (.iconst 0, 1) := by decide +kernel
theorem dX9_mth_14 : decode cX9_mth 14 = .ok (.istore 5, 2) := by decide +kernel
theorem dX9_mth_16 : decode cX9_mth 16 = .ok (.iload 5, 2) := by decide +kernel
theorem dX9_mth_18 : decode cX9_mth 18 = .ok (.bipush 8, 2) := by decide +kernel
theorem dX9_mth_20 : decode cX9_mth 20 = .ok (.if_icmp .ge 35, 3) := by decide +kernel
theorem dX9_mth_23 : decode cX9_mth 23 = .ok (.iload 4, 2) := by decide +kernel
theorem dX9_mth_25 : decode cX9_mth 25 = .ok (.aload_n 0, 1) := by decide +kernel
theorem dX9_mth_26 : decode cX9_mth 26 = .ok (.getfield 41, 3) := by decide +kernel
theorem dX9_mth_29 : decode cX9_mth 29 = .ok (.iload 5, 2) := by decide +kernel
theorem dX9_mth_31 : decode cX9_mth 31 = .ok (.iaload, 1) := by decide +kernel
theorem dX9_mth_32 : decode cX9_mth 32 = .ok (.aload_n 0, 1) := by decide +kernel
theorem dX9_mth_33 : decode cX9_mth 33 = .ok (.getfield 41, 3) := by decide +kernel
theorem dX9_mth_36 : decode cX9_mth 36 = .ok (.iload_n 3, 1) := by decide +kernel
theorem dX9_mth_37 : decode cX9_mth 37 = .ok (.iaload, 1) := by decide +kernel
theorem dX9_mth_38 : decode cX9_mth 38 = .ok (.if_icmp .lt 7, 3) := by decide +kernel
theorem dX9_mth_41 : decode cX9_mth 41 = .ok (.iconst 1, 1) := by decide +kernel
theorem dX9_mth_42 : decode cX9_mth 42 = .ok (.goto 4, 3) := by decide +kernel
theorem dX9_mth_45 : decode cX9_mth 45 = .ok (.iconst 0, 1) := by decide +kernel
theorem dX9_mth_46 : decode cX9_mth 46 = .ok (.iadd, 1) := by decide +kernel
theorem dX9_mth_47 : decode cX9_mth 47 = .ok (.istore 4, 2) := by decide +kernel
theorem dX9_mth_49 : decode cX9_mth 49 = .ok (.iinc 5 1, 3) := by decide +kernel
theorem dX9_mth_52 : decode cX9_mth 52 = .ok (.goto (-36), 3) := by decide +kernel
theorem dX9_mth_55 : decode cX9_mth 55 = .ok (.iload 4, 2) := by decide +kernel
theorem dX9_mth_57 : decode cX9_mth 57 = .ok (.iload_n 1, 1) := by decide +kernel
theorem dX9_mth_58 : decode cX9_mth 58 = .ok (.if_icmp .lt 22, 3) := by decide +kernel
theorem dX9_mth_61 : decode cX9_mth 61 = .ok (.aload_n 0, 1) := by decide +kernel
theorem dX9_mth_62 : decode cX9_mth 62 = .ok (.getfield 41, 3) := by decide +kernel
theorem dX9_mth_65 : decode cX9_mth 65 = .ok (.iload_n 3, 1) := by decide +kernel
theorem dX9_mth_66 : decode cX9_mth 66 = .ok (.iaload, 1) := by decide +kernel
theorem dX9_mth_67 : decode cX9_mth 67 = .ok (.iload_n 2, 1) := by decide +kernel
theorem dX9_mth_68 : decode cX9_mth 68 = .ok (.if_icmp .le 12, 3) := by decide +kernel
theorem dX9_mth_71 : decode cX9_mth 71 = .ok (.aload_n 0, 1) := by decide +kernel
theorem dX9_mth_72 : decode cX9_mth 72 = .ok (.getfield 41, 3) := by decide +kernel
theorem dX9_mth_75 : decode cX9_mth 75 = .ok (.iload_n 3, 1) := by decide +kernel
theorem dX9_mth_76 : decode cX9_mth 76 = .ok (.iaload, 1) := by decide +kernel
theorem dX9_mth_77 : decode cX9_mth 77 = .ok (.goto 4, 3) := by decide +kernel
theorem dX9_mth_80 : decode cX9_mth 80 = .ok (.iload_n 2, 1) := by decide +kernel
theorem dX9_mth_81 : decode cX9_mth 81 = .ok (.istore_n 2, 1) := by decide +kernel
theorem dX9_mth_82 : decode cX9_mth 82 = .ok (.iinc 3 1, 3) := by decide +kernel
theorem dX9_mth_85 : decode cX9_mth 85 = .ok (.goto (-81), 3) := by decide +kernel
theorem dX9_mth_88 : decode cX9_mth 88 = .ok (.iload_n 2, 1) := by decide +kernel
theorem dX9_mth_89 : decode cX9_mth 89 = .ok (.ireturn, 1) := by decide +kernel
theorem dX9_placeBefore_0 : decode cX9_placeBefore 0 = .ok (.iload_n 1, 1) := by decide +kernel
theorem dX9_placeBefore_1 : decode cX9_placeBefore 1 = .ok (.ifCond .ne 12, 3) := by decide +kernel
theorem dX9_placeBefore_4 : decode cX9_placeBefore 4 = .ok (.aload_n 0, 1) := by decide +kernel
theorem dX9_placeBefore_5 : decode cX9_placeBefore 5 = .ok (.getfield 48, 3) := by decide +kernel
theorem dX9_placeBefore_8 : decode cX9_placeBefore 8 = .ok (.iconst 1, 1) := by decide +kernel
theorem dX9_placeBefore_9 : decode cX9_placeBefore 9 = .ok (.isub, 1) := by decide +kernel
theorem dX9_placeBefore_10 : decode cX9_placeBefore 10 = .ok (.goto 6, 3) := by decide +kernel
theorem dX9_placeBefore_13 : decode cX9_placeBefore 13 = .ok (.iload_n 1, 1) := by decide +kernel
theorem dX9_placeBefore_14 : decode cX9_placeBefore 14 = .ok (.iconst 1, 1) := by decide +kernel
theorem dX9_placeBefore_15 : decode cX9_placeBefore 15 = .ok (.isub, 1) := by decide +kernel
theorem dX9_placeBefore_16 : decode cX9_placeBefore 16 = .ok (.ireturn, 1) := by decide +kernel
theorem dX9_before_0 : decode cX9_before 0 = .ok (.aload_n 0, 1) := by decide +kernel
theorem dX9_before_1 : decode cX9_before 1 = .ok (.iload_n 1, 1) := by decide +kernel
theorem dX9_before_2 : decode cX9_before 2 = .ok (.invokevirtual 78, 3) := by decide +kernel
theorem dX9_before_5 : decode cX9_before 5 = .ok (.ifCond .eq 21, 3) := by decide +kernel
theorem dX9_before_8 : decode cX9_before 8 = .ok (.aload_n 0, 1) := by decide +kernel
theorem dX9_before_9 : decode cX9_before 9 = .ok (.getfield 16, 3) := by decide +kernel
theorem dX9_before_12 : decode cX9_before 12 = .ok (.aload_n 0, 1) := by decide +kernel
theorem dX9_before_13 : decode cX9_before 13 = .ok (.aload_n 0, 1) := by decide +kernel
theorem dX9_before_14 : decode cX9_before 14 = .ok (.getfield 29, 3) := by decide +kernel
theorem dX9_before_17 : decode cX9_before 17 = .ok (.iload_n 1, 1) := by decide +kernel
theorem dX9_before_18 : decode cX9_before 18 = .ok (.iaload, 1) := by decide +kernel
theorem dX9_before_19 : decode cX9_before 19 = .ok (.invokevirtual 104, 3) := by decide +kernel
theorem dX9_before_22 : decode cX9_before 22 = .ok (.iaload, 1) := by decide +kernel
theorem dX9_before_23 : decode cX9_before 23 = .ok (.goto 4, 3) := by decide +kernel
theorem dX9_before_26 : decode cX9_before 26 = .ok (.iconst (-1), 1) := by decide +kernel
theorem dX9_before_27 : decode cX9_before 27 = .ok (.ireturn, 1) := by decide +kernel
theorem dX9_back_0 : decode cX9_back 0 = .ok (.aload_n 0, 1) := by decide +kernel
theorem dX9_back_1 : decode cX9_back 1 = .ok (.iload_n 1, 1) := by decide +kernel
theorem dX9_back_2 : decode cX9_back 2 = .ok (.invokevirtual 78, 3) := by decide +kernel
theorem dX9_back_5 : decode cX9_back 5 = .ok (.ifCond .eq 21, 3) := by decide +kernel
theorem dX9_back_8 : decode cX9_back 8 = .ok (.aload_n 0, 1) := by decide +kernel
theorem dX9_back_9 : decode cX9_back 9 = .ok (.getfield 32, 3) := by decide +kernel
theorem dX9_back_12 : decode cX9_back 12 = .ok (.aload_n 0, 1) := by decide +kernel
theorem dX9_back_13 : decode cX9_back 13 = .ok (.aload_n 0, 1) := by decide +kernel
theorem dX9_back_14 : decode cX9_back 14 = .ok (.getfield 29, 3) := by decide +kernel
theorem dX9_back_17 : decode cX9_back 17 = .ok (.iload_n 1, 1) := by decide +kernel
theorem dX9_back_18 : decode cX9_back 18 = .ok (.iaload, 1) := by decide +kernel
theorem dX9_back_19 : decode cX9_back 19 = .ok (.invokevirtual 104, 3) := by decide +kernel
theorem dX9_back_22 : decode cX9_back 22 = .ok (.iaload, 1) := by decide +kernel
theorem dX9_back_23 : decode cX9_back 23 = .ok (.goto 4, 3) := by decide +kernel
theorem dX9_back_26 : decode cX9_back 26 = .ok (.iconst (-1), 1) := by decide +kernel
theorem dX9_back_27 : decode cX9_back 27 = .ok (.ireturn, 1) := by decide +kernel
theorem dX9_steps_0 : decode cX9_steps 0 = .ok (.aload_n 0, 1) := by decide +kernel
theorem dX9_steps_1 : decode cX9_steps 1 = .ok (.iload_n 1, 1) := by decide +kernel
theorem dX9_steps_2 : decode cX9_steps 2 = .ok (.invokevirtual 78, 3) := by decide +kernel
theorem dX9_steps_5 : decode cX9_steps 5 = .ok (.ifCond .eq 14, 3) := by decide +kernel
theorem dX9_steps_8 : decode cX9_steps 8 = .ok (.iload_n 2, 1) := by decide +kernel
theorem dX9_steps_9 : decode cX9_steps 9 = .ok (.iconst 1, 1) := by decide +kernel
theorem dX9_steps_10 : decode cX9_steps 10 = .ok (.if_icmp .lt 9, 3) := by decide +kernel
theorem dX9_steps_13 : decode cX9_steps 13 = .ok (.iload_n 2, 1) := by decide +kernel
theorem dX9_steps_14 : decode cX9_steps 14 = .ok (.bipush 64, 2) := by decide +kernel
theorem dX9_steps_16 : decode cX9_steps 16 = .ok (.if_icmp .le 5, 3) := by decide +kernel
theorem dX9_steps_19 : decode cX9_steps 19 = .ok (.iconst (-1), 1) := by decide +kernel
theorem dX9_steps_20 : decode cX9_steps 20 = .ok (.ireturn, 1) := by decide +kernel
theorem dX9_steps_21 : decode cX9_steps 21 = .ok (.aload_n 0, 1) := by decide +kernel
theorem dX9_steps_22 : decode cX9_steps 22 = .ok (.getfield 29, 3) := by decide +kernel
theorem dX9_steps_25 : decode cX9_steps 25 = .ok (.iload_n 1, 1) := by decide +kernel
theorem dX9_steps_26 : decode cX9_steps 26 = .ok (.iaload, 1) := by decide +kernel
theorem dX9_steps_27 : decode cX9_steps 27 = .ok (.istore_n 3, 1) := by decide +kernel
theorem dX9_steps_28 : decode cX9_steps 28 = .ok (.iconst 0, 1) := by decide +kernel
theorem dX9_steps_29 : decode cX9_steps 29 = .ok (.istore 4, 2) := by decide +kernel
theorem dX9_steps_31 : decode cX9_steps 31 = .ok (.iload_n 3, 1) := by decide +kernel
theorem dX9_steps_32 : decode cX9_steps 32 = .ok (.iload_n 2, 1) := by decide +kernel
theorem dX9_steps_33 : decode cX9_steps 33 = .ok (.irem, 1) := by decide +kernel
theorem dX9_steps_34 : decode cX9_steps 34 = .ok (.ifCond .eq 15, 3) := by decide +kernel
theorem dX9_steps_37 : decode cX9_steps 37 = .ok (.aload_n 0, 1) := by decide +kernel
theorem dX9_steps_38 : decode cX9_steps 38 = .ok (.iload_n 3, 1) := by decide +kernel
theorem dX9_steps_39 : decode cX9_steps 39 = .ok (.invokevirtual 104, 3) := by decide +kernel
theorem dX9_steps_42 : decode cX9_steps 42 = .ok (.istore_n 3, 1) := by decide +kernel
theorem dX9_steps_43 : decode cX9_steps 43 = .ok (.iinc 4 1, 3) := by decide +kernel
theorem dX9_steps_46 : decode cX9_steps 46 = .ok (.goto (-15), 3) := by decide +kernel
theorem dX9_steps_49 : decode cX9_steps 49 = .ok (.iload 4, 2) := by decide +kernel
theorem dX9_steps_51 : decode cX9_steps 51 = .ok (.ireturn, 1) := by decide +kernel
theorem dX9_swap_0 : decode cX9_swap 0 = .ok (.aload_n 0, 1) := by decide +kernel
theorem dX9_swap_1 : decode cX9_swap 1 = .ok (.iload_n 1, 1) := by decide +kernel
theorem dX9_swap_2 : decode cX9_swap 2 = .ok (.invokevirtual 78, 3) := by decide +kernel
theorem dX9_swap_5 : decode cX9_swap 5 = .ok (.ifCond .eq 11, 3) := by decide +kernel
theorem dX9_swap_8 : decode cX9_swap 8 = .ok (.aload_n 0, 1) := by decide +kernel
theorem dX9_swap_9 : decode cX9_swap 9 = .ok (.iload_n 2, 1) := by decide +kernel
theorem dX9_swap_10 : decode cX9_swap 10 = .ok (.invokevirtual 78, 3) := by decide +kernel
theorem dX9_swap_13 : decode cX9_swap 13 = .ok (.ifCond .ne 5, 3) := by decide +kernel
theorem dX9_swap_16 : decode cX9_swap 16 = .ok (.iconst (-1), 1) := by decide +kernel
theorem dX9_swap_17 : decode cX9_swap 17 = .ok (.ireturn, 1) := by decide +kernel
theorem dX9_swap_18 : decode cX9_swap 18 = .ok (.aload_n 0, 1) := by decide +kernel
theorem dX9_swap_19 : decode cX9_swap 19 = .ok (.getfield 35, 3) := by decide +kernel
theorem dX9_swap_22 : decode cX9_swap 22 = .ok (.iload_n 1, 1) := by decide +kernel
theorem dX9_swap_23 : decode cX9_swap 23 = .ok (.iaload, 1) := by decide +kernel
theorem dX9_swap_24 : decode cX9_swap 24 = .ok (.istore_n 3, 1) := by decide +kernel
theorem dX9_swap_25 : decode cX9_swap 25 = .ok (.aload_n 0, 1) := by decide +kernel
theorem dX9_swap_26 : decode cX9_swap 26 = .ok (.getfield 35, 3) := by decide +kernel
theorem dX9_swap_29 : decode cX9_swap 29 = .ok (.iload_n 1, 1) := by decide +kernel
theorem dX9_swap_30 : decode cX9_swap 30 = .ok (.aload_n 0, 1) := by decide +kernel
theorem dX9_swap_31 : decode cX9_swap 31 = .ok (.getfield 35, 3) := by decide +kernel
theorem dX9_swap_34 : decode cX9_swap 34 = .ok (.iload_n 2, 1) := by decide +kernel
theorem dX9_swap_35 : decode cX9_swap 35 = .ok (.iaload, 1) := by decide +kernel
theorem dX9_swap_36 : decode cX9_swap 36 = .ok (.iastore, 1) := by decide +kernel
theorem dX9_swap_37 : decode cX9_swap 37 = .ok (.aload_n 0, 1) := by decide +kernel
theorem dX9_swap_38 : decode cX9_swap 38 = .ok (.getfield 35, 3) := by decide +kernel
theorem dX9_swap_41 : decode cX9_swap 41 = .ok (.iload_n 2, 1) := by decide +kernel
theorem dX9_swap_42 : decode cX9_swap 42 = .ok (.iload_n 3, 1) := by decide +kernel
theorem dX9_swap_43 : decode cX9_swap 43 = .ok (.iastore, 1) := by decide +kernel
theorem dX9_swap_44 : decode cX9_swap 44 = .ok (.iconst 1, 1) := by decide +kernel
theorem dX9_swap_45 : decode cX9_swap 45 = .ok (.ireturn, 1) := by decide +kernel
theorem dX9_tell_0 : decode cX9_tell 0 = .ok (.aload_n 0, 1) := by decide +kernel
theorem dX9_tell_1 : decode cX9_tell 1 = .ok (.iload_n 1, 1) := by decide +kernel
theorem dX9_tell_2 : decode cX9_tell 2 = .ok (.invokevirtual 78, 3) := by decide +kernel
theorem dX9_tell_5 : decode cX9_tell 5 = .ok (.ifCond .ne 5, 3) := by decide +kernel
theorem dX9_tell_8 : decode cX9_tell 8 = .ok (.iconst (-1), 1) := by decide +kernel
theorem dX9_tell_9 : decode cX9_tell 9 = .ok (.ireturn, 1) := by decide +kernel
theorem dX9_tell_10 : decode cX9_tell 10 = .ok (.aload_n 0, 1) := by decide +kernel
theorem dX9_tell_11 : decode cX9_tell 11 = .ok (.getfield 35, 3) := by decide +kernel
theorem dX9_tell_14 : decode cX9_tell 14 = .ok (.iload_n 1, 1) := by decide +kernel
theorem dX9_tell_15 : decode cX9_tell 15 = .ok (.iaload, 1) := by decide +kernel
theorem dX9_tell_16 : decode cX9_tell 16 = .ok (.istore_n 3, 1) := by decide +kernel
theorem dX9_tell_17 : decode cX9_tell 17 = .ok (.aload_n 0, 1) := by decide +kernel
theorem dX9_tell_18 : decode cX9_tell 18 = .ok (.getfield 35, 3) := by decide +kernel
theorem dX9_tell_21 : decode cX9_tell 21 = .ok (.iload_n 1, 1) := by decide +kernel
theorem dX9_tell_22 : decode cX9_tell 22 = .ok (.iload_n 2, 1) := by decide +kernel
theorem dX9_tell_23 : decode cX9_tell 23 = .ok (.iastore, 1) := by decide +kernel
theorem dX9_tell_24 : decode cX9_tell 24 = .ok (.iload_n 3, 1) := by decide +kernel
theorem dX9_tell_25 : decode cX9_tell 25 = .ok (.ireturn, 1) := by decide +kernel
theorem dX9_judge_0 : decode cX9_judge 0 = .ok (.iconst 0, 1) := by decide +kernel
theorem dX9_judge_1 : decode cX9_judge 1 = .ok (.istore_n 1, 1) := by decide +kernel
theorem dX9_judge_2 : decode cX9_judge 2 = .ok (.iload_n 1, 1) := by decide +kernel
theorem dX9_judge_3 : decode cX9_judge 3 = .ok (.aload_n 0, 1) := by decide +kernel
theorem dX9_judge_4 : decode cX9_judge 4 = .ok (.getfield 48, 3) := by decide +kernel
theorem dX9_judge_7 : decode cX9_judge 7 = .ok (.if_icmp .ge 16, 3) := by decide +kernel
theorem dX9_judge_10 : decode cX9_judge 10 = .ok (.aload_n 0, 1) := by decide +kernel
theorem dX9_judge_11 : decode cX9_judge 11 = .ok (.getfield 44, 3) := by decide +kernel
theorem dX9_judge_14 : decode cX9_judge 14 = .ok (.iload_n 1, 1) := by decide +kernel
theorem dX9_judge_15 : decode cX9_judge 15 = .ok (.iconst 0, 1) := by decide +kernel
theorem dX9_judge_16 : decode cX9_judge 16 = .ok (.bastore, 1) := by decide +kernel
theorem dX9_judge_17 : decode cX9_judge 17 = .ok (.iinc 1 1, 3) := by decide +kernel
theorem dX9_judge_20 : decode cX9_judge 20 = .ok (.goto (-18), 3) := by decide +kernel
theorem dX9_judge_23 : decode cX9_judge 23 = .ok (.iconst 0, 1) := by decide +kernel
theorem dX9_judge_24 : decode cX9_judge 24 = .ok (.istore_n 1, 1) := by decide +kernel
theorem dX9_judge_25 : decode cX9_judge 25 = .ok (.iload_n 1, 1) := by decide +kernel
theorem dX9_judge_26 : decode cX9_judge 26 = .ok (.aload_n 0, 1) := by decide +kernel
theorem dX9_judge_27 : decode cX9_judge 27 = .ok (.getfield 48, 3) := by decide +kernel
theorem dX9_judge_30 : decode cX9_judge 30 = .ok (.if_icmp .ge 68, 3) := by decide +kernel
theorem dX9_judge_33 : decode cX9_judge 33 = .ok (.aload_n 0, 1) := by decide +kernel
theorem dX9_judge_34 : decode cX9_judge 34 = .ok (.getfield 35, 3) := by decide +kernel
theorem dX9_judge_37 : decode cX9_judge 37 = .ok (.iload_n 1, 1) := by decide +kernel
theorem dX9_judge_38 : decode cX9_judge 38 = .ok (.iaload, 1) := by decide +kernel
theorem dX9_judge_39 : decode cX9_judge 39 = .ok (.istore_n 2, 1) := by decide +kernel
theorem dX9_judge_40 : decode cX9_judge 40 = .ok (.aload_n 0, 1) := by decide +kernel
theorem dX9_judge_41 : decode cX9_judge 41 = .ok (.iload_n 2, 1) := by decide +kernel
theorem dX9_judge_42 : decode cX9_judge 42 = .ok (.invokevirtual 78, 3) := by decide +kernel
theorem dX9_judge_45 : decode cX9_judge 45 = .ok (.ifCond .eq 38, 3) := by decide +kernel
theorem dX9_judge_48 : decode cX9_judge 48 = .ok (.aload_n 0, 1) := by decide +kernel
theorem dX9_judge_49 : decode cX9_judge 49 = .ok (.getfield 44, 3) := by decide +kernel
theorem dX9_judge_52 : decode cX9_judge 52 = .ok (.iload_n 2, 1) := by decide +kernel
theorem dX9_judge_53 : decode cX9_judge 53 = .ok (.baload, 1) := by decide +kernel
theorem dX9_judge_54 : decode cX9_judge 54 = .ok (.ifCond .ne 29, 3) := by decide +kernel
theorem dX9_judge_57 : decode cX9_judge 57 = .ok (.iload_n 1, 1) := by decide +kernel
theorem dX9_judge_58 : decode cX9_judge 58 = .ok (.ifCond .le 27, 3) := by decide +kernel
theorem dX9_judge_61 : decode cX9_judge 61 = .ok (.aload_n 0, 1) := by decide +kernel
theorem dX9_judge_62 : decode cX9_judge 62 = .ok (.getfield 32, 3) := by decide +kernel
theorem dX9_judge_65 : decode cX9_judge 65 = .ok (.aload_n 0, 1) := by decide +kernel
theorem dX9_judge_66 : decode cX9_judge 66 = .ok (.getfield 35, 3) := by decide +kernel
theorem dX9_judge_69 : decode cX9_judge 69 = .ok (.iload_n 1, 1) := by decide +kernel
theorem dX9_judge_70 : decode cX9_judge 70 = .ok (.iconst 1, 1) := by decide +kernel
theorem dX9_judge_71 : decode cX9_judge 71 = .ok (.isub, 1) := by decide +kernel
theorem dX9_judge_72 : decode cX9_judge 72 = .ok (.iaload, 1) := by decide +kernel
theorem dX9_judge_73 : decode cX9_judge 73 = .ok (.iaload, 1) := by decide +kernel
theorem dX9_judge_74 : decode cX9_judge 74 = .ok (.aload_n 0, 1) := by decide +kernel
theorem dX9_judge_75 : decode cX9_judge 75 = .ok (.getfield 32, 3) := by decide +kernel
theorem dX9_judge_78 : decode cX9_judge 78 = .ok (.iload_n 2, 1) := by decide +kernel
theorem dX9_judge_79 : decode cX9_judge 79 = .ok (.iaload, 1) := by decide +kernel
theorem dX9_judge_80 : decode cX9_judge 80 = .ok (.if_icmp .le 5, 3) := by decide +kernel
theorem dX9_judge_83 : decode cX9_judge 83 = .ok (.iload_n 1, 1) := by decide +kernel
theorem dX9_judge_84 : decode cX9_judge 84 = .ok (.ireturn, 1) := by decide +kernel
theorem dX9_judge_85 : decode cX9_judge 85 = .ok (.aload_n 0, 1) := by decide +kernel
theorem dX9_judge_86 : decode cX9_judge 86 = .ok (.getfield 44, 3) := by decide +kernel
theorem dX9_judge_89 : decode cX9_judge 89 = .ok (.iload_n 2, 1) := by decide +kernel
theorem dX9_judge_90 : decode cX9_judge 90 = .ok (.iconst 1, 1) := by decide +kernel
theorem dX9_judge_91 : decode cX9_judge 91 = .ok (.bastore, 1) := by decide +kernel
theorem dX9_judge_92 : decode cX9_judge 92 = .ok (.iinc 1 1, 3) := by decide +kernel
theorem dX9_judge_95 : decode cX9_judge 95 = .ok (.goto (-70), 3) := by decide +kernel
theorem dX9_judge_98 : decode cX9_judge 98 = .ok (.aload_n 0, 1) := by decide +kernel
theorem dX9_judge_99 : decode cX9_judge 99 = .ok (.getfield 48, 3) := by decide +kernel
theorem dX9_judge_102 : decode cX9_judge 102 = .ok (.ireturn, 1) := by decide +kernel
