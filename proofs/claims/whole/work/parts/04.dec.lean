theorem dX4_init_0 : decode cX4_init 0 = .ok (.aload_n 0, 1) := by decide +kernel
theorem dX4_init_1 : decode cX4_init 1 = .ok (.invokespecial 3, 3) := by decide +kernel
theorem dX4_init_4 : decode cX4_init 4 = .ok (.aload_n 0, 1) := by decide +kernel
theorem dX4_init_5 : decode cX4_init 5 = .ok (.sipush 408, 3) := by decide +kernel
theorem dX4_init_8 : decode cX4_init 8 = .ok (.newarray .int, 2) := by decide +kernel
theorem dX4_init_10 : decode cX4_init 10 = .ok (.putfield 9, 3) := by decide +kernel
theorem dX4_init_13 : decode cX4_init 13 = .ok (.aload_n 0, 1) := by decide +kernel
theorem dX4_init_14 : decode cX4_init 14 = .ok (.sipush 816, 3) := by decide +kernel
theorem dX4_init_17 : decode cX4_init 17 = .ok (.newarray .int, 2) := by decide +kernel
theorem dX4_init_19 : decode cX4_init 19 = .ok (.putfield 15, 3) := by decide +kernel
theorem dX4_init_22 : decode cX4_init 22 = .ok (.aload_n 0, 1) := by decide +kernel
theorem dX4_init_23 : decode cX4_init 23 = .ok (.sipush 816, 3) := by decide +kernel
theorem dX4_init_26 : decode cX4_init 26 = .ok (.newarray .boolean, 2) := by decide +kernel
theorem dX4_init_28 : decode cX4_init 28 = .ok (.putfield 18, 3) := by decide +kernel
theorem dX4_init_31 : decode cX4_init 31 = .ok (.aload_n 0, 1) := by decide +kernel
theorem dX4_init_32 : decode cX4_init 32 = .ok (.sipush 816, 3) := by decide +kernel
theorem dX4_init_35 : decode cX4_init 35 = .ok (.newarray .int, 2) := by decide +kernel
theorem dX4_init_37 : decode cX4_init 37 = .ok (.putfield 22, 3) := by decide +kernel
theorem dX4_init_40 : decode cX4_init 40 = .ok (.aload_n 0, 1) := by decide +kernel
theorem dX4_init_41 : decode cX4_init 41 = .ok (.bipush 11, 2) := by decide +kernel
theorem dX4_init_43 : decode cX4_init 43 = .ok (.newarray .int, 2) := by decide +kernel
theorem dX4_init_45 : decode cX4_init 45 = .ok (.putfield 25, 3) := by decide +kernel
theorem dX4_init_48 : decode cX4_init 48 = .ok (.aload_n 0, 1) := by decide +kernel
theorem dX4_init_49 : decode cX4_init 49 = .ok (.bipush 11, 2) := by decide +kernel
theorem dX4_init_51 : decode cX4_init 51 = .ok (.newarray .int, 2) := by decide +kernel
theorem dX4_init_53 : decode cX4_init 53 = .ok (.putfield 28, 3) := by decide +kernel
theorem dX4_init_56 : decode cX4_init 56 = .ok (.aload_n 0, 1) := by decide +kernel
theorem dX4_init_57 : decode cX4_init 57 = .ok (.bipush 11, 2) := by decide +kernel
theorem dX4_init_59 : decode cX4_init 59 = .ok (.newarray .int, 2) := by decide +kernel
theorem dX4_init_61 : decode cX4_init 61 = .ok (.putfield 31, 3) := by decide +kernel
theorem dX4_init_64 : decode cX4_init 64 = .ok (.aload_n 0, 1) := by decide +kernel
theorem dX4_init_65 : decode cX4_init 65 = .ok (.sipush 408, 3) := by decide +kernel
theorem dX4_init_68 : decode cX4_init 68 = .ok (.newarray .int, 2) := by decide +kernel
theorem dX4_init_70 : decode cX4_init 70 = .ok (.putfield 34, 3) := by decide +kernel
theorem dX4_init_73 : decode cX4_init 73 = .ok (.aload_n 0, 1) := by decide +kernel
theorem dX4_init_74 : decode cX4_init 74 = .ok (.sipush 408, 3) := by decide +kernel
theorem dX4_init_77 : decode cX4_init 77 = .ok (.newarray .int, 2) := by decide +kernel
theorem dX4_init_79 : decode cX4_init 79 = .ok (.putfield 37, 3) := by decide +kernel
theorem dX4_init_82 : decode cX4_init 82 = .ok (.aload_n 0, 1) := by decide +kernel
theorem dX4_init_83 : decode cX4_init 83 = .ok (.sipush 1009, 3) := by decide +kernel
theorem dX4_init_86 : decode cX4_init 86 = .ok (.newarray .int, 2) := by decide +kernel
theorem dX4_init_88 : decode cX4_init 88 = .ok (.putfield 40, 3) := by decide +kernel
theorem dX4_init_91 : decode cX4_init 91 = .ok (.aload_n 0, 1) := by decide +kernel
theorem dX4_init_92 : decode cX4_init 92 = .ok (.sipush 1008, 3) := by decide +kernel
theorem dX4_init_95 : decode cX4_init 95 = .ok (.newarray .int, 2) := by decide +kernel
theorem dX4_init_97 : decode cX4_init 97 = .ok (.putfield 43, 3) := by decide +kernel
theorem dX4_init_100 : decode cX4_init 100 = .ok (.return_, 1) := by decide +kernel
theorem dX4_sort_0 : decode cX4_sort 0 = .ok (.aload_n 1, 1) := by decide +kernel
theorem dX4_sort_1 : decode cX4_sort 1 = .ok (.iconst 0, 1) := by decide +kernel
theorem dX4_sort_2 : decode cX4_sort 2 = .ok (.aload_n 0, 1) := by decide +kernel
theorem dX4_sort_3 : decode cX4_sort 3 = .ok (.getfield 15, 3) := by decide +kernel
theorem dX4_sort_6 : decode cX4_sort 6 = .ok (.iconst 0, 1) := by decide +kernel
theorem dX4_sort_7 : decode cX4_sort 7 = .ok (.iload_n 2, 1) := by decide +kernel
theorem dX4_sort_8 : decode cX4_sort 8 = .ok (.invokestatic 46, 3) := by decide +kernel
theorem dX4_sort_11 : decode cX4_sort 11 = .ok (.aload_n 0, 1) := by decide +kernel
theorem dX4_sort_12 : decode cX4_sort 12 = .ok (.getfield 25, 3) := by decide +kernel
theorem dX4_sort_15 : decode cX4_sort 15 = .ok (.iconst 0, 1) := by decide +kernel
theorem dX4_sort_16 : decode cX4_sort 16 = .ok (.iconst 0, 1) := by decide +kernel
theorem dX4_sort_17 : decode cX4_sort 17 = .ok (.iastore, 1) := by decide +kernel
theorem dX4_sort_18 : decode cX4_sort 18 = .ok (.aload_n 0, 1) := by decide +kernel
theorem dX4_sort_19 : decode cX4_sort 19 = .ok (.getfield 28, 3) := by decide +kernel
theorem dX4_sort_22 : decode cX4_sort 22 = .ok (.iconst 0, 1) := by decide +kernel
theorem dX4_sort_23 : decode cX4_sort 23 = .ok (.iload_n 2, 1) := by decide +kernel
theorem dX4_sort_24 : decode cX4_sort 24 = .ok (.iastore, 1) := by decide +kernel
theorem dX4_sort_25 : decode cX4_sort 25 = .ok (.aload_n 0, 1) := by decide +kernel
theorem dX4_sort_26 : decode cX4_sort 26 = .ok (.getfield 31, 3) := by decide +kernel
theorem dX4_sort_29 : decode cX4_sort 29 = .ok (.iconst 0, 1) := by decide +kernel
theorem dX4_sort_30 : decode cX4_sort 30 = .ok (.sipush 1008, 3) := by decide +kernel
theorem dX4_sort_33 : decode cX4_sort 33 = .ok (.iastore, 1) := by decide +kernel
theorem dX4_sort_34 : decode cX4_sort 34 = .ok (.iconst 0, 1) := by decide +kernel
theorem dX4_sort_35 : decode cX4_sort 35 = .ok (.istore_n 3, 1) := by decide +kernel
theorem dX4_sort_36 : decode cX4_sort 36 = .ok (.aload_n 0, 1) := by decide +kernel
theorem dX4_sort_37 : decode cX4_sort 37 = .ok (.iconst 0, 1) := by decide +kernel
theorem dX4_sort_38 : decode cX4_sort 38 = .ok (.invokevirtual 52, 3) := by decide +kernel
theorem dX4_sort_41 : decode cX4_sort 41 = .ok (.iload_n 3, 1) := by decide +kernel
theorem dX4_sort_42 : decode cX4_sort 42 = .ok (.iconst 1, 1) := by decide +kernel
theorem dX4_sort_43 : decode cX4_sort 43 = .ok (.iadd, 1) := by decide +kernel
theorem dX4_sort_44 : decode cX4_sort 44 = .ok (.bipush 10, 2) := by decide +kernel
theorem dX4_sort_46 : decode cX4_sort 46 = .ok (.if_icmp .ge 33, 3) := by decide +kernel
theorem dX4_sort_49 : decode cX4_sort 49 = .ok (.aload_n 0, 1) := by decide +kernel
theorem dX4_sort_50 : decode cX4_sort 50 = .ok (.getfield 31, 3) := by decide +kernel
theorem dX4_sort_53 : decode cX4_sort 53 = .ok (.iload_n 3, 1) := by decide +kernel
theorem dX4_sort_54 : decode cX4_sort 54 = .ok (.iconst 1, 1) := by decide +kernel
theorem dX4_sort_55 : decode cX4_sort 55 = .ok (.iadd, 1) := by decide +kernel
theorem dX4_sort_56 : decode cX4_sort 56 = .ok (.iaload, 1) := by decide +kernel
theorem dX4_sort_57 : decode cX4_sort 57 = .ok (.aload_n 0, 1) := by decide +kernel
theorem dX4_sort_58 : decode cX4_sort 58 = .ok (.getfield 28, 3) := by decide +kernel
theorem dX4_sort_61 : decode cX4_sort 61 = .ok (.iload_n 3, 1) := by decide +kernel
theorem dX4_sort_62 : decode cX4_sort 62 = .ok (.iconst 1, 1) := by decide +kernel
theorem dX4_sort_63 : decode cX4_sort 63 = .ok (.iadd, 1) := by decide +kernel
theorem dX4_sort_64 : decode cX4_sort 64 = .ok (.iaload, 1) := by decide +kernel
theorem dX4_sort_65 : decode cX4_sort 65 = .ok (.if_icmp .ge 14, 3) := by decide +kernel
theorem dX4_sort_68 : decode cX4_sort 68 = .ok (.iinc 3 1, 3) := by decide +kernel
theorem dX4_sort_71 : decode cX4_sort 71 = .ok (.aload_n 0, 1) := by decide +kernel
theorem dX4_sort_72 : decode cX4_sort 72 = .ok (.iload_n 3, 1) := by decide +kernel
theorem dX4_sort_73 : decode cX4_sort 73 = .ok (.invokevirtual 52, 3) := by decide +kernel
theorem dX4_sort_76 : decode cX4_sort 76 = .ok (.goto (-35), 3) := by decide +kernel
theorem dX4_sort_79 : decode cX4_sort 79 = .ok (.aload_n 0, 1) := by decide +kernel
theorem dX4_sort_80 : decode cX4_sort 80 = .ok (.iload_n 3, 1) := by decide +kernel
theorem dX4_sort_81 : decode cX4_sort 81 = .ok (.iconst 1, 1) := by decide +kernel
theorem dX4_sort_82 : decode cX4_sort 82 = .ok (.iadd, 1) := by decide +kernel
theorem dX4_sort_83 : decode cX4_sort 83 = .ok (.invokevirtual 56, 3) := by decide +kernel
theorem dX4_sort_86 : decode cX4_sort 86 = .ok (.iload_n 3, 1) := by decide +kernel
theorem dX4_sort_87 : decode cX4_sort 87 = .ok (.ifCond .lt 14, 3) := by decide +kernel
theorem dX4_sort_90 : decode cX4_sort 90 = .ok (.aload_n 0, 1) := by decide +kernel
theorem dX4_sort_91 : decode cX4_sort 91 = .ok (.iload_n 3, 1) := by decide +kernel
theorem dX4_sort_92 : decode cX4_sort 92 = .ok (.invokevirtual 59, 3) := by decide +kernel
theorem dX4_sort_95 : decode cX4_sort 95 = .ok (.iinc 3 (-1), 3) := by decide +kernel
theorem dX4_sort_98 : decode cX4_sort 98 = .ok (.goto (-12), 3) := by decide +kernel
theorem dX4_sort_101 : decode cX4_sort 101 = .ok (.return_, 1) := by decide +kernel
theorem dX4_makeLevelBelow_0 : decode cX4_makeLevelBelow 0 = .ok (.aload_n 0, 1) := by decide +kernel
theorem dX4_makeLevelBelow_1 : decode cX4_makeLevelBelow 1 = .ok (.iload_n 1, 1) := by decide +kernel
theorem dX4_makeLevelBelow_2 : decode cX4_makeLevelBelow 2 = .ok (.invokevirtual 62, 3) := by decide +kernel
theorem dX4_makeLevelBelow_5 : decode cX4_makeLevelBelow 5 = .ok (.aload_n 0, 1) := by decide +kernel
theorem dX4_makeLevelBelow_6 : decode cX4_makeLevelBelow 6 = .ok (.getfield 25, 3) := by decide +kernel
theorem dX4_makeLevelBelow_9 : decode cX4_makeLevelBelow 9 = .ok (.iload_n 1, 1) := by decide +kernel
theorem dX4_makeLevelBelow_10 : decode cX4_makeLevelBelow 10 = .ok (.iaload, 1) := by decide +kernel
theorem dX4_makeLevelBelow_11 : decode cX4_makeLevelBelow 11 = .ok (.aload_n 0, 1) := by decide +kernel
theorem dX4_makeLevelBelow_12 : decode cX4_makeLevelBelow 12 = .ok (.getfield 28, 3) := by decide +kernel
theorem dX4_makeLevelBelow_15 : decode cX4_makeLevelBelow 15 = .ok (.iload_n 1, 1) := by decide +kernel
theorem dX4_makeLevelBelow_16 : decode cX4_makeLevelBelow 16 = .ok (.iaload, 1) := by decide +kernel
theorem dX4_makeLevelBelow_17 : decode cX4_makeLevelBelow 17 = .ok (.iadd, 1) := by decide +kernel
theorem dX4_makeLevelBelow_18 : decode cX4_makeLevelBelow 18 = .ok (.istore_n 2, 1) := by decide +kernel
theorem dX4_makeLevelBelow_19 : decode cX4_makeLevelBelow 19 = .ok (.aload_n 0, 1) := by decide +kernel
theorem dX4_makeLevelBelow_20 : decode cX4_makeLevelBelow 20 = .ok (.iload_n 1, 1) := by decide +kernel
theorem dX4_makeLevelBelow_21 : decode cX4_makeLevelBelow 21 = .ok (.iload_n 2, 1) := by decide +kernel
theorem dX4_makeLevelBelow_22 : decode cX4_makeLevelBelow 22 = .ok (.invokevirtual 65, 3) := by decide +kernel
theorem dX4_makeLevelBelow_25 : decode cX4_makeLevelBelow 25 = .ok (.istore_n 3, 1) := by decide +kernel
theorem dX4_makeLevelBelow_26 : decode cX4_makeLevelBelow 26 = .ok (.aload_n 0, 1) := by decide +kernel
theorem dX4_makeLevelBelow_27 : decode cX4_makeLevelBelow 27 = .ok (.getfield 22, 3) := by decide +kernel
theorem dX4_makeLevelBelow_30 : decode cX4_makeLevelBelow 30 = .ok (.iload_n 2, 1) := by decide +kernel
theorem dX4_makeLevelBelow_31 : decode cX4_makeLevelBelow 31 = .ok (.aload_n 0, 1) := by decide +kernel
theorem dX4_makeLevelBelow_32 : decode cX4_makeLevelBelow 32 = .ok (.getfield 34, 3) := by decide +kernel
theorem dX4_makeLevelBelow_35 : decode cX4_makeLevelBelow 35 = .ok (.iconst 0, 1) := by decide +kernel
theorem dX4_makeLevelBelow_36 : decode cX4_makeLevelBelow 36 = .ok (.iload_n 3, 1) := by decide +kernel
theorem dX4_makeLevelBelow_37 : decode cX4_makeLevelBelow 37 = .ok (.invokestatic 46, 3) := by decide +kernel
theorem dX4_makeLevelBelow_40 : decode cX4_makeLevelBelow 40 = .ok (.aload_n 0, 1) := by decide +kernel
theorem dX4_makeLevelBelow_41 : decode cX4_makeLevelBelow 41 = .ok (.iload_n 1, 1) := by decide +kernel
theorem dX4_makeLevelBelow_42 : decode cX4_makeLevelBelow 42 = .ok (.iload_n 3, 1) := by decide +kernel
theorem dX4_makeLevelBelow_43 : decode cX4_makeLevelBelow 43 = .ok (.invokevirtual 69, 3) := by decide +kernel
theorem dX4_makeLevelBelow_46 : decode cX4_makeLevelBelow 46 = .ok (.aload_n 0, 1) := by decide +kernel
theorem dX4_makeLevelBelow_47 : decode cX4_makeLevelBelow 47 = .ok (.getfield 25, 3) := by decide +kernel
theorem dX4_makeLevelBelow_50 : decode cX4_makeLevelBelow 50 = .ok (.iload_n 1, 1) := by decide +kernel
theorem dX4_makeLevelBelow_51 : decode cX4_makeLevelBelow 51 = .ok (.iconst 1, 1) := by decide +kernel
theorem dX4_makeLevelBelow_52 : decode cX4_makeLevelBelow 52 = .ok (.iadd, 1) := by decide +kernel
theorem dX4_makeLevelBelow_53 : decode cX4_makeLevelBelow 53 = .ok (.iload_n 2, 1) := by decide +kernel
theorem dX4_makeLevelBelow_54 : decode cX4_makeLevelBelow 54 = .ok (.iastore, 1) := by decide +kernel
theorem dX4_makeLevelBelow_55 : decode cX4_makeLevelBelow 55 = .ok (.aload_n 0, 1) := by decide +kernel
theorem dX4_makeLevelBelow_56 : decode cX4_makeLevelBelow 56 = .ok (.getfield 28, 3) := by decide +kernel
theorem dX4_makeLevelBelow_59 : decode cX4_makeLevelBelow 59 = .ok (.iload_n 1, 1) := by decide +kernel
theorem dX4_makeLevelBelow_60 : decode cX4_makeLevelBelow 60 = .ok (.iconst 1, 1) := by decide +kernel
theorem dX4_makeLevelBelow_61 : decode cX4_makeLevelBelow 61 = .ok (.iadd, 1) := by decide +kernel
theorem dX4_makeLevelBelow_62 : decode cX4_makeLevelBelow 62 = .ok (.iload_n 3, 1) := by decide +kernel
theorem dX4_makeLevelBelow_63 : decode cX4_makeLevelBelow 63 = .ok (.iastore, 1) := by decide +kernel
theorem dX4_makeLevelBelow_64 : decode cX4_makeLevelBelow 64 = .ok (.aload_n 0, 1) := by decide +kernel
theorem dX4_makeLevelBelow_65 : decode cX4_makeLevelBelow 65 = .ok (.getfield 31, 3) := by decide +kernel
theorem dX4_makeLevelBelow_68 : decode cX4_makeLevelBelow 68 = .ok (.iload_n 1, 1) := by decide +kernel
theorem dX4_makeLevelBelow_69 : decode cX4_makeLevelBelow 69 = .ok (.iconst 1, 1) := by decide +kernel
theorem dX4_makeLevelBelow_70 : decode cX4_makeLevelBelow 70 = .ok (.iadd, 1) := by decide +kernel
theorem dX4_makeLevelBelow_71 : decode cX4_makeLevelBelow 71 = .ok (.aload_n 0, 1) := by decide +kernel
theorem dX4_makeLevelBelow_72 : decode cX4_makeLevelBelow 72 = .ok (.iload_n 1, 1) := by decide +kernel
theorem dX4_makeLevelBelow_73 : decode cX4_makeLevelBelow 73 = .ok (.invokevirtual 73, 3) := by decide +kernel
theorem dX4_makeLevelBelow_76 : decode cX4_makeLevelBelow 76 = .ok (.iastore, 1) := by decide +kernel
theorem dX4_makeLevelBelow_77 : decode cX4_makeLevelBelow 77 = .ok (.iconst 0, 1) := by decide +kernel
theorem dX4_makeLevelBelow_78 : decode cX4_makeLevelBelow 78 = .ok (.istore 4, 2) := by decide +kernel
theorem dX4_makeLevelBelow_80 : decode cX4_makeLevelBelow 80 = .ok (.iload 4, 2) := by decide +kernel
theorem dX4_makeLevelBelow_82 : decode cX4_makeLevelBelow 82 = .ok (.iload_n 3, 1) := by decide +kernel
theorem dX4_makeLevelBelow_83 : decode cX4_makeLevelBelow 83 = .ok (.if_icmp .ge 32, 3) := by decide +kernel
theorem dX4_makeLevelBelow_86 : decode cX4_makeLevelBelow 86 = .ok (.aload_n 0, 1) := by decide +kernel
theorem dX4_makeLevelBelow_87 : decode cX4_makeLevelBelow 87 = .ok (.getfield 15, 3) := by decide +kernel
theorem dX4_makeLevelBelow_90 : decode cX4_makeLevelBelow 90 = .ok (.iload_n 2, 1) := by decide +kernel
theorem dX4_makeLevelBelow_91 : decode cX4_makeLevelBelow 91 = .ok (.iload 4, 2) := by decide +kernel
theorem dX4_makeLevelBelow_93 : decode cX4_makeLevelBelow 93 = .ok (.iadd, 1) := by decide +kernel
theorem dX4_makeLevelBelow_94 : decode cX4_makeLevelBelow 94 = .ok (.aload_n 0, 1) := by decide +kernel
theorem dX4_makeLevelBelow_95 : decode cX4_makeLevelBelow 95 = .ok (.getfield 37, 3) := by decide +kernel
theorem dX4_makeLevelBelow_98 : decode cX4_makeLevelBelow 98 = .ok (.aload_n 0, 1) := by decide +kernel
theorem dX4_makeLevelBelow_99 : decode cX4_makeLevelBelow 99 = .ok (.getfield 22, 3) := by decide +kernel
theorem dX4_makeLevelBelow_102 : decode cX4_makeLevelBelow 102 = .ok (.iload_n 2, 1) := by decide +kernel
theorem dX4_makeLevelBelow_103 : decode cX4_makeLevelBelow 103 = .ok (.iload 4, 2) := by decide +kernel
theorem dX4_makeLevelBelow_105 : decode cX4_makeLevelBelow 105 = .ok (.iadd, 1) := by decide +kernel
theorem dX4_makeLevelBelow_106 : decode cX4_makeLevelBelow 106 = .ok (.iaload, 1) := by decide +kernel
theorem dX4_makeLevelBelow_107 : decode cX4_makeLevelBelow 107 = .ok (.iaload, 1) := by decide +kernel
theorem dX4_makeLevelBelow_108 : decode cX4_makeLevelBelow 108 = .ok (.iastore, 1) := by decide +kernel
theorem dX4_makeLevelBelow_109 : decode cX4_makeLevelBelow 109 = .ok (.iinc 4 1, 3) := by decide +kernel
theorem dX4_makeLevelBelow_112 : decode cX4_makeLevelBelow 112 = .ok (.goto (-32), 3) := by decide +kernel
theorem dX4_makeLevelBelow_115 : decode cX4_makeLevelBelow 115 = .ok (.return_, 1) := by decide +kernel
theorem dX4_markRises_0 : decode cX4_markRises 0 = .ok (.aload_n 0, 1) := by decide +kernel
theorem dX4_markRises_1 : decode cX4_markRises 1 = .ok (.getfield 25, 3) := by decide +kernel
theorem dX4_markRises_4 : decode cX4_markRises 4 = .ok (.iload_n 1, 1) := by decide +kernel
theorem dX4_markRises_5 : decode cX4_markRises 5 = .ok (.iaload, 1) := by decide +kernel
theorem dX4_markRises_6 : decode cX4_markRises 6 = .ok (.istore_n 2, 1) := by decide +kernel
theorem dX4_markRises_7 : decode cX4_markRises 7 = .ok (.iconst 0, 1) := by decide +kernel
theorem dX4_markRises_8 : decode cX4_markRises 8 = .ok (.istore_n 3, 1) := by decide +kernel
theorem dX4_markRises_9 : decode cX4_markRises 9 = .ok (.aload_n 0, 1) := by decide +kernel
theorem dX4_markRises_10 : decode cX4_markRises 10 = .ok (.getfield 28, 3) := by decide +kernel
theorem dX4_markRises_13 : decode cX4_markRises 13 = .ok (.iload_n 1, 1) := by decide +kernel
theorem dX4_markRises_14 : decode cX4_markRises 14 = .ok (.iaload, 1) := by decide +kernel
theorem dX4_markRises_15 : decode cX4_markRises 15 = .ok (.iconst 1, 1) := by decide +kernel
theorem dX4_markRises_16 : decode cX4_markRises 16 = .ok (.isub, 1) := by decide +kernel
theorem dX4_markRises_17 : decode cX4_markRises 17 = .ok (.istore 4, 2) := by decide +kernel
theorem dX4_markRises_19 : decode cX4_markRises 19 = .ok (.iload 4, 2) := by decide +kernel
theorem dX4_markRises_21 : decode cX4_markRises 21 = .ok (.ifCond .lt 84, 3) := by decide +kernel
theorem dX4_markRises_24 : decode cX4_markRises 24 = .ok (.iload 4, 2) := by decide +kernel
theorem dX4_markRises_26 : decode cX4_markRises 26 = .ok (.iconst 1, 1) := by decide +kernel
theorem dX4_markRises_27 : decode cX4_markRises 27 = .ok (.iadd, 1) := by decide +kernel
theorem dX4_markRises_28 : decode cX4_markRises 28 = .ok (.aload_n 0, 1) := by decide +kernel
theorem dX4_markRises_29 : decode cX4_markRises 29 = .ok (.getfield 28, 3) := by decide +kernel
theorem dX4_markRises_32 : decode cX4_markRises 32 = .ok (.iload_n 1, 1) := by decide +kernel
theorem dX4_markRises_33 : decode cX4_markRises 33 = .ok (.iaload, 1) := by decide +kernel
theorem dX4_markRises_34 : decode cX4_markRises 34 = .ok (.if_icmp .ge 55, 3) := by decide +kernel
theorem dX4_markRises_37 : decode cX4_markRises 37 = .ok (.aload_n 0, 1) := by decide +kernel
theorem dX4_markRises_38 : decode cX4_markRises 38 = .ok (.getfield 15, 3) := by decide +kernel
theorem dX4_markRises_41 : decode cX4_markRises 41 = .ok (.iload_n 2, 1) := by decide +kernel
theorem dX4_markRises_42 : decode cX4_markRises 42 = .ok (.iload 4, 2) := by decide +kernel
theorem dX4_markRises_44 : decode cX4_markRises 44 = .ok (.iadd, 1) := by decide +kernel
theorem dX4_markRises_45 : decode cX4_markRises 45 = .ok (.iaload, 1) := by decide +kernel
theorem dX4_markRises_46 : decode cX4_markRises 46 = .ok (.aload_n 0, 1) := by decide +kernel
theorem dX4_markRises_47 : decode cX4_markRises 47 = .ok (.getfield 15, 3) := by decide +kernel
theorem dX4_markRises_50 : decode cX4_markRises 50 = .ok (.iload_n 2, 1) := by decide +kernel
theorem dX4_markRises_51 : decode cX4_markRises 51 = .ok (.iload 4, 2) := by decide +kernel
theorem dX4_markRises_53 : decode cX4_markRises 53 = .ok (.iadd, 1) := by decide +kernel
theorem dX4_markRises_54 : decode cX4_markRises 54 = .ok (.iconst 1, 1) := by decide +kernel
theorem dX4_markRises_55 : decode cX4_markRises 55 = .ok (.iadd, 1) := by decide +kernel
theorem dX4_markRises_56 : decode cX4_markRises 56 = .ok (.iaload, 1) := by decide +kernel
theorem dX4_markRises_57 : decode cX4_markRises 57 = .ok (.if_icmp .eq 32, 3) := by decide +kernel
theorem dX4_markRises_60 : decode cX4_markRises 60 = .ok (.aload_n 0, 1) := by decide +kernel
theorem dX4_markRises_61 : decode cX4_markRises 61 = .ok (.getfield 15, 3) := by decide +kernel
theorem dX4_markRises_64 : decode cX4_markRises 64 = .ok (.iload_n 2, 1) := by decide +kernel
theorem dX4_markRises_65 : decode cX4_markRises 65 = .ok (.iload 4, 2) := by decide +kernel
theorem dX4_markRises_67 : decode cX4_markRises 67 = .ok (.iadd, 1) := by decide +kernel
theorem dX4_markRises_68 : decode cX4_markRises 68 = .ok (.iaload, 1) := by decide +kernel
theorem dX4_markRises_69 : decode cX4_markRises 69 = .ok (.aload_n 0, 1) := by decide +kernel
theorem dX4_markRises_70 : decode cX4_markRises 70 = .ok (.getfield 15, 3) := by decide +kernel
theorem dX4_markRises_73 : decode cX4_markRises 73 = .ok (.iload_n 2, 1) := by decide +kernel
theorem dX4_markRises_74 : decode cX4_markRises 74 = .ok (.iload 4, 2) := by decide +kernel
theorem dX4_markRises_76 : decode cX4_markRises 76 = .ok (.iadd, 1) := by decide +kernel
theorem dX4_markRises_77 : decode cX4_markRises 77 = .ok (.iconst 1, 1) := by decide +kernel
theorem dX4_markRises_78 : decode cX4_markRises 78 = .ok (.iadd, 1) := by decide +kernel
theorem dX4_markRises_79 : decode cX4_markRises 79 = .ok (.iaload, 1) := by decide +kernel
theorem dX4_markRises_80 : decode cX4_markRises 80 = .ok (.if_icmp .ge 7, 3) := by decide +kernel
theorem dX4_markRises_83 : decode cX4_markRises 83 = .ok (.iconst 1, 1) := by decide +kernel
theorem dX4_markRises_84 : decode cX4_markRises 84 = .ok (.goto 4, 3) := by decide +kernel
theorem dX4_markRises_87 : decode cX4_markRises 87 = .ok (.iconst 0, 1) := by decide +kernel
theorem dX4_markRises_88 : decode cX4_markRises 88 = .ok (.istore_n 3, 1) := by decide +kernel
theorem dX4_markRises_89 : decode cX4_markRises 89 = .ok (.aload_n 0, 1) := by decide +kernel
theorem dX4_markRises_90 : decode cX4_markRises 90 = .ok (.getfield 18, 3) := by decide +kernel
theorem dX4_markRises_93 : decode cX4_markRises 93 = .ok (.iload_n 2, 1) := by decide +kernel
theorem dX4_markRises_94 : decode cX4_markRises 94 = .ok (.iload 4, 2) := by decide +kernel
theorem dX4_markRises_96 : decode cX4_markRises 96 = .ok (.iadd, 1) := by decide +kernel
theorem dX4_markRises_97 : decode cX4_markRises 97 = .ok (.iload_n 3, 1) := by decide +kernel
theorem dX4_markRises_98 : decode cX4_markRises 98 = .ok (.bastore, 1) := by decide +kernel
theorem dX4_markRises_99 : decode cX4_markRises 99 = .ok (.iinc 4 (-1), 3) := by decide +kernel
theorem dX4_markRises_102 : decode cX4_markRises 102 = .ok (.goto (-83), 3) := by decide +kernel
theorem dX4_markRises_105 : decode cX4_markRises 105 = .ok (.return_, 1) := by decide +kernel
theorem dX4_collectTurns_0 : decode cX4_collectTurns 0 = .ok (.iconst 0, 1) := by decide +kernel
theorem dX4_collectTurns_1 : decode cX4_collectTurns 1 = .ok (.istore_n 3, 1) := by decide +kernel
theorem dX4_collectTurns_2 : decode cX4_collectTurns 2 = .ok (.iconst 1, 1) := by decide +kernel
theorem dX4_collectTurns_3 : decode cX4_collectTurns 3 = .ok (.istore 4, 2) := by decide +kernel
theorem dX4_collectTurns_5 : decode cX4_collectTurns 5 = .ok (.iload 4, 2) := by decide +kernel
theorem dX4_collectTurns_7 : decode cX4_collectTurns 7 = .ok (.aload_n 0, 1) := by decide +kernel
theorem dX4_collectTurns_8 : decode cX4_collectTurns 8 = .ok (.getfield 28, 3) := by decide +kernel
theorem dX4_collectTurns_11 : decode cX4_collectTurns 11 = .ok (.iload_n 1, 1) := by decide +kernel
theorem dX4_collectTurns_12 : decode cX4_collectTurns 12 = .ok (.iaload, 1) := by decide +kernel
theorem dX4_collectTurns_13 : decode cX4_collectTurns 13 = .ok (.if_icmp .ge 32, 3) := by decide +kernel
theorem dX4_collectTurns_16 : decode cX4_collectTurns 16 = .ok (.aload_n 0, 1) := by decide +kernel
theorem dX4_collectTurns_17 : decode cX4_collectTurns 17 = .ok (.iload_n 1, 1) := by decide +kernel
theorem dX4_collectTurns_18 : decode cX4_collectTurns 18 = .ok (.iload 4, 2) := by decide +kernel
theorem dX4_collectTurns_20 : decode cX4_collectTurns 20 = .ok (.invokevirtual 77, 3) := by decide +kernel
theorem dX4_collectTurns_23 : decode cX4_collectTurns 23 = .ok (.ifCond .eq 16, 3) := by decide +kernel
theorem dX4_collectTurns_26 : decode cX4_collectTurns 26 = .ok (.aload_n 0, 1) := by decide +kernel
theorem dX4_collectTurns_27 : decode cX4_collectTurns 27 = .ok (.getfield 22, 3) := by decide +kernel
theorem dX4_collectTurns_30 : decode cX4_collectTurns 30 = .ok (.iload_n 2, 1) := by decide +kernel
theorem dX4_collectTurns_31 : decode cX4_collectTurns 31 = .ok (.iload_n 3, 1) := by decide +kernel
theorem dX4_collectTurns_32 : decode cX4_collectTurns 32 = .ok (.iadd, 1) := by decide +kernel
theorem dX4_collectTurns_33 : decode cX4_collectTurns 33 = .ok (.iload 4, 2) := by decide +kernel
theorem dX4_collectTurns_35 : decode cX4_collectTurns 35 = .ok (.iastore, 1) := by decide +kernel
theorem dX4_collectTurns_36 : decode cX4_collectTurns 36 = .ok (.iinc 3 1, 3) := by decide +kernel
theorem dX4_collectTurns_39 : decode cX4_collectTurns 39 = .ok (.iinc 4 1, 3) := by decide +kernel
theorem dX4_collectTurns_42 : decode cX4_collectTurns 42 = .ok (.goto (-37), 3) := by decide +kernel
theorem dX4_collectTurns_45 : decode cX4_collectTurns 45 = .ok (.iload_n 3, 1) := by decide +kernel
theorem dX4_collectTurns_46 : decode cX4_collectTurns 46 = .ok (.ireturn, 1) := by decide +kernel
theorem dX4_isTurn_0 : decode cX4_isTurn 0 = .ok (.aload_n 0, 1) := by decide +kernel
theorem dX4_isTurn_1 : decode cX4_isTurn 1 = .ok (.getfield 25, 3) := by decide +kernel
theorem dX4_isTurn_4 : decode cX4_isTurn 4 = .ok (.iload_n 1, 1) := by decide +kernel
theorem dX4_isTurn_5 : decode cX4_isTurn 5 = .ok (.iaload, 1) := by decide +kernel
theorem dX4_isTurn_6 : decode cX4_isTurn 6 = .ok (.istore_n 3, 1) := by decide +kernel
theorem dX4_isTurn_7 : decode cX4_isTurn 7 = .ok (.iload_n 2, 1) := by decide +kernel
theorem dX4_isTurn_8 : decode cX4_isTurn 8 = .ok (.ifCond .le 31, 3) := by decide +kernel
theorem dX4_isTurn_11 : decode cX4_isTurn 11 = .ok (.aload_n 0, 1) := by decide +kernel
theorem dX4_isTurn_12 : decode cX4_isTurn 12 = .ok (.getfield 18, 3) := by decide +kernel
theorem dX4_isTurn_15 : decode cX4_isTurn 15 = .ok (.iload_n 3, 1) := by decide +kernel
theorem dX4_isTurn_16 : decode cX4_isTurn 16 = .ok (.iload_n 2, 1) := by decide +kernel
theorem dX4_isTurn_17 : decode cX4_isTurn 17 = .ok (.iadd, 1) := by decide +kernel
theorem dX4_isTurn_18 : decode cX4_isTurn 18 = .ok (.baload, 1) := by decide +kernel
theorem dX4_isTurn_19 : decode cX4_isTurn 19 = .ok (.ifCond .eq 20, 3) := by decide +kernel
theorem dX4_isTurn_22 : decode cX4_isTurn 22 = .ok (.aload_n 0, 1) := by decide +kernel
theorem dX4_isTurn_23 : decode cX4_isTurn 23 = .ok (.getfield 18, 3) := by decide +kernel
theorem dX4_isTurn_26 : decode cX4_isTurn 26 = .ok (.iload_n 3, 1) := by decide +kernel
theorem dX4_isTurn_27 : decode cX4_isTurn 27 = .ok (.iload_n 2, 1) := by decide +kernel
theorem dX4_isTurn_28 : decode cX4_isTurn 28 = .ok (.iadd, 1) := by decide +kernel
theorem dX4_isTurn_29 : decode cX4_isTurn 29 = .ok (.iconst 1, 1) := by decide +kernel
theorem dX4_isTurn_30 : decode cX4_isTurn 30 = .ok (.isub, 1) := by decide +kernel
theorem dX4_isTurn_31 : decode cX4_isTurn 31 = .ok (.baload, 1) := by decide +kernel
theorem dX4_isTurn_32 : decode cX4_isTurn 32 = .ok (.ifCond .ne 7, 3) := by decide +kernel
theorem dX4_isTurn_35 : decode cX4_isTurn 35 = .ok (.iconst 1, 1) := by decide +kernel
theorem dX4_isTurn_36 : decode cX4_isTurn 36 = .ok (.goto 4, 3) := by decide +kernel
theorem dX4_isTurn_39 : decode cX4_isTurn 39 = .ok (.iconst 0, 1) := by decide +kernel
theorem dX4_isTurn_40 : decode cX4_isTurn 40 = .ok (.ireturn, 1) := by decide +kernel
theorem dX4_namePieces_0 : decode cX4_namePieces 0 = .ok (.iconst 0, 1) := by decide +kernel
theorem dX4_namePieces_1 : decode cX4_namePieces 1 = .ok (.istore_n 2, 1) := by decide +kernel
theorem dX4_namePieces_2 : decode cX4_namePieces 2 = .ok (.iconst (-1), 1) := by decide +kernel
theorem dX4_namePieces_3 : decode cX4_namePieces 3 = .ok (.istore_n 3, 1) := by decide +kernel
theorem dX4_namePieces_4 : decode cX4_namePieces 4 = .ok (.iconst 0, 1) := by decide +kernel
theorem dX4_namePieces_5 : decode cX4_namePieces 5 = .ok (.istore 4, 2) := by decide +kernel
theorem dX4_namePieces_7 : decode cX4_namePieces 7 = .ok (.iload 4, 2) := by decide +kernel
theorem dX4_namePieces_9 : decode cX4_namePieces 9 = .ok (.aload_n 0, 1) := by decide +kernel
theorem dX4_namePieces_10 : decode cX4_namePieces 10 = .ok (.getfield 28, 3) := by decide +kernel
theorem dX4_namePieces_13 : decode cX4_namePieces 13 = .ok (.iload_n 1, 1) := by decide +kernel
theorem dX4_namePieces_14 : decode cX4_namePieces 14 = .ok (.iaload, 1) := by decide +kernel
theorem dX4_namePieces_15 : decode cX4_namePieces 15 = .ok (.if_icmp .ge 60, 3) := by decide +kernel
theorem dX4_namePieces_18 : decode cX4_namePieces 18 = .ok (.aload_n 0, 1) := by decide +kernel
theorem dX4_namePieces_19 : decode cX4_namePieces 19 = .ok (.getfield 9, 3) := by decide +kernel
theorem dX4_namePieces_22 : decode cX4_namePieces 22 = .ok (.iload 4, 2) := by decide +kernel
theorem dX4_namePieces_24 : decode cX4_namePieces 24 = .ok (.iaload, 1) := by decide +kernel
theorem dX4_namePieces_25 : decode cX4_namePieces 25 = .ok (.istore 5, 2) := by decide +kernel
theorem dX4_namePieces_27 : decode cX4_namePieces 27 = .ok (.aload_n 0, 1) := by decide +kernel
theorem dX4_namePieces_28 : decode cX4_namePieces 28 = .ok (.iload_n 1, 1) := by decide +kernel
theorem dX4_namePieces_29 : decode cX4_namePieces 29 = .ok (.iload 5, 2) := by decide +kernel
theorem dX4_namePieces_31 : decode cX4_namePieces 31 = .ok (.invokevirtual 77, 3) := by decide +kernel
theorem dX4_namePieces_34 : decode cX4_namePieces 34 = .ok (.ifCond .eq 35, 3) := by decide +kernel
theorem dX4_namePieces_37 : decode cX4_namePieces 37 = .ok (.iload_n 3, 1) := by decide +kernel
theorem dX4_namePieces_38 : decode cX4_namePieces 38 = .ok (.iconst (-1), 1) := by decide +kernel
theorem dX4_namePieces_39 : decode cX4_namePieces 39 = .ok (.if_icmp .eq 14, 3) := by decide +kernel
theorem dX4_namePieces_42 : decode cX4_namePieces 42 = .ok (.aload_n 0, 1) := by decide +kernel
theorem dX4_namePieces_43 : decode cX4_namePieces 43 = .ok (.iload_n 1, 1) := by decide +kernel
theorem dX4_namePieces_44 : decode cX4_namePieces 44 = .ok (.iload_n 3, 1) := by decide +kernel
theorem dX4_namePieces_45 : decode cX4_namePieces 45 = .ok (.iload 5, 2) := by decide +kernel
theorem dX4_namePieces_47 : decode cX4_namePieces 47 = .ok (.invokevirtual 81, 3) := by decide +kernel
theorem dX4_namePieces_50 : decode cX4_namePieces 50 = .ok (.ifCond .ne 6, 3) := by decide +kernel
theorem dX4_namePieces_53 : decode cX4_namePieces 53 = .ok (.iinc 2 1, 3) := by decide +kernel
theorem dX4_namePieces_56 : decode cX4_namePieces 56 = .ok (.aload_n 0, 1) := by decide +kernel
theorem dX4_namePieces_57 : decode cX4_namePieces 57 = .ok (.getfield 37, 3) := by decide +kernel
theorem dX4_namePieces_60 : decode cX4_namePieces 60 = .ok (.iload 5, 2) := by decide +kernel
theorem dX4_namePieces_62 : decode cX4_namePieces 62 = .ok (.iload_n 2, 1) := by decide +kernel
theorem dX4_namePieces_63 : decode cX4_namePieces 63 = .ok (.iconst 1, 1) := by decide +kernel
theorem dX4_namePieces_64 : decode cX4_namePieces 64 = .ok (.isub, 1) := by decide +kernel
theorem dX4_namePieces_65 : decode cX4_namePieces 65 = .ok (.iastore, 1) := by decide +kernel
theorem dX4_namePieces_66 : decode cX4_namePieces 66 = .ok (.iload 5, 2) := by decide +kernel
theorem dX4_namePieces_68 : decode cX4_namePieces 68 = .ok (.istore_n 3, 1) := by decide +kernel
theorem dX4_namePieces_69 : decode cX4_namePieces 69 = .ok (.iinc 4 1, 3) := by decide +kernel
theorem dX4_namePieces_72 : decode cX4_namePieces 72 = .ok (.goto (-65), 3) := by decide +kernel
theorem dX4_namePieces_75 : decode cX4_namePieces 75 = .ok (.iload_n 2, 1) := by decide +kernel
theorem dX4_namePieces_76 : decode cX4_namePieces 76 = .ok (.ireturn, 1) := by decide +kernel
theorem dX4_isSamePiece_0 : decode cX4_isSamePiece 0 = .ok (.aload_n 0, 1) := by decide +kernel
theorem dX4_isSamePiece_1 : decode cX4_isSamePiece 1 = .ok (.getfield 25, 3) := by decide +kernel
theorem dX4_isSamePiece_4 : decode cX4_isSamePiece 4 = .ok (.iload_n 1, 1) := by decide +kernel
theorem dX4_isSamePiece_5 : decode cX4_isSamePiece 5 = .ok (.iaload, 1) := by decide +kernel
theorem dX4_isSamePiece_6 : decode cX4_isSamePiece 6 = .ok (.istore 4, 2) := by decide +kernel
theorem dX4_isSamePiece_8 : decode cX4_isSamePiece 8 = .ok (.iconst 0, 1) := by decide +kernel
theorem dX4_isSamePiece_9 : decode cX4_isSamePiece 9 = .ok (.istore 5, 2) := by decide +kernel
theorem dX4_isSamePiece_11 : decode cX4_isSamePiece 11 = .ok (.iload_n 2, 1) := by decide +kernel
theorem dX4_isSamePiece_12 : decode cX4_isSamePiece 12 = .ok (.iload 5, 2) := by decide +kernel
theorem dX4_isSamePiece_14 : decode cX4_isSamePiece 14 = .ok (.iadd, 1) := by decide +kernel
theorem dX4_isSamePiece_15 : decode cX4_isSamePiece 15 = .ok (.aload_n 0, 1) := by decide +kernel
theorem dX4_isSamePiece_16 : decode cX4_isSamePiece 16 = .ok (.getfield 28, 3) := by decide +kernel
theorem dX4_isSamePiece_19 : decode cX4_isSamePiece 19 = .ok (.iload_n 1, 1) := by decide +kernel
theorem dX4_isSamePiece_20 : decode cX4_isSamePiece 20 = .ok (.iaload, 1) := by decide +kernel
theorem dX4_isSamePiece_21 : decode cX4_isSamePiece 21 = .ok (.if_icmp .ge 90, 3) := by decide +kernel
theorem dX4_isSamePiece_24 : decode cX4_isSamePiece 24 = .ok (.iload_n 3, 1) := by decide +kernel
theorem dX4_isSamePiece_25 : decode cX4_isSamePiece 25 = .ok (.iload 5, 2) := by decide +kernel
theorem dX4_isSamePiece_27 : decode cX4_isSamePiece 27 = .ok (.iadd, 1) := by decide +kernel
theorem dX4_isSamePiece_28 : decode cX4_isSamePiece 28 = .ok (.aload_n 0, 1) := by decide +kernel
theorem dX4_isSamePiece_29 : decode cX4_isSamePiece 29 = .ok (.getfield 28, 3) := by decide +kernel
theorem dX4_isSamePiece_32 : decode cX4_isSamePiece 32 = .ok (.iload_n 1, 1) := by decide +kernel
theorem dX4_isSamePiece_33 : decode cX4_isSamePiece 33 = .ok (.iaload, 1) := by decide +kernel
theorem dX4_isSamePiece_34 : decode cX4_isSamePiece 34 = .ok (.if_icmp .ge 77, 3) := by decide +kernel
theorem dX4_isSamePiece_37 : decode cX4_isSamePiece 37 = .ok (.aload_n 0, 1) := by decide +kernel
theorem dX4_isSamePiece_38 : decode cX4_isSamePiece 38 = .ok (.getfield 15, 3) := by decide +kernel
theorem dX4_isSamePiece_41 : decode cX4_isSamePiece 41 = .ok (.iload 4, 2) := by decide +kernel
theorem dX4_isSamePiece_43 : decode cX4_isSamePiece 43 = .ok (.iload_n 2, 1) := by decide +kernel
theorem dX4_isSamePiece_44 : decode cX4_isSamePiece 44 = .ok (.iadd, 1) := by decide +kernel
theorem dX4_isSamePiece_45 : decode cX4_isSamePiece 45 = .ok (.iload 5, 2) := by decide +kernel
theorem dX4_isSamePiece_47 : decode cX4_isSamePiece 47 = .ok (.iadd, 1) := by decide +kernel
theorem dX4_isSamePiece_48 : decode cX4_isSamePiece 48 = .ok (.iaload, 1) := by decide +kernel
theorem dX4_isSamePiece_49 : decode cX4_isSamePiece 49 = .ok (.aload_n 0, 1) := by decide +kernel
theorem dX4_isSamePiece_50 : decode cX4_isSamePiece 50 = .ok (.getfield 15, 3) := by decide +kernel
theorem dX4_isSamePiece_53 : decode cX4_isSamePiece 53 = .ok (.iload 4, 2) := by decide +kernel
theorem dX4_isSamePiece_55 : decode cX4_isSamePiece 55 = .ok (.iload_n 3, 1) := by decide +kernel
theorem dX4_isSamePiece_56 : decode cX4_isSamePiece 56 = .ok (.iadd, 1) := by decide +kernel
theorem dX4_isSamePiece_57 : decode cX4_isSamePiece 57 = .ok (.iload 5, 2) := by decide +kernel
theorem dX4_isSamePiece_59 : decode cX4_isSamePiece 59 = .ok (.iadd, 1) := by decide +kernel
theorem dX4_isSamePiece_60 : decode cX4_isSamePiece 60 = .ok (.iaload, 1) := by decide +kernel
theorem dX4_isSamePiece_61 : decode cX4_isSamePiece 61 = .ok (.if_icmp .eq 5, 3) := by decide +kernel
theorem dX4_isSamePiece_64 : decode cX4_isSamePiece 64 = .ok (.iconst 0, 1) := by decide +kernel
theorem dX4_isSamePiece_65 : decode cX4_isSamePiece 65 = .ok (.ireturn, 1) := by decide +kernel
theorem dX4_isSamePiece_66 : decode cX4_isSamePiece 66 = .ok (.aload_n 0, 1) := by decide +kernel
theorem dX4_isSamePiece_67 : decode cX4_isSamePiece 67 = .ok (.iload_n 1, 1) := by decide +kernel
theorem dX4_isSamePiece_68 : decode cX4_isSamePiece 68 = .ok (.iload_n 2, 1) := by decide +kernel
theorem dX4_isSamePiece_69 : decode cX4_isSamePiece 69 = .ok (.iload 5, 2) := by decide +kernel
theorem dX4_isSamePiece_71 : decode cX4_isSamePiece 71 = .ok (.iadd, 1) := by decide +kernel
theorem dX4_isSamePiece_72 : decode cX4_isSamePiece 72 = .ok (.invokevirtual 77, 3) := by decide +kernel
theorem dX4_isSamePiece_75 : decode cX4_isSamePiece 75 = .ok (.istore 6, 2) := by decide +kernel
theorem dX4_isSamePiece_77 : decode cX4_isSamePiece 77 = .ok (.iload 6, 2) := by decide +kernel
theorem dX4_isSamePiece_79 : decode cX4_isSamePiece 79 = .ok (.aload_n 0, 1) := by decide +kernel
theorem dX4_isSamePiece_80 : decode cX4_isSamePiece 80 = .ok (.iload_n 1, 1) := by decide +kernel
theorem dX4_isSamePiece_81 : decode cX4_isSamePiece 81 = .ok (.iload_n 3, 1) := by decide +kernel
theorem dX4_isSamePiece_82 : decode cX4_isSamePiece 82 = .ok (.iload 5, 2) := by decide +kernel
theorem dX4_isSamePiece_84 : decode cX4_isSamePiece 84 = .ok (.iadd, 1) := by decide +kernel
theorem dX4_isSamePiece_85 : decode cX4_isSamePiece 85 = .ok (.invokevirtual 77, 3) := by decide +kernel
theorem dX4_isSamePiece_88 : decode cX4_isSamePiece 88 = .ok (.if_icmp .eq 5, 3) := by decide +kernel
theorem dX4_isSamePiece_91 : decode cX4_isSamePiece 91 = .ok (.iconst 0, 1) := by decide +kernel
theorem dX4_isSamePiece_92 : decode cX4_isSamePiece 92 = .ok (.ireturn, 1) := by decide +kernel
theorem dX4_isSamePiece_93 : decode cX4_isSamePiece 93 = .ok (.iload 6, 2) := by decide +kernel
theorem dX4_isSamePiece_95 : decode cX4_isSamePiece 95 = .ok (.ifCond .eq 10, 3) := by decide +kernel
theorem dX4_isSamePiece_98 : decode cX4_isSamePiece 98 = .ok (.iload 5, 2) := by decide +kernel
theorem dX4_isSamePiece_100 : decode cX4_isSamePiece 100 = .ok (.ifCond .le 5, 3) := by decide +kernel
theorem dX4_isSamePiece_103 : decode cX4_isSamePiece 103 = .ok (.iconst 1, 1) := by decide +kernel
theorem dX4_isSamePiece_104 : decode cX4_isSamePiece 104 = .ok (.ireturn, 1) := by decide +kernel
theorem dX4_isSamePiece_105 : decode cX4_isSamePiece 105 = .ok (.iinc 5 1, 3) := by decide +kernel
theorem dX4_isSamePiece_108 : decode cX4_isSamePiece 108 = .ok (.goto (-97), 3) := by decide +kernel
theorem dX4_isSamePiece_111 : decode cX4_isSamePiece 111 = .ok (.iconst 0, 1) := by decide +kernel
theorem dX4_isSamePiece_112 : decode cX4_isSamePiece 112 = .ok (.ireturn, 1) := by decide +kernel
theorem dX4_orderByNames_0 : decode cX4_orderByNames 0 = .ok (.iconst 0, 1) := by decide +kernel
theorem dX4_orderByNames_1 : decode cX4_orderByNames 1 = .ok (.istore_n 2, 1) := by decide +kernel
theorem dX4_orderByNames_2 : decode cX4_orderByNames 2 = .ok (.iload_n 2, 1) := by decide +kernel
theorem dX4_orderByNames_3 : decode cX4_orderByNames 3 = .ok (.aload_n 0, 1) := by decide +kernel
theorem dX4_orderByNames_4 : decode cX4_orderByNames 4 = .ok (.getfield 28, 3) := by decide +kernel
theorem dX4_orderByNames_7 : decode cX4_orderByNames 7 = .ok (.iload_n 1, 1) := by decide +kernel
theorem dX4_orderByNames_8 : decode cX4_orderByNames 8 = .ok (.iaload, 1) := by decide +kernel
theorem dX4_orderByNames_9 : decode cX4_orderByNames 9 = .ok (.if_icmp .ge 28, 3) := by decide +kernel
theorem dX4_orderByNames_12 : decode cX4_orderByNames 12 = .ok (.aload_n 0, 1) := by decide +kernel
theorem dX4_orderByNames_13 : decode cX4_orderByNames 13 = .ok (.getfield 9, 3) := by decide +kernel
theorem dX4_orderByNames_16 : decode cX4_orderByNames 16 = .ok (.aload_n 0, 1) := by decide +kernel
theorem dX4_orderByNames_17 : decode cX4_orderByNames 17 = .ok (.getfield 15, 3) := by decide +kernel
theorem dX4_orderByNames_20 : decode cX4_orderByNames 20 = .ok (.aload_n 0, 1) := by decide +kernel
theorem dX4_orderByNames_21 : decode cX4_orderByNames 21 = .ok (.getfield 25, 3) := by decide +kernel
theorem dX4_orderByNames_24 : decode cX4_orderByNames 24 = .ok (.iload_n 1, 1) := by decide +kernel
theorem dX4_orderByNames_25 : decode cX4_orderByNames 25 = .ok (.iaload, 1) := by decide +kernel
theorem dX4_orderByNames_26 : decode cX4_orderByNames 26 = .ok (.iload_n 2, 1) := by decide +kernel
theorem dX4_orderByNames_27 : decode cX4_orderByNames 27 = .ok (.iadd, 1) := by decide +kernel
theorem dX4_orderByNames_28 : decode cX4_orderByNames 28 = .ok (.iaload, 1) := by decide +kernel
theorem dX4_orderByNames_29 : decode cX4_orderByNames 29 = .ok (.iload_n 2, 1) := by decide +kernel
theorem dX4_orderByNames_30 : decode cX4_orderByNames 30 = .ok (.iastore, 1) := by decide +kernel
theorem dX4_orderByNames_31 : decode cX4_orderByNames 31 = .ok (.iinc 2 1, 3) := by decide +kernel
theorem dX4_orderByNames_34 : decode cX4_orderByNames 34 = .ok (.goto (-32), 3) := by decide +kernel
theorem dX4_orderByNames_37 : decode cX4_orderByNames 37 = .ok (.return_, 1) := by decide +kernel
theorem dX4_orderFromBelow_0 : decode cX4_orderFromBelow 0 = .ok (.aload_n 0, 1) := by decide +kernel
theorem dX4_orderFromBelow_1 : decode cX4_orderFromBelow 1 = .ok (.getfield 28, 3) := by decide +kernel
theorem dX4_orderFromBelow_4 : decode cX4_orderFromBelow 4 = .ok (.iload_n 1, 1) := by decide +kernel
theorem dX4_orderFromBelow_5 : decode cX4_orderFromBelow 5 = .ok (.iconst 1, 1) := by decide +kernel
theorem dX4_orderFromBelow_6 : decode cX4_orderFromBelow 6 = .ok (.iadd, 1) := by decide +kernel
theorem dX4_orderFromBelow_7 : decode cX4_orderFromBelow 7 = .ok (.iaload, 1) := by decide +kernel
theorem dX4_orderFromBelow_8 : decode cX4_orderFromBelow 8 = .ok (.istore_n 2, 1) := by decide +kernel
theorem dX4_orderFromBelow_9 : decode cX4_orderFromBelow 9 = .ok (.iconst 0, 1) := by decide +kernel
theorem dX4_orderFromBelow_10 : decode cX4_orderFromBelow 10 = .ok (.istore_n 3, 1) := by decide +kernel
theorem dX4_orderFromBelow_11 : decode cX4_orderFromBelow 11 = .ok (.iload_n 3, 1) := by decide +kernel
theorem dX4_orderFromBelow_12 : decode cX4_orderFromBelow 12 = .ok (.iload_n 2, 1) := by decide +kernel
theorem dX4_orderFromBelow_13 : decode cX4_orderFromBelow 13 = .ok (.if_icmp .ge 35, 3) := by decide +kernel
theorem dX4_orderFromBelow_16 : decode cX4_orderFromBelow 16 = .ok (.aload_n 0, 1) := by decide +kernel
theorem dX4_orderFromBelow_17 : decode cX4_orderFromBelow 17 = .ok (.getfield 34, 3) := by decide +kernel
theorem dX4_orderFromBelow_20 : decode cX4_orderFromBelow 20 = .ok (.iload_n 3, 1) := by decide +kernel
theorem dX4_orderFromBelow_21 : decode cX4_orderFromBelow 21 = .ok (.aload_n 0, 1) := by decide +kernel
theorem dX4_orderFromBelow_22 : decode cX4_orderFromBelow 22 = .ok (.getfield 22, 3) := by decide +kernel
theorem dX4_orderFromBelow_25 : decode cX4_orderFromBelow 25 = .ok (.aload_n 0, 1) := by decide +kernel
theorem dX4_orderFromBelow_26 : decode cX4_orderFromBelow 26 = .ok (.getfield 25, 3) := by decide +kernel
theorem dX4_orderFromBelow_29 : decode cX4_orderFromBelow 29 = .ok (.iload_n 1, 1) := by decide +kernel
theorem dX4_orderFromBelow_30 : decode cX4_orderFromBelow 30 = .ok (.iconst 1, 1) := by decide +kernel
theorem dX4_orderFromBelow_31 : decode cX4_orderFromBelow 31 = .ok (.iadd, 1) := by decide +kernel
theorem dX4_orderFromBelow_32 : decode cX4_orderFromBelow 32 = .ok (.iaload, 1) := by decide +kernel
theorem dX4_orderFromBelow_33 : decode cX4_orderFromBelow 33 = .ok (.aload_n 0, 1) := by decide +kernel
theorem dX4_orderFromBelow_34 : decode cX4_orderFromBelow 34 = .ok (.getfield 9, 3) := by decide +kernel
theorem dX4_orderFromBelow_37 : decode cX4_orderFromBelow 37 = .ok (.iload_n 3, 1) := by decide +kernel
theorem dX4_orderFromBelow_38 : decode cX4_orderFromBelow 38 = .ok (.iaload, 1) := by decide +kernel
theorem dX4_orderFromBelow_39 : decode cX4_orderFromBelow 39 = .ok (.iadd, 1) := by decide +kernel
theorem dX4_orderFromBelow_40 : decode cX4_orderFromBelow 40 = .ok (.iaload, 1) := by decide +kernel
theorem dX4_orderFromBelow_41 : decode cX4_orderFromBelow 41 = .ok (.iastore, 1) := by decide +kernel
theorem dX4_orderFromBelow_42 : decode cX4_orderFromBelow 42 = .ok (.iinc 3 1, 3) := by decide +kernel
theorem dX4_orderFromBelow_45 : decode cX4_orderFromBelow 45 = .ok (.goto (-34), 3) := by decide +kernel
theorem dX4_orderFromBelow_48 : decode cX4_orderFromBelow 48 = .ok (.aload_n 0, 1) := by decide +kernel
theorem dX4_orderFromBelow_49 : decode cX4_orderFromBelow 49 = .ok (.iload_n 1, 1) := by decide +kernel
theorem dX4_orderFromBelow_50 : decode cX4_orderFromBelow 50 = .ok (.iload_n 2, 1) := by decide +kernel
theorem dX4_orderFromBelow_51 : decode cX4_orderFromBelow 51 = .ok (.invokevirtual 69, 3) := by decide +kernel
theorem dX4_orderFromBelow_54 : decode cX4_orderFromBelow 54 = .ok (.return_, 1) := by decide +kernel
theorem dX4_induce_0 : decode cX4_induce 0 = .ok (.aload_n 0, 1) := by decide +kernel
theorem dX4_induce_1 : decode cX4_induce 1 = .ok (.iload_n 1, 1) := by decide +kernel
theorem dX4_induce_2 : decode cX4_induce 2 = .ok (.invokevirtual 85, 3) := by decide +kernel
theorem dX4_induce_5 : decode cX4_induce 5 = .ok (.aload_n 0, 1) := by decide +kernel
theorem dX4_induce_6 : decode cX4_induce 6 = .ok (.getfield 9, 3) := by decide +kernel
theorem dX4_induce_9 : decode cX4_induce 9 = .ok (.iconst 0, 1) := by decide +kernel
theorem dX4_induce_10 : decode cX4_induce 10 = .ok (.aload_n 0, 1) := by decide +kernel
theorem dX4_induce_11 : decode cX4_induce 11 = .ok (.getfield 28, 3) := by decide +kernel
theorem dX4_induce_14 : decode cX4_induce 14 = .ok (.iload_n 1, 1) := by decide +kernel
theorem dX4_induce_15 : decode cX4_induce 15 = .ok (.iaload, 1) := by decide +kernel
theorem dX4_induce_16 : decode cX4_induce 16 = .ok (.iconst (-1), 1) := by decide +kernel
theorem dX4_induce_17 : decode cX4_induce 17 = .ok (.invokestatic 88, 3) := by decide +kernel
theorem dX4_induce_20 : decode cX4_induce 20 = .ok (.aload_n 0, 1) := by decide +kernel
theorem dX4_induce_21 : decode cX4_induce 21 = .ok (.iload_n 1, 1) := by decide +kernel
theorem dX4_induce_22 : decode cX4_induce 22 = .ok (.iload_n 2, 1) := by decide +kernel
theorem dX4_induce_23 : decode cX4_induce 23 = .ok (.invokevirtual 94, 3) := by decide +kernel
theorem dX4_induce_26 : decode cX4_induce 26 = .ok (.aload_n 0, 1) := by decide +kernel
theorem dX4_induce_27 : decode cX4_induce 27 = .ok (.iload_n 1, 1) := by decide +kernel
theorem dX4_induce_28 : decode cX4_induce 28 = .ok (.invokevirtual 97, 3) := by decide +kernel
theorem dX4_induce_31 : decode cX4_induce 31 = .ok (.aload_n 0, 1) := by decide +kernel
theorem dX4_induce_32 : decode cX4_induce 32 = .ok (.iload_n 1, 1) := by decide +kernel
theorem dX4_induce_33 : decode cX4_induce 33 = .ok (.invokevirtual 100, 3) := by decide +kernel
theorem dX4_induce_36 : decode cX4_induce 36 = .ok (.return_, 1) := by decide +kernel
theorem dX4_countLetters_0 : decode cX4_countLetters 0 = .ok (.aload_n 0, 1) := by decide +kernel
theorem dX4_countLetters_1 : decode cX4_countLetters 1 = .ok (.getfield 40, 3) := by decide +kernel
theorem dX4_countLetters_4 : decode cX4_countLetters 4 = .ok (.iconst 0, 1) := by decide +kernel
theorem dX4_countLetters_5 : decode cX4_countLetters 5 = .ok (.aload_n 0, 1) := by decide +kernel
theorem dX4_countLetters_6 : decode cX4_countLetters 6 = .ok (.getfield 31, 3) := by decide +kernel
theorem dX4_countLetters_9 : decode cX4_countLetters 9 = .ok (.iload_n 1, 1) := by decide +kernel
theorem dX4_countLetters_10 : decode cX4_countLetters 10 = .ok (.iaload, 1) := by decide +kernel
theorem dX4_countLetters_11 : decode cX4_countLetters 11 = .ok (.iconst 1, 1) := by decide +kernel
theorem dX4_countLetters_12 : decode cX4_countLetters 12 = .ok (.iadd, 1) := by decide +kernel
theorem dX4_countLetters_13 : decode cX4_countLetters 13 = .ok (.iconst 0, 1) := by decide +kernel
theorem dX4_countLetters_14 : decode cX4_countLetters 14 = .ok (.invokestatic 88, 3) := by decide +kernel
theorem dX4_countLetters_17 : decode cX4_countLetters 17 = .ok (.iconst 0, 1) := by decide +kernel
theorem dX4_countLetters_18 : decode cX4_countLetters 18 = .ok (.istore_n 2, 1) := by decide +kernel
theorem dX4_countLetters_19 : decode cX4_countLetters 19 = .ok (.iload_n 2, 1) := by decide +kernel
theorem dX4_countLetters_20 : decode cX4_countLetters 20 = .ok (.aload_n 0, 1) := by decide +kernel
theorem dX4_countLetters_21 : decode cX4_countLetters 21 = .ok (.getfield 28, 3) := by decide +kernel
theorem dX4_countLetters_24 : decode cX4_countLetters 24 = .ok (.iload_n 1, 1) := by decide +kernel
theorem dX4_countLetters_25 : decode cX4_countLetters 25 = .ok (.iaload, 1) := by decide +kernel
theorem dX4_countLetters_26 : decode cX4_countLetters 26 = .ok (.if_icmp .ge 33, 3) := by decide +kernel
theorem dX4_countLetters_29 : decode cX4_countLetters 29 = .ok (.aload_n 0, 1) := by decide +kernel
theorem dX4_countLetters_30 : decode cX4_countLetters 30 = .ok (.getfield 40, 3) := by decide +kernel
theorem dX4_countLetters_33 : decode cX4_countLetters 33 = .ok (.aload_n 0, 1) := by decide +kernel
theorem dX4_countLetters_34 : decode cX4_countLetters 34 = .ok (.getfield 15, 3) := by decide +kernel
theorem dX4_countLetters_37 : decode cX4_countLetters 37 = .ok (.aload_n 0, 1) := by decide +kernel
theorem dX4_countLetters_38 : decode cX4_countLetters 38 = .ok (.getfield 25, 3) := by decide +kernel
theorem dX4_countLetters_41 : decode cX4_countLetters 41 = .ok (.iload_n 1, 1) := by decide +kernel
theorem dX4_countLetters_42 : decode cX4_countLetters 42 = .ok (.iaload, 1) := by decide +kernel
theorem dX4_countLetters_43 : decode cX4_countLetters 43 = .ok (.iload_n 2, 1) := by decide +kernel
theorem dX4_countLetters_44 : decode cX4_countLetters 44 = .ok (.iadd, 1) := by decide +kernel
theorem dX4_countLetters_45 : decode cX4_countLetters 45 = .ok (.iaload, 1) := by decide +kernel
theorem dX4_countLetters_46 : decode cX4_countLetters 46 = .ok (.iconst 1, 1) := by decide +kernel
theorem dX4_countLetters_47 : decode cX4_countLetters 47 = .ok (.iadd, 1) := by decide +kernel
theorem dX4_countLetters_48 : decode cX4_countLetters 48 = .ok (.dup2, 1) := by decide +kernel
theorem dX4_countLetters_49 : decode cX4_countLetters 49 = .ok (.iaload, 1) := by decide +kernel
theorem dX4_countLetters_50 : decode cX4_countLetters 50 = .ok (.iconst 1, 1) := by decide +kernel
theorem dX4_countLetters_51 : decode cX4_countLetters 51 = .ok (.iadd, 1) := by decide +kernel
theorem dX4_countLetters_52 : decode cX4_countLetters 52 = .ok (.iastore, 1) := by decide +kernel
theorem dX4_countLetters_53 : decode cX4_countLetters 53 = .ok (.iinc 2 1, 3) := by decide +kernel
theorem dX4_countLetters_56 : decode cX4_countLetters 56 = .ok (.goto (-37), 3) := by decide +kernel
theorem dX4_countLetters_59 : decode cX4_countLetters 59 = .ok (.iconst 0, 1) := by decide +kernel
theorem dX4_countLetters_60 : decode cX4_countLetters 60 = .ok (.istore_n 2, 1) := by decide +kernel
theorem dX4_countLetters_61 : decode cX4_countLetters 61 = .ok (.iload_n 2, 1) := by decide +kernel
theorem dX4_countLetters_62 : decode cX4_countLetters 62 = .ok (.aload_n 0, 1) := by decide +kernel
theorem dX4_countLetters_63 : decode cX4_countLetters 63 = .ok (.getfield 31, 3) := by decide +kernel
theorem dX4_countLetters_66 : decode cX4_countLetters 66 = .ok (.iload_n 1, 1) := by decide +kernel
theorem dX4_countLetters_67 : decode cX4_countLetters 67 = .ok (.iaload, 1) := by decide +kernel
theorem dX4_countLetters_68 : decode cX4_countLetters 68 = .ok (.if_icmp .ge 26, 3) := by decide +kernel
theorem dX4_countLetters_71 : decode cX4_countLetters 71 = .ok (.aload_n 0, 1) := by decide +kernel
theorem dX4_countLetters_72 : decode cX4_countLetters 72 = .ok (.getfield 40, 3) := by decide +kernel
theorem dX4_countLetters_75 : decode cX4_countLetters 75 = .ok (.iload_n 2, 1) := by decide +kernel
theorem dX4_countLetters_76 : decode cX4_countLetters 76 = .ok (.iconst 1, 1) := by decide +kernel
theorem dX4_countLetters_77 : decode cX4_countLetters 77 = .ok (.iadd, 1) := by decide +kernel
theorem dX4_countLetters_78 : decode cX4_countLetters 78 = .ok (.dup2, 1) := by decide +kernel
theorem dX4_countLetters_79 : decode cX4_countLetters 79 = .ok (.iaload, 1) := by decide +kernel
theorem dX4_countLetters_80 : decode cX4_countLetters 80 = .ok (.aload_n 0, 1) := by decide +kernel
theorem dX4_countLetters_81 : decode cX4_countLetters 81 = .ok (.getfield 40, 3) := by decide +kernel
theorem dX4_countLetters_84 : decode cX4_countLetters 84 = .ok (.iload_n 2, 1) := by decide +kernel
theorem dX4_countLetters_85 : decode cX4_countLetters 85 = .ok (.iaload, 1) := by decide +kernel
theorem dX4_countLetters_86 : decode cX4_countLetters 86 = .ok (.iadd, 1) := by decide +kernel
theorem dX4_countLetters_87 : decode cX4_countLetters 87 = .ok (.iastore, 1) := by decide +kernel
theorem dX4_countLetters_88 : decode cX4_countLetters 88 = .ok (.iinc 2 1, 3) := by decide +kernel
theorem dX4_countLetters_91 : decode cX4_countLetters 91 = .ok (.goto (-30), 3) := by decide +kernel
theorem dX4_countLetters_94 : decode cX4_countLetters 94 = .ok (.return_, 1) := by decide +kernel
theorem dX4_putSeeds_0 : decode cX4_putSeeds 0 = .ok (.aload_n 0, 1) := by decide +kernel
theorem dX4_putSeeds_1 : decode cX4_putSeeds 1 = .ok (.getfield 40, 3) := by decide +kernel
theorem dX4_putSeeds_4 : decode cX4_putSeeds 4 = .ok (.iconst 1, 1) := by decide +kernel
theorem dX4_putSeeds_5 : decode cX4_putSeeds 5 = .ok (.aload_n 0, 1) := by decide +kernel
theorem dX4_putSeeds_6 : decode cX4_putSeeds 6 = .ok (.getfield 43, 3) := by decide +kernel
theorem dX4_putSeeds_9 : decode cX4_putSeeds 9 = .ok (.iconst 0, 1) := by decide +kernel
theorem dX4_putSeeds_10 : decode cX4_putSeeds 10 = .ok (.aload_n 0, 1) := by decide +kernel
theorem dX4_putSeeds_11 : decode cX4_putSeeds 11 = .ok (.getfield 31, 3) := by decide +kernel
theorem dX4_putSeeds_14 : decode cX4_putSeeds 14 = .ok (.iload_n 1, 1) := by decide +kernel
theorem dX4_putSeeds_15 : decode cX4_putSeeds 15 = .ok (.iaload, 1) := by decide +kernel
theorem dX4_putSeeds_16 : decode cX4_putSeeds 16 = .ok (.invokestatic 46, 3) := by decide +kernel
theorem dX4_putSeeds_19 : decode cX4_putSeeds 19 = .ok (.iload_n 2, 1) := by decide +kernel
theorem dX4_putSeeds_20 : decode cX4_putSeeds 20 = .ok (.iconst 1, 1) := by decide +kernel
theorem dX4_putSeeds_21 : decode cX4_putSeeds 21 = .ok (.isub, 1) := by decide +kernel
theorem dX4_putSeeds_22 : decode cX4_putSeeds 22 = .ok (.istore_n 3, 1) := by decide +kernel
theorem dX4_putSeeds_23 : decode cX4_putSeeds 23 = .ok (.iload_n 3, 1) := by decide +kernel
theorem dX4_putSeeds_24 : decode cX4_putSeeds 24 = .ok (.ifCond .lt 20, 3) := by decide +kernel
theorem dX4_putSeeds_27 : decode cX4_putSeeds 27 = .ok (.aload_n 0, 1) := by decide +kernel
theorem dX4_putSeeds_28 : decode cX4_putSeeds 28 = .ok (.iload_n 1, 1) := by decide +kernel
theorem dX4_putSeeds_29 : decode cX4_putSeeds 29 = .ok (.aload_n 0, 1) := by decide +kernel
theorem dX4_putSeeds_30 : decode cX4_putSeeds 30 = .ok (.getfield 34, 3) := by decide +kernel
theorem dX4_putSeeds_33 : decode cX4_putSeeds 33 = .ok (.iload_n 3, 1) := by decide +kernel
theorem dX4_putSeeds_34 : decode cX4_putSeeds 34 = .ok (.iaload, 1) := by decide +kernel
theorem dX4_putSeeds_35 : decode cX4_putSeeds 35 = .ok (.invokevirtual 103, 3) := by decide +kernel
theorem dX4_putSeeds_38 : decode cX4_putSeeds 38 = .ok (.iinc 3 (-1), 3) := by decide +kernel
theorem dX4_putSeeds_41 : decode cX4_putSeeds 41 = .ok (.goto (-18), 3) := by decide +kernel
theorem dX4_putSeeds_44 : decode cX4_putSeeds 44 = .ok (.return_, 1) := by decide +kernel
theorem dX4_induceFalling_0 : decode cX4_induceFalling 0 = .ok (.aload_n 0, 1) := by decide +kernel
theorem dX4_induceFalling_1 : decode cX4_induceFalling 1 = .ok (.getfield 40, 3) := by decide +kernel
theorem dX4_induceFalling_4 : decode cX4_induceFalling 4 = .ok (.iconst 0, 1) := by decide +kernel
theorem dX4_induceFalling_5 : decode cX4_induceFalling 5 = .ok (.aload_n 0, 1) := by decide +kernel
theorem dX4_induceFalling_6 : decode cX4_induceFalling 6 = .ok (.getfield 43, 3) := by decide +kernel
theorem dX4_induceFalling_9 : decode cX4_induceFalling 9 = .ok (.iconst 0, 1) := by decide +kernel
theorem dX4_induceFalling_10 : decode cX4_induceFalling 10 = .ok (.aload_n 0, 1) := by decide +kernel
theorem dX4_induceFalling_11 : decode cX4_induceFalling 11 = .ok (.getfield 31, 3) := by decide +kernel
theorem dX4_induceFalling_14 : decode cX4_induceFalling 14 = .ok (.iload_n 1, 1) := by decide +kernel
theorem dX4_induceFalling_15 : decode cX4_induceFalling 15 = .ok (.iaload, 1) := by decide +kernel
theorem dX4_induceFalling_16 : decode cX4_induceFalling 16 = .ok (.invokestatic 46, 3) := by decide +kernel
theorem dX4_induceFalling_19 : decode cX4_induceFalling 19 = .ok (.aload_n 0, 1) := by decide +kernel
theorem dX4_induceFalling_20 : decode cX4_induceFalling 20 = .ok (.getfield 28, 3) := by decide +kernel
theorem dX4_induceFalling_23 : decode cX4_induceFalling 23 = .ok (.iload_n 1, 1) := by decide +kernel
theorem dX4_induceFalling_24 : decode cX4_induceFalling 24 = .ok (.iaload, 1) := by decide +kernel
theorem dX4_induceFalling_25 : decode cX4_induceFalling 25 = .ok (.ifCond .le 16, 3) := by decide +kernel
theorem dX4_induceFalling_28 : decode cX4_induceFalling 28 = .ok (.aload_n 0, 1) := by decide +kernel
theorem dX4_induceFalling_29 : decode cX4_induceFalling 29 = .ok (.iload_n 1, 1) := by decide +kernel
theorem dX4_induceFalling_30 : decode cX4_induceFalling 30 = .ok (.aload_n 0, 1) := by decide +kernel
theorem dX4_induceFalling_31 : decode cX4_induceFalling 31 = .ok (.getfield 28, 3) := by decide +kernel
theorem dX4_induceFalling_34 : decode cX4_induceFalling 34 = .ok (.iload_n 1, 1) := by decide +kernel
theorem dX4_induceFalling_35 : decode cX4_induceFalling 35 = .ok (.iaload, 1) := by decide +kernel
theorem dX4_induceFalling_36 : decode cX4_induceFalling 36 = .ok (.iconst 1, 1) := by decide +kernel
theorem dX4_induceFalling_37 : decode cX4_induceFalling 37 = .ok (.isub, 1) := by decide +kernel
theorem dX4_induceFalling_38 : decode cX4_induceFalling 38 = .ok (.invokevirtual 106, 3) := by decide +kernel
theorem dX4_induceFalling_41 : decode cX4_induceFalling 41 = .ok (.iconst 0, 1) := by decide +kernel
theorem dX4_induceFalling_42 : decode cX4_induceFalling 42 = .ok (.istore_n 2, 1) := by decide +kernel
theorem dX4_induceFalling_43 : decode cX4_induceFalling 43 = .ok (.iload_n 2, 1) := by decide +kernel
theorem dX4_induceFalling_44 : decode cX4_induceFalling 44 = .ok (.aload_n 0, 1) := by decide +kernel
theorem dX4_induceFalling_45 : decode cX4_induceFalling 45 = .ok (.getfield 28, 3) := by decide +kernel
theorem dX4_induceFalling_48 : decode cX4_induceFalling 48 = .ok (.iload_n 1, 1) := by decide +kernel
theorem dX4_induceFalling_49 : decode cX4_induceFalling 49 = .ok (.iaload, 1) := by decide +kernel
theorem dX4_induceFalling_50 : decode cX4_induceFalling 50 = .ok (.if_icmp .ge 44, 3) := by decide +kernel
theorem dX4_induceFalling_53 : decode cX4_induceFalling 53 = .ok (.aload_n 0, 1) := by decide +kernel
theorem dX4_induceFalling_54 : decode cX4_induceFalling 54 = .ok (.getfield 9, 3) := by decide +kernel
theorem dX4_induceFalling_57 : decode cX4_induceFalling 57 = .ok (.iload_n 2, 1) := by decide +kernel
theorem dX4_induceFalling_58 : decode cX4_induceFalling 58 = .ok (.iaload, 1) := by decide +kernel
theorem dX4_induceFalling_59 : decode cX4_induceFalling 59 = .ok (.iconst 1, 1) := by decide +kernel
theorem dX4_induceFalling_60 : decode cX4_induceFalling 60 = .ok (.isub, 1) := by decide +kernel
theorem dX4_induceFalling_61 : decode cX4_induceFalling 61 = .ok (.istore_n 3, 1) := by decide +kernel
theorem dX4_induceFalling_62 : decode cX4_induceFalling 62 = .ok (.iload_n 3, 1) := by decide +kernel
theorem dX4_induceFalling_63 : decode cX4_induceFalling 63 = .ok (.ifCond .lt 25, 3) := by decide +kernel
theorem dX4_induceFalling_66 : decode cX4_induceFalling 66 = .ok (.aload_n 0, 1) := by decide +kernel
theorem dX4_induceFalling_67 : decode cX4_induceFalling 67 = .ok (.getfield 18, 3) := by decide +kernel
theorem dX4_induceFalling_70 : decode cX4_induceFalling 70 = .ok (.aload_n 0, 1) := by decide +kernel
theorem dX4_induceFalling_71 : decode cX4_induceFalling 71 = .ok (.getfield 25, 3) := by decide +kernel
theorem dX4_induceFalling_74 : decode cX4_induceFalling 74 = .ok (.iload_n 1, 1) := by decide +kernel
theorem dX4_induceFalling_75 : decode cX4_induceFalling 75 = .ok (.iaload, 1) := by decide +kernel
theorem dX4_induceFalling_76 : decode cX4_induceFalling 76 = .ok (.iload_n 3, 1) := by decide +kernel
theorem dX4_induceFalling_77 : decode cX4_induceFalling 77 = .ok (.iadd, 1) := by decide +kernel
theorem dX4_induceFalling_78 : decode cX4_induceFalling 78 = .ok (.baload, 1) := by decide +kernel
theorem dX4_induceFalling_79 : decode cX4_induceFalling 79 = .ok (.ifCond .ne 9, 3) := by decide +kernel
theorem dX4_induceFalling_82 : decode cX4_induceFalling 82 = .ok (.aload_n 0, 1) := by decide +kernel
theorem dX4_induceFalling_83 : decode cX4_induceFalling 83 = .ok (.iload_n 1, 1) := by decide +kernel
theorem dX4_induceFalling_84 : decode cX4_induceFalling 84 = .ok (.iload_n 3, 1) := by decide +kernel
theorem dX4_induceFalling_85 : decode cX4_induceFalling 85 = .ok (.invokevirtual 106, 3) := by decide +kernel
theorem dX4_induceFalling_88 : decode cX4_induceFalling 88 = .ok (.iinc 2 1, 3) := by decide +kernel
theorem dX4_induceFalling_91 : decode cX4_induceFalling 91 = .ok (.goto (-48), 3) := by decide +kernel
theorem dX4_induceFalling_94 : decode cX4_induceFalling 94 = .ok (.return_, 1) := by decide +kernel
theorem dX4_induceRising_0 : decode cX4_induceRising 0 = .ok (.aload_n 0, 1) := by decide +kernel
theorem dX4_induceRising_1 : decode cX4_induceRising 1 = .ok (.getfield 40, 3) := by decide +kernel
theorem dX4_induceRising_4 : decode cX4_induceRising 4 = .ok (.iconst 1, 1) := by decide +kernel
theorem dX4_induceRising_5 : decode cX4_induceRising 5 = .ok (.aload_n 0, 1) := by decide +kernel
theorem dX4_induceRising_6 : decode cX4_induceRising 6 = .ok (.getfield 43, 3) := by decide +kernel
theorem dX4_induceRising_9 : decode cX4_induceRising 9 = .ok (.iconst 0, 1) := by decide +kernel
theorem dX4_induceRising_10 : decode cX4_induceRising 10 = .ok (.aload_n 0, 1) := by decide +kernel
theorem dX4_induceRising_11 : decode cX4_induceRising 11 = .ok (.getfield 31, 3) := by decide +kernel
theorem dX4_induceRising_14 : decode cX4_induceRising 14 = .ok (.iload_n 1, 1) := by decide +kernel
theorem dX4_induceRising_15 : decode cX4_induceRising 15 = .ok (.iaload, 1) := by decide +kernel
theorem dX4_induceRising_16 : decode cX4_induceRising 16 = .ok (.invokestatic 46, 3) := by decide +kernel
theorem dX4_induceRising_19 : decode cX4_induceRising 19 = .ok (.aload_n 0, 1) := by decide +kernel
theorem dX4_induceRising_20 : decode cX4_induceRising 20 = .ok (.getfield 28, 3) := by decide +kernel
theorem dX4_induceRising_23 : decode cX4_induceRising 23 = .ok (.iload_n 1, 1) := by decide +kernel
theorem dX4_induceRising_24 : decode cX4_induceRising 24 = .ok (.iaload, 1) := by decide +kernel
theorem dX4_induceRising_25 : decode cX4_induceRising 25 = .ok (.iconst 1, 1) := by decide +kernel
theorem dX4_induceRising_26 : decode cX4_induceRising 26 = .ok (.isub, 1) := by decide +kernel
theorem dX4_induceRising_27 : decode cX4_induceRising 27 = .ok (.istore_n 2, 1) := by decide +kernel
theorem dX4_induceRising_28 : decode cX4_induceRising 28 = .ok (.iload_n 2, 1) := by decide +kernel
theorem dX4_induceRising_29 : decode cX4_induceRising 29 = .ok (.ifCond .lt 44, 3) := by decide +kernel
theorem dX4_induceRising_32 : decode cX4_induceRising 32 = .ok (.aload_n 0, 1) := by decide +kernel
theorem dX4_induceRising_33 : decode cX4_induceRising 33 = .ok (.getfield 9, 3) := by decide +kernel
theorem dX4_induceRising_36 : decode cX4_induceRising 36 = .ok (.iload_n 2, 1) := by decide +kernel
theorem dX4_induceRising_37 : decode cX4_induceRising 37 = .ok (.iaload, 1) := by decide +kernel
theorem dX4_induceRising_38 : decode cX4_induceRising 38 = .ok (.iconst 1, 1) := by decide +kernel
theorem dX4_induceRising_39 : decode cX4_induceRising 39 = .ok (.isub, 1) := by decide +kernel
theorem dX4_induceRising_40 : decode cX4_induceRising 40 = .ok (.istore_n 3, 1) := by decide +kernel
theorem dX4_induceRising_41 : decode cX4_induceRising 41 = .ok (.iload_n 3, 1) := by decide +kernel
theorem dX4_induceRising_42 : decode cX4_induceRising 42 = .ok (.ifCond .lt 25, 3) := by decide +kernel
theorem dX4_induceRising_45 : decode cX4_induceRising 45 = .ok (.aload_n 0, 1) := by decide +kernel
theorem dX4_induceRising_46 : decode cX4_induceRising 46 = .ok (.getfield 18, 3) := by decide +kernel
theorem dX4_induceRising_49 : decode cX4_induceRising 49 = .ok (.aload_n 0, 1) := by decide +kernel
theorem dX4_induceRising_50 : decode cX4_induceRising 50 = .ok (.getfield 25, 3) := by decide +kernel
theorem dX4_induceRising_53 : decode cX4_induceRising 53 = .ok (.iload_n 1, 1) := by decide +kernel
theorem dX4_induceRising_54 : decode cX4_induceRising 54 = .ok (.iaload, 1) := by decide +kernel
theorem dX4_induceRising_55 : decode cX4_induceRising 55 = .ok (.iload_n 3, 1) := by decide +kernel
theorem dX4_induceRising_56 : decode cX4_induceRising 56 = .ok (.iadd, 1) := by decide +kernel
theorem dX4_induceRising_57 : decode cX4_induceRising 57 = .ok (.baload, 1) := by decide +kernel
theorem dX4_induceRising_58 : decode cX4_induceRising 58 = .ok (.ifCond .eq 9, 3) := by decide +kernel
theorem dX4_induceRising_61 : decode cX4_induceRising 61 = .ok (.aload_n 0, 1) := by decide +kernel
theorem dX4_induceRising_62 : decode cX4_induceRising 62 = .ok (.iload_n 1, 1) := by decide +kernel
theorem dX4_induceRising_63 : decode cX4_induceRising 63 = .ok (.iload_n 3, 1) := by decide +kernel
theorem dX4_induceRising_64 : decode cX4_induceRising 64 = .ok (.invokevirtual 103, 3) := by decide +kernel
theorem dX4_induceRising_67 : decode cX4_induceRising 67 = .ok (.iinc 2 (-1), 3) := by decide +kernel
theorem dX4_induceRising_70 : decode cX4_induceRising 70 = .ok (.goto (-42), 3) := by decide +kernel
theorem dX4_induceRising_73 : decode cX4_induceRising 73 = .ok (.return_, 1) := by decide +kernel
theorem dX4_putFirst_0 : decode cX4_putFirst 0 = .ok (.aload_n 0, 1) := by decide +kernel
theorem dX4_putFirst_1 : decode cX4_putFirst 1 = .ok (.getfield 15, 3) := by decide +kernel
theorem dX4_putFirst_4 : decode cX4_putFirst 4 = .ok (.aload_n 0, 1) := by decide +kernel
theorem dX4_putFirst_5 : decode cX4_putFirst 5 = .ok (.getfield 25, 3) := by decide +kernel
theorem dX4_putFirst_8 : decode cX4_putFirst 8 = .ok (.iload_n 1, 1) := by decide +kernel
theorem dX4_putFirst_9 : decode cX4_putFirst 9 = .ok (.iaload, 1) := by decide +kernel
theorem dX4_putFirst_10 : decode cX4_putFirst 10 = .ok (.iload_n 2, 1) := by decide +kernel
theorem dX4_putFirst_11 : decode cX4_putFirst 11 = .ok (.iadd, 1) := by decide +kernel
theorem dX4_putFirst_12 : decode cX4_putFirst 12 = .ok (.iaload, 1) := by decide +kernel
theorem dX4_putFirst_13 : decode cX4_putFirst 13 = .ok (.istore_n 3, 1) := by decide +kernel
theorem dX4_putFirst_14 : decode cX4_putFirst 14 = .ok (.aload_n 0, 1) := by decide +kernel
theorem dX4_putFirst_15 : decode cX4_putFirst 15 = .ok (.getfield 43, 3) := by decide +kernel
theorem dX4_putFirst_18 : decode cX4_putFirst 18 = .ok (.iload_n 3, 1) := by decide +kernel
theorem dX4_putFirst_19 : decode cX4_putFirst 19 = .ok (.iaload, 1) := by decide +kernel
theorem dX4_putFirst_20 : decode cX4_putFirst 20 = .ok (.istore 4, 2) := by decide +kernel
theorem dX4_putFirst_22 : decode cX4_putFirst 22 = .ok (.iload 4, 2) := by decide +kernel
theorem dX4_putFirst_24 : decode cX4_putFirst 24 = .ok (.aload_n 0, 1) := by decide +kernel
theorem dX4_putFirst_25 : decode cX4_putFirst 25 = .ok (.getfield 9, 3) := by decide +kernel
theorem dX4_putFirst_28 : decode cX4_putFirst 28 = .ok (.arraylength, 1) := by decide +kernel
theorem dX4_putFirst_29 : decode cX4_putFirst 29 = .ok (.if_icmp .ge 21, 3) := by decide +kernel
theorem dX4_putFirst_32 : decode cX4_putFirst 32 = .ok (.aload_n 0, 1) := by decide +kernel
theorem dX4_putFirst_33 : decode cX4_putFirst 33 = .ok (.getfield 9, 3) := by decide +kernel
theorem dX4_putFirst_36 : decode cX4_putFirst 36 = .ok (.iload 4, 2) := by decide +kernel
theorem dX4_putFirst_38 : decode cX4_putFirst 38 = .ok (.iload_n 2, 1) := by decide +kernel
theorem dX4_putFirst_39 : decode cX4_putFirst 39 = .ok (.iastore, 1) := by decide +kernel
theorem dX4_putFirst_40 : decode cX4_putFirst 40 = .ok (.aload_n 0, 1) := by decide +kernel
theorem dX4_putFirst_41 : decode cX4_putFirst 41 = .ok (.getfield 43, 3) := by decide +kernel
theorem dX4_putFirst_44 : decode cX4_putFirst 44 = .ok (.iload_n 3, 1) := by decide +kernel
theorem dX4_putFirst_45 : decode cX4_putFirst 45 = .ok (.iload 4, 2) := by decide +kernel
theorem dX4_putFirst_47 : decode cX4_putFirst 47 = .ok (.iconst 1, 1) := by decide +kernel
theorem dX4_putFirst_48 : decode cX4_putFirst 48 = .ok (.iadd, 1) := by decide +kernel
theorem dX4_putFirst_49 : decode cX4_putFirst 49 = .ok (.iastore, 1) := by decide +kernel
theorem dX4_putFirst_50 : decode cX4_putFirst 50 = .ok (.return_, 1) := by decide +kernel
theorem dX4_putLast_0 : decode cX4_putLast 0 = .ok (.aload_n 0, 1) := by decide +kernel
theorem dX4_putLast_1 : decode cX4_putLast 1 = .ok (.getfield 15, 3) := by decide +kernel
theorem dX4_putLast_4 : decode cX4_putLast 4 = .ok (.aload_n 0, 1) := by decide +kernel
theorem dX4_putLast_5 : decode cX4_putLast 5 = .ok (.getfield 25, 3) := by decide +kernel
theorem dX4_putLast_8 : decode cX4_putLast 8 = .ok (.iload_n 1, 1) := by decide +kernel
theorem dX4_putLast_9 : decode cX4_putLast 9 = .ok (.iaload, 1) := by decide +kernel
theorem dX4_putLast_10 : decode cX4_putLast 10 = .ok (.iload_n 2, 1) := by decide +kernel
theorem dX4_putLast_11 : decode cX4_putLast 11 = .ok (.iadd, 1) := by decide +kernel
theorem dX4_putLast_12 : decode cX4_putLast 12 = .ok (.iaload, 1) := by decide +kernel
theorem dX4_putLast_13 : decode cX4_putLast 13 = .ok (.istore_n 3, 1) := by decide +kernel
theorem dX4_putLast_14 : decode cX4_putLast 14 = .ok (.aload_n 0, 1) := by decide +kernel
theorem dX4_putLast_15 : decode cX4_putLast 15 = .ok (.getfield 43, 3) := by decide +kernel
theorem dX4_putLast_18 : decode cX4_putLast 18 = .ok (.iload_n 3, 1) := by decide +kernel
theorem dX4_putLast_19 : decode cX4_putLast 19 = .ok (.iaload, 1) := by decide +kernel
theorem dX4_putLast_20 : decode cX4_putLast 20 = .ok (.iconst 1, 1) := by decide +kernel
theorem dX4_putLast_21 : decode cX4_putLast 21 = .ok (.isub, 1) := by decide +kernel
theorem dX4_putLast_22 : decode cX4_putLast 22 = .ok (.istore 4, 2) := by decide +kernel
theorem dX4_putLast_24 : decode cX4_putLast 24 = .ok (.iload 4, 2) := by decide +kernel
theorem dX4_putLast_26 : decode cX4_putLast 26 = .ok (.ifCond .lt 19, 3) := by decide +kernel
theorem dX4_putLast_29 : decode cX4_putLast 29 = .ok (.aload_n 0, 1) := by decide +kernel
theorem dX4_putLast_30 : decode cX4_putLast 30 = .ok (.getfield 9, 3) := by decide +kernel
theorem dX4_putLast_33 : decode cX4_putLast 33 = .ok (.iload 4, 2) := by decide +kernel
theorem dX4_putLast_35 : decode cX4_putLast 35 = .ok (.iload_n 2, 1) := by decide +kernel
theorem dX4_putLast_36 : decode cX4_putLast 36 = .ok (.iastore, 1) := by decide +kernel
theorem dX4_putLast_37 : decode cX4_putLast 37 = .ok (.aload_n 0, 1) := by decide +kernel
theorem dX4_putLast_38 : decode cX4_putLast 38 = .ok (.getfield 43, 3) := by decide +kernel
theorem dX4_putLast_41 : decode cX4_putLast 41 = .ok (.iload_n 3, 1) := by decide +kernel
theorem dX4_putLast_42 : decode cX4_putLast 42 = .ok (.iload 4, 2) := by decide +kernel
theorem dX4_putLast_44 : decode cX4_putLast 44 = .ok (.iastore, 1) := by decide +kernel
theorem dX4_putLast_45 : decode cX4_putLast 45 = .ok (.return_, 1) := by decide +kernel
theorem dX8_init_0 : decode cX8_init 0 = .ok (.aload_n 0, 1) := by decide +kernel
theorem dX8_init_1 : decode cX8_init 1 = .ok (.invokespecial 3, 3) := by decide +kernel
theorem dX8_init_4 : decode cX8_init 4 = .ok (.aload_n 0, 1) := by decide +kernel
theorem dX8_init_5 : decode cX8_init 5 = .ok (.new 9, 3) := by decide +kernel
theorem dX8_init_8 : decode cX8_init 8 = .ok (.dup, 1) := by decide +kernel
theorem dX8_init_9 : decode cX8_init 9 = .ok (.invokespecial 11, 3) := by decide +kernel
theorem dX8_init_12 : decode cX8_init 12 = .ok (.putfield 12, 3) := by decide +kernel
theorem dX8_init_15 : decode cX8_init 15 = .ok (.aload_n 0, 1) := by decide +kernel
theorem dX8_init_16 : decode cX8_init 16 = .ok (.new 16, 3) := by decide +kernel
theorem dX8_init_19 : decode cX8_init 19 = .ok (.dup, 1) := by decide +kernel
theorem dX8_init_20 : decode cX8_init 20 = .ok (.invokespecial 18, 3) := by decide +kernel
theorem dX8_init_23 : decode cX8_init 23 = .ok (.putfield 19, 3) := by decide +kernel
theorem dX8_init_26 : decode cX8_init 26 = .ok (.aload_n 0, 1) := by decide +kernel
theorem dX8_init_27 : decode cX8_init 27 = .ok (.new 23, 3) := by decide +kernel
theorem dX8_init_30 : decode cX8_init 30 = .ok (.dup, 1) := by decide +kernel
theorem dX8_init_31 : decode cX8_init 31 = .ok (.aload_n 0, 1) := by decide +kernel
theorem dX8_init_32 : decode cX8_init 32 = .ok (.getfield 19, 3) := by decide +kernel
theorem dX8_init_35 : decode cX8_init 35 = .ok (.invokespecial 25, 3) := by decide +kernel
theorem dX8_init_38 : decode cX8_init 38 = .ok (.putfield 28, 3) := by decide +kernel
theorem dX8_init_41 : decode cX8_init 41 = .ok (.aload_n 0, 1) := by decide +kernel
theorem dX8_init_42 : decode cX8_init 42 = .ok (.new 32, 3) := by decide +kernel
theorem dX8_init_45 : decode cX8_init 45 = .ok (.dup, 1) := by decide +kernel
theorem dX8_init_46 : decode cX8_init 46 = .ok (.aload_n 0, 1) := by decide +kernel
theorem dX8_init_47 : decode cX8_init 47 = .ok (.getfield 19, 3) := by decide +kernel
theorem dX8_init_50 : decode cX8_init 50 = .ok (.aload_n 0, 1) := by decide +kernel
theorem dX8_init_51 : decode cX8_init 51 = .ok (.getfield 28, 3) := by decide +kernel
theorem dX8_init_54 : decode cX8_init 54 = .ok (.invokespecial 34, 3) := by decide +kernel
theorem dX8_init_57 : decode cX8_init 57 = .ok (.putfield 37, 3) := by decide +kernel
theorem dX8_init_60 : decode cX8_init 60 = .ok (.aload_n 0, 1) := by decide +kernel
theorem dX8_init_61 : decode cX8_init 61 = .ok (.new 41, 3) := by decide +kernel
theorem dX8_init_64 : decode cX8_init 64 = .ok (.dup, 1) := by decide +kernel
theorem dX8_init_65 : decode cX8_init 65 = .ok (.aload_n 0, 1) := by decide +kernel
theorem dX8_init_66 : decode cX8_init 66 = .ok (.getfield 19, 3) := by decide +kernel
theorem dX8_init_69 : decode cX8_init 69 = .ok (.aload_n 0, 1) := by decide +kernel
theorem dX8_init_70 : decode cX8_init 70 = .ok (.getfield 28, 3) := by decide +kernel
theorem dX8_init_73 : decode cX8_init 73 = .ok (.invokespecial 43, 3) := by decide +kernel
theorem dX8_init_76 : decode cX8_init 76 = .ok (.putfield 44, 3) := by decide +kernel
theorem dX8_init_79 : decode cX8_init 79 = .ok (.aload_n 0, 1) := by decide +kernel
theorem dX8_init_80 : decode cX8_init 80 = .ok (.new 48, 3) := by decide +kernel
theorem dX8_init_83 : decode cX8_init 83 = .ok (.dup, 1) := by decide +kernel
theorem dX8_init_84 : decode cX8_init 84 = .ok (.aload_n 0, 1) := by decide +kernel
theorem dX8_init_85 : decode cX8_init 85 = .ok (.getfield 19, 3) := by decide +kernel
theorem dX8_init_88 : decode cX8_init 88 = .ok (.aload_n 0, 1) := by decide +kernel
theorem dX8_init_89 : decode cX8_init 89 = .ok (.getfield 28, 3) := by decide +kernel
theorem dX8_init_92 : decode cX8_init 92 = .ok (.invokespecial 50, 3) := by decide +kernel
theorem dX8_init_95 : decode cX8_init 95 = .ok (.putfield 51, 3) := by decide +kernel
theorem dX8_init_98 : decode cX8_init 98 = .ok (.aload_n 0, 1) := by decide +kernel
theorem dX8_init_99 : decode cX8_init 99 = .ok (.new 55, 3) := by decide +kernel
theorem dX8_init_102 : decode cX8_init 102 = .ok (.dup, 1) := by decide +kernel
theorem dX8_init_103 : decode cX8_init 103 = .ok (.aload_n 0, 1) := by decide +kernel
theorem dX8_init_104 : decode cX8_init 104 = .ok (.getfield 19, 3) := by decide +kernel
theorem dX8_init_107 : decode cX8_init 107 = .ok (.aload_n 0, 1) := by decide +kernel
theorem dX8_init_108 : decode cX8_init 108 = .ok (.getfield 28, 3) := by decide +kernel
theorem dX8_init_111 : decode cX8_init 111 = .ok (.invokespecial 57, 3) := by decide +kernel
theorem dX8_init_114 : decode cX8_init 114 = .ok (.putfield 58, 3) := by decide +kernel
theorem dX8_init_117 : decode cX8_init 117 = .ok (.return_, 1) := by decide +kernel
theorem dX8_add_0 : decode cX8_add 0 = .ok (.iload_n 2, 1) := by decide +kernel
theorem dX8_add_1 : decode cX8_add 1 = .ok (.iload_n 3, 1) := by decide +kernel
theorem dX8_add_2 : decode cX8_add 2 = .ok (.iload 4, 2) := by decide +kernel
theorem dX8_add_4 : decode cX8_add 4 = .ok (.iload 5, 2) := by decide +kernel
theorem dX8_add_6 : decode cX8_add 6 = .ok (.invokestatic 62, 3) := by decide +kernel
theorem dX8_add_9 : decode cX8_add 9 = .ok (.istore 6, 2) := by decide +kernel
theorem dX8_add_11 : decode cX8_add 11 = .ok (.iload_n 1, 1) := by decide +kernel
theorem dX8_add_12 : decode cX8_add 12 = .ok (.invokestatic 66, 3) := by decide +kernel
theorem dX8_add_15 : decode cX8_add 15 = .ok (.ifCond .eq 25, 3) := by decide +kernel
theorem dX8_add_18 : decode cX8_add 18 = .ok (.iload 6, 2) := by decide +kernel
theorem dX8_add_20 : decode cX8_add 20 = .ok (.iconst (-1), 1) := by decide +kernel
theorem dX8_add_21 : decode cX8_add 21 = .ok (.if_icmp .eq 19, 3) := by decide +kernel
theorem dX8_add_24 : decode cX8_add 24 = .ok (.aload_n 0, 1) := by decide +kernel
theorem dX8_add_25 : decode cX8_add 25 = .ok (.getfield 12, 3) := by decide +kernel
theorem dX8_add_28 : decode cX8_add 28 = .ok (.getfield 70, 3) := by decide +kernel
theorem dX8_add_31 : decode cX8_add 31 = .ok (.iload 6, 2) := by decide +kernel
theorem dX8_add_33 : decode cX8_add 33 = .ok (.iadd, 1) := by decide +kernel
theorem dX8_add_34 : decode cX8_add 34 = .ok (.sipush 400, 3) := by decide +kernel
theorem dX8_add_37 : decode cX8_add 37 = .ok (.if_icmp .le 5, 3) := by decide +kernel
theorem dX8_add_40 : decode cX8_add 40 = .ok (.iconst (-1), 1) := by decide +kernel
theorem dX8_add_41 : decode cX8_add 41 = .ok (.ireturn, 1) := by decide +kernel
theorem dX8_add_42 : decode cX8_add 42 = .ok (.aload_n 0, 1) := by decide +kernel
theorem dX8_add_43 : decode cX8_add 43 = .ok (.getfield 12, 3) := by decide +kernel
theorem dX8_add_46 : decode cX8_add 46 = .ok (.iload_n 1, 1) := by decide +kernel
theorem dX8_add_47 : decode cX8_add 47 = .ok (.iload_n 2, 1) := by decide +kernel
theorem dX8_add_48 : decode cX8_add 48 = .ok (.invokevirtual 74, 3) := by decide +kernel
theorem dX8_add_51 : decode cX8_add 51 = .ok (.aload_n 0, 1) := by decide +kernel
theorem dX8_add_52 : decode cX8_add 52 = .ok (.getfield 12, 3) := by decide +kernel
theorem dX8_add_55 : decode cX8_add 55 = .ok (.iload_n 1, 1) := by decide +kernel
theorem dX8_add_56 : decode cX8_add 56 = .ok (.iload_n 3, 1) := by decide +kernel
theorem dX8_add_57 : decode cX8_add 57 = .ok (.invokevirtual 74, 3) := by decide +kernel
theorem dX8_add_60 : decode cX8_add 60 = .ok (.aload_n 0, 1) := by decide +kernel
theorem dX8_add_61 : decode cX8_add 61 = .ok (.getfield 12, 3) := by decide +kernel
theorem dX8_add_64 : decode cX8_add 64 = .ok (.iload_n 1, 1) := by decide +kernel
theorem dX8_add_65 : decode cX8_add 65 = .ok (.iload 4, 2) := by decide +kernel
theorem dX8_add_67 : decode cX8_add 67 = .ok (.invokevirtual 74, 3) := by decide +kernel
theorem dX8_add_70 : decode cX8_add 70 = .ok (.aload_n 0, 1) := by decide +kernel
theorem dX8_add_71 : decode cX8_add 71 = .ok (.getfield 12, 3) := by decide +kernel
theorem dX8_add_74 : decode cX8_add 74 = .ok (.iload_n 1, 1) := by decide +kernel
theorem dX8_add_75 : decode cX8_add 75 = .ok (.iload 5, 2) := by decide +kernel
theorem dX8_add_77 : decode cX8_add 77 = .ok (.invokevirtual 74, 3) := by decide +kernel
theorem dX8_add_80 : decode cX8_add 80 = .ok (.aload_n 0, 1) := by decide +kernel
theorem dX8_add_81 : decode cX8_add 81 = .ok (.getfield 12, 3) := by decide +kernel
theorem dX8_add_84 : decode cX8_add 84 = .ok (.getfield 78, 3) := by decide +kernel
theorem dX8_add_87 : decode cX8_add 87 = .ok (.iload_n 1, 1) := by decide +kernel
theorem dX8_add_88 : decode cX8_add 88 = .ok (.iaload, 1) := by decide +kernel
theorem dX8_add_89 : decode cX8_add 89 = .ok (.ireturn, 1) := by decide +kernel
theorem dX8_cut_0 : decode cX8_cut 0 = .ok (.iload_n 1, 1) := by decide +kernel
theorem dX8_cut_1 : decode cX8_cut 1 = .ok (.invokestatic 66, 3) := by decide +kernel
theorem dX8_cut_4 : decode cX8_cut 4 = .ok (.ifCond .eq 20, 3) := by decide +kernel
theorem dX8_cut_7 : decode cX8_cut 7 = .ok (.iload_n 2, 1) := by decide +kernel
theorem dX8_cut_8 : decode cX8_cut 8 = .ok (.ifCond .lt 16, 3) := by decide +kernel
theorem dX8_cut_11 : decode cX8_cut 11 = .ok (.iload_n 2, 1) := by decide +kernel
theorem dX8_cut_12 : decode cX8_cut 12 = .ok (.aload_n 0, 1) := by decide +kernel
theorem dX8_cut_13 : decode cX8_cut 13 = .ok (.getfield 12, 3) := by decide +kernel
theorem dX8_cut_16 : decode cX8_cut 16 = .ok (.getfield 78, 3) := by decide +kernel
theorem dX8_cut_19 : decode cX8_cut 19 = .ok (.iload_n 1, 1) := by decide +kernel
theorem dX8_cut_20 : decode cX8_cut 20 = .ok (.iaload, 1) := by decide +kernel
theorem dX8_cut_21 : decode cX8_cut 21 = .ok (.if_icmp .le 5, 3) := by decide +kernel
theorem dX8_cut_24 : decode cX8_cut 24 = .ok (.iconst (-1), 1) := by decide +kernel
theorem dX8_cut_25 : decode cX8_cut 25 = .ok (.ireturn, 1) := by decide +kernel
theorem dX8_cut_26 : decode cX8_cut 26 = .ok (.aload_n 0, 1) := by decide +kernel
theorem dX8_cut_27 : decode cX8_cut 27 = .ok (.getfield 12, 3) := by decide +kernel
theorem dX8_cut_30 : decode cX8_cut 30 = .ok (.iload_n 1, 1) := by decide +kernel
theorem dX8_cut_31 : decode cX8_cut 31 = .ok (.iload_n 2, 1) := by decide +kernel
theorem dX8_cut_32 : decode cX8_cut 32 = .ok (.invokevirtual 82, 3) := by decide +kernel
theorem dX8_cut_35 : decode cX8_cut 35 = .ok (.aload_n 0, 1) := by decide +kernel
theorem dX8_cut_36 : decode cX8_cut 36 = .ok (.getfield 12, 3) := by decide +kernel
theorem dX8_cut_39 : decode cX8_cut 39 = .ok (.getfield 78, 3) := by decide +kernel
theorem dX8_cut_42 : decode cX8_cut 42 = .ok (.iload_n 1, 1) := by decide +kernel
theorem dX8_cut_43 : decode cX8_cut 43 = .ok (.iaload, 1) := by decide +kernel
theorem dX8_cut_44 : decode cX8_cut 44 = .ok (.ireturn, 1) := by decide +kernel
theorem dX8_build_0 : decode cX8_build 0 = .ok (.aload_n 0, 1) := by decide +kernel
theorem dX8_build_1 : decode cX8_build 1 = .ok (.getfield 19, 3) := by decide +kernel
theorem dX8_build_4 : decode cX8_build 4 = .ok (.aload_n 0, 1) := by decide +kernel
theorem dX8_build_5 : decode cX8_build 5 = .ok (.getfield 12, 3) := by decide +kernel
theorem dX8_build_8 : decode cX8_build 8 = .ok (.invokevirtual 85, 3) := by decide +kernel
theorem dX8_build_11 : decode cX8_build 11 = .ok (.aload_n 0, 1) := by decide +kernel
theorem dX8_build_12 : decode cX8_build 12 = .ok (.getfield 28, 3) := by decide +kernel
theorem dX8_build_15 : decode cX8_build 15 = .ok (.invokevirtual 89, 3) := by decide +kernel
theorem dX8_build_18 : decode cX8_build 18 = .ok (.aload_n 0, 1) := by decide +kernel
theorem dX8_build_19 : decode cX8_build 19 = .ok (.getfield 37, 3) := by decide +kernel
theorem dX8_build_22 : decode cX8_build 22 = .ok (.invokevirtual 92, 3) := by decide +kernel
theorem dX8_build_25 : decode cX8_build 25 = .ok (.aload_n 0, 1) := by decide +kernel
theorem dX8_build_26 : decode cX8_build 26 = .ok (.getfield 58, 3) := by decide +kernel
theorem dX8_build_29 : decode cX8_build 29 = .ok (.invokevirtual 93, 3) := by decide +kernel
theorem dX8_build_32 : decode cX8_build 32 = .ok (.aload_n 0, 1) := by decide +kernel
theorem dX8_build_33 : decode cX8_build 33 = .ok (.getfield 19, 3) := by decide +kernel
theorem dX8_build_36 : decode cX8_build 36 = .ok (.getfield 96, 3) := by decide +kernel
theorem dX8_build_39 : decode cX8_build 39 = .ok (.ireturn, 1) := by decide +kernel
theorem dX8_sign_0 : decode cX8_sign 0 = .ok (.aload_n 0, 1) := by decide +kernel
theorem dX8_sign_1 : decode cX8_sign 1 = .ok (.getfield 19, 3) := by decide +kernel
theorem dX8_sign_4 : decode cX8_sign 4 = .ok (.iload_n 1, 1) := by decide +kernel
theorem dX8_sign_5 : decode cX8_sign 5 = .ok (.invokevirtual 99, 3) := by decide +kernel
theorem dX8_sign_8 : decode cX8_sign 8 = .ok (.ifCond .eq 14, 3) := by decide +kernel
theorem dX8_sign_11 : decode cX8_sign 11 = .ok (.aload_n 0, 1) := by decide +kernel
theorem dX8_sign_12 : decode cX8_sign 12 = .ok (.getfield 19, 3) := by decide +kernel
theorem dX8_sign_15 : decode cX8_sign 15 = .ok (.iload_n 1, 1) := by decide +kernel
theorem dX8_sign_16 : decode cX8_sign 16 = .ok (.invokevirtual 102, 3) := by decide +kernel
theorem dX8_sign_19 : decode cX8_sign 19 = .ok (.goto 4, 3) := by decide +kernel
theorem dX8_sign_22 : decode cX8_sign 22 = .ok (.iconst (-1), 1) := by decide +kernel
theorem dX8_sign_23 : decode cX8_sign 23 = .ok (.ireturn, 1) := by decide +kernel
theorem dX8_text_0 : decode cX8_text 0 = .ok (.aload_n 0, 1) := by decide +kernel
theorem dX8_text_1 : decode cX8_text 1 = .ok (.getfield 19, 3) := by decide +kernel
theorem dX8_text_4 : decode cX8_text 4 = .ok (.iload_n 1, 1) := by decide +kernel
theorem dX8_text_5 : decode cX8_text 5 = .ok (.invokevirtual 99, 3) := by decide +kernel
theorem dX8_text_8 : decode cX8_text 8 = .ok (.ifCond .eq 12, 3) := by decide +kernel
theorem dX8_text_11 : decode cX8_text 11 = .ok (.iload_n 2, 1) := by decide +kernel
theorem dX8_text_12 : decode cX8_text 12 = .ok (.ifCond .lt 8, 3) := by decide +kernel
theorem dX8_text_15 : decode cX8_text 15 = .ok (.iload_n 2, 1) := by decide +kernel
theorem dX8_text_16 : decode cX8_text 16 = .ok (.iconst 1, 1) := by decide +kernel
theorem dX8_text_17 : decode cX8_text 17 = .ok (.if_icmp .le 5, 3) := by decide +kernel
theorem dX8_text_20 : decode cX8_text 20 = .ok (.iconst (-1), 1) := by decide +kernel
theorem dX8_text_21 : decode cX8_text 21 = .ok (.ireturn, 1) := by decide +kernel
theorem dX8_text_22 : decode cX8_text 22 = .ok (.aload_n 0, 1) := by decide +kernel
theorem dX8_text_23 : decode cX8_text 23 = .ok (.getfield 19, 3) := by decide +kernel
theorem dX8_text_26 : decode cX8_text 26 = .ok (.getfield 106, 3) := by decide +kernel
theorem dX8_text_29 : decode cX8_text 29 = .ok (.iload_n 1, 1) := by decide +kernel
theorem dX8_text_30 : decode cX8_text 30 = .ok (.iaload, 1) := by decide +kernel
theorem dX8_text_31 : decode cX8_text 31 = .ok (.istore_n 3, 1) := by decide +kernel
theorem dX8_text_32 : decode cX8_text 32 = .ok (.iload_n 2, 1) := by decide +kernel
theorem dX8_text_33 : decode cX8_text 33 = .ok (.ifCond .ne 7, 3) := by decide +kernel
theorem dX8_text_36 : decode cX8_text 36 = .ok (.iload_n 3, 1) := by decide +kernel
theorem dX8_text_37 : decode cX8_text 37 = .ok (.goto 14, 3) := by decide +kernel
theorem dX8_text_40 : decode cX8_text 40 = .ok (.iload_n 1, 1) := by decide +kernel
theorem dX8_text_41 : decode cX8_text 41 = .ok (.aload_n 0, 1) := by decide +kernel
theorem dX8_text_42 : decode cX8_text 42 = .ok (.getfield 19, 3) := by decide +kernel
theorem dX8_text_45 : decode cX8_text 45 = .ok (.getfield 109, 3) := by decide +kernel
theorem dX8_text_48 : decode cX8_text 48 = .ok (.iload_n 3, 1) := by decide +kernel
theorem dX8_text_49 : decode cX8_text 49 = .ok (.iaload, 1) := by decide +kernel
theorem dX8_text_50 : decode cX8_text 50 = .ok (.isub, 1) := by decide +kernel
theorem dX8_text_51 : decode cX8_text 51 = .ok (.ireturn, 1) := by decide +kernel
theorem dX8_at_0 : decode cX8_at 0 = .ok (.aload_n 0, 1) := by decide +kernel
theorem dX8_at_1 : decode cX8_at 1 = .ok (.getfield 19, 3) := by decide +kernel
theorem dX8_at_4 : decode cX8_at 4 = .ok (.iload_n 1, 1) := by decide +kernel
theorem dX8_at_5 : decode cX8_at 5 = .ok (.invokevirtual 99, 3) := by decide +kernel
theorem dX8_at_8 : decode cX8_at 8 = .ok (.ifCond .eq 15, 3) := by decide +kernel
theorem dX8_at_11 : decode cX8_at 11 = .ok (.aload_n 0, 1) := by decide +kernel
theorem dX8_at_12 : decode cX8_at 12 = .ok (.getfield 28, 3) := by decide +kernel
theorem dX8_at_15 : decode cX8_at 15 = .ok (.getfield 112, 3) := by decide +kernel
theorem dX8_at_18 : decode cX8_at 18 = .ok (.iload_n 1, 1) := by decide +kernel
theorem dX8_at_19 : decode cX8_at 19 = .ok (.iaload, 1) := by decide +kernel
theorem dX8_at_20 : decode cX8_at 20 = .ok (.goto 4, 3) := by decide +kernel
theorem dX8_at_23 : decode cX8_at 23 = .ok (.iconst (-1), 1) := by decide +kernel
theorem dX8_at_24 : decode cX8_at 24 = .ok (.ireturn, 1) := by decide +kernel
theorem dX8_rank_0 : decode cX8_rank 0 = .ok (.aload_n 0, 1) := by decide +kernel
theorem dX8_rank_1 : decode cX8_rank 1 = .ok (.getfield 19, 3) := by decide +kernel
theorem dX8_rank_4 : decode cX8_rank 4 = .ok (.iload_n 1, 1) := by decide +kernel
theorem dX8_rank_5 : decode cX8_rank 5 = .ok (.invokevirtual 99, 3) := by decide +kernel
theorem dX8_rank_8 : decode cX8_rank 8 = .ok (.ifCond .eq 15, 3) := by decide +kernel
theorem dX8_rank_11 : decode cX8_rank 11 = .ok (.aload_n 0, 1) := by decide +kernel
theorem dX8_rank_12 : decode cX8_rank 12 = .ok (.getfield 28, 3) := by decide +kernel
theorem dX8_rank_15 : decode cX8_rank 15 = .ok (.getfield 115, 3) := by decide +kernel
theorem dX8_rank_18 : decode cX8_rank 18 = .ok (.iload_n 1, 1) := by decide +kernel
theorem dX8_rank_19 : decode cX8_rank 19 = .ok (.iaload, 1) := by decide +kernel
theorem dX8_rank_20 : decode cX8_rank 20 = .ok (.goto 4, 3) := by decide +kernel
theorem dX8_rank_23 : decode cX8_rank 23 = .ok (.iconst (-1), 1) := by decide +kernel
theorem dX8_rank_24 : decode cX8_rank 24 = .ok (.ireturn, 1) := by decide +kernel
theorem dX8_beside_0 : decode cX8_beside 0 = .ok (.aload_n 0, 1) := by decide +kernel
theorem dX8_beside_1 : decode cX8_beside 1 = .ok (.getfield 19, 3) := by decide +kernel
theorem dX8_beside_4 : decode cX8_beside 4 = .ok (.iload_n 1, 1) := by decide +kernel
theorem dX8_beside_5 : decode cX8_beside 5 = .ok (.invokevirtual 99, 3) := by decide +kernel
theorem dX8_beside_8 : decode cX8_beside 8 = .ok (.ifCond .eq 15, 3) := by decide +kernel
theorem dX8_beside_11 : decode cX8_beside 11 = .ok (.aload_n 0, 1) := by decide +kernel
theorem dX8_beside_12 : decode cX8_beside 12 = .ok (.getfield 28, 3) := by decide +kernel
theorem dX8_beside_15 : decode cX8_beside 15 = .ok (.getfield 118, 3) := by decide +kernel
theorem dX8_beside_18 : decode cX8_beside 18 = .ok (.iload_n 1, 1) := by decide +kernel
theorem dX8_beside_19 : decode cX8_beside 19 = .ok (.iaload, 1) := by decide +kernel
theorem dX8_beside_20 : decode cX8_beside 20 = .ok (.goto 4, 3) := by decide +kernel
theorem dX8_beside_23 : decode cX8_beside 23 = .ok (.iconst (-1), 1) := by decide +kernel
theorem dX8_beside_24 : decode cX8_beside 24 = .ok (.ireturn, 1) := by decide +kernel
theorem dX8_common_0 : decode cX8_common 0 = .ok (.aload_n 0, 1) := by decide +kernel
theorem dX8_common_1 : decode cX8_common 1 = .ok (.getfield 19, 3) := by decide +kernel
theorem dX8_common_4 : decode cX8_common 4 = .ok (.iload_n 1, 1) := by decide +kernel
theorem dX8_common_5 : decode cX8_common 5 = .ok (.invokevirtual 99, 3) := by decide +kernel
theorem dX8_common_8 : decode cX8_common 8 = .ok (.ifCond .eq 14, 3) := by decide +kernel
theorem dX8_common_11 : decode cX8_common 11 = .ok (.aload_n 0, 1) := by decide +kernel
theorem dX8_common_12 : decode cX8_common 12 = .ok (.getfield 19, 3) := by decide +kernel
theorem dX8_common_15 : decode cX8_common 15 = .ok (.iload_n 2, 1) := by decide +kernel
theorem dX8_common_16 : decode cX8_common 16 = .ok (.invokevirtual 99, 3) := by decide +kernel
theorem dX8_common_19 : decode cX8_common 19 = .ok (.ifCond .ne 5, 3) := by decide +kernel
theorem dX8_common_22 : decode cX8_common 22 = .ok (.iconst (-1), 1) := by decide +kernel
theorem dX8_common_23 : decode cX8_common 23 = .ok (.ireturn, 1) := by decide +kernel
theorem dX8_common_24 : decode cX8_common 24 = .ok (.iload_n 1, 1) := by decide +kernel
theorem dX8_common_25 : decode cX8_common 25 = .ok (.iload_n 2, 1) := by decide +kernel
theorem dX8_common_26 : decode cX8_common 26 = .ok (.if_icmp .ne 14, 3) := by decide +kernel
theorem dX8_common_29 : decode cX8_common 29 = .ok (.aload_n 0, 1) := by decide +kernel
theorem dX8_common_30 : decode cX8_common 30 = .ok (.getfield 19, 3) := by decide +kernel
theorem dX8_common_33 : decode cX8_common 33 = .ok (.iload_n 1, 1) := by decide +kernel
theorem dX8_common_34 : decode cX8_common 34 = .ok (.invokevirtual 121, 3) := by decide +kernel
theorem dX8_common_37 : decode cX8_common 37 = .ok (.goto 13, 3) := by decide +kernel
theorem dX8_common_40 : decode cX8_common 40 = .ok (.aload_n 0, 1) := by decide +kernel
theorem dX8_common_41 : decode cX8_common 41 = .ok (.getfield 19, 3) := by decide +kernel
theorem dX8_common_44 : decode cX8_common 44 = .ok (.iload_n 1, 1) := by decide +kernel
theorem dX8_common_45 : decode cX8_common 45 = .ok (.iload_n 2, 1) := by decide +kernel
theorem dX8_common_46 : decode cX8_common 46 = .ok (.iconst 0, 1) := by decide +kernel
theorem dX8_common_47 : decode cX8_common 47 = .ok (.invokevirtual 124, 3) := by decide +kernel
theorem dX8_common_50 : decode cX8_common 50 = .ok (.ireturn, 1) := by decide +kernel
theorem dX8_copy_0 : decode cX8_copy 0 = .ok (.aload_n 0, 1) := by decide +kernel
theorem dX8_copy_1 : decode cX8_copy 1 = .ok (.getfield 19, 3) := by decide +kernel
theorem dX8_copy_4 : decode cX8_copy 4 = .ok (.iload_n 1, 1) := by decide +kernel
theorem dX8_copy_5 : decode cX8_copy 5 = .ok (.invokevirtual 99, 3) := by decide +kernel
theorem dX8_copy_8 : decode cX8_copy 8 = .ok (.ifCond .ne 5, 3) := by decide +kernel
theorem dX8_copy_11 : decode cX8_copy 11 = .ok (.iconst (-1), 1) := by decide +kernel
theorem dX8_copy_12 : decode cX8_copy 12 = .ok (.ireturn, 1) := by decide +kernel
theorem dX8_copy_13 : decode cX8_copy 13 = .ok (.iload_n 2, 1) := by decide +kernel
theorem dX8_copy_14 : decode cX8_copy 14 = .ok (.tableswitch 56 0 2 #[26, 36, 46], 26) := by decide +kernel
theorem dX8_copy_40 : decode cX8_copy 40 = .ok (.aload_n 0, 1) := by decide +kernel
theorem dX8_copy_41 : decode cX8_copy 41 = .ok (.getfield 37, 3) := by decide +kernel
theorem dX8_copy_44 : decode cX8_copy 44 = .ok (.getfield 128, 3) := by decide +kernel
theorem dX8_copy_47 : decode cX8_copy 47 = .ok (.iload_n 1, 1) := by decide +kernel
theorem dX8_copy_48 : decode cX8_copy 48 = .ok (.iaload, 1) := by decide +kernel
theorem dX8_copy_49 : decode cX8_copy 49 = .ok (.ireturn, 1) := by decide +kernel
theorem dX8_copy_50 : decode cX8_copy 50 = .ok (.aload_n 0, 1) := by decide +kernel
theorem dX8_copy_51 : decode cX8_copy 51 = .ok (.getfield 37, 3) := by decide +kernel
theorem dX8_copy_54 : decode cX8_copy 54 = .ok (.getfield 129, 3) := by decide +kernel
theorem dX8_copy_57 : decode cX8_copy 57 = .ok (.iload_n 1, 1) := by decide +kernel
theorem dX8_copy_58 : decode cX8_copy 58 = .ok (.iaload, 1) := by decide +kernel
theorem dX8_copy_59 : decode cX8_copy 59 = .ok (.ireturn, 1) := by decide +kernel
theorem dX8_copy_60 : decode cX8_copy 60 = .ok (.aload_n 0, 1) := by decide +kernel
theorem dX8_copy_61 : decode cX8_copy 61 = .ok (.getfield 37, 3) := by decide +kernel
theorem dX8_copy_64 : decode cX8_copy 64 = .ok (.getfield 132, 3) := by decide +kernel
theorem dX8_copy_67 : decode cX8_copy 67 = .ok (.iload_n 1, 1) := by decide +kernel
theorem dX8_copy_68 : decode cX8_copy 68 = .ok (.iaload, 1) := by decide +kernel
theorem dX8_copy_69 : decode cX8_copy 69 = .ok (.ireturn, 1) := by decide +kernel
theorem dX8_copy_70 : decode cX8_copy 70 = .ok (.iconst (-1), 1) := by decide +kernel
theorem dX8_copy_71 : decode cX8_copy 71 = .ok (.ireturn, 1) := by decide +kernel
theorem dX8_pattern_0 : decode cX8_pattern 0 = .ok (.iload_n 1, 1) := by decide +kernel
theorem dX8_pattern_1 : decode cX8_pattern 1 = .ok (.iload_n 2, 1) := by decide +kernel
theorem dX8_pattern_2 : decode cX8_pattern 2 = .ok (.iload_n 3, 1) := by decide +kernel
theorem dX8_pattern_3 : decode cX8_pattern 3 = .ok (.iload 4, 2) := by decide +kernel
theorem dX8_pattern_5 : decode cX8_pattern 5 = .ok (.invokestatic 62, 3) := by decide +kernel
theorem dX8_pattern_8 : decode cX8_pattern 8 = .ok (.istore 5, 2) := by decide +kernel
theorem dX8_pattern_10 : decode cX8_pattern 10 = .ok (.iload 5, 2) := by decide +kernel
theorem dX8_pattern_12 : decode cX8_pattern 12 = .ok (.iconst (-1), 1) := by decide +kernel
theorem dX8_pattern_13 : decode cX8_pattern 13 = .ok (.if_icmp .eq 18, 3) := by decide +kernel
theorem dX8_pattern_16 : decode cX8_pattern 16 = .ok (.aload_n 0, 1) := by decide +kernel
theorem dX8_pattern_17 : decode cX8_pattern 17 = .ok (.getfield 44, 3) := by decide +kernel
theorem dX8_pattern_20 : decode cX8_pattern 20 = .ok (.getfield 135, 3) := by decide +kernel
theorem dX8_pattern_23 : decode cX8_pattern 23 = .ok (.iload 5, 2) := by decide +kernel
theorem dX8_pattern_25 : decode cX8_pattern 25 = .ok (.iadd, 1) := by decide +kernel
theorem dX8_pattern_26 : decode cX8_pattern 26 = .ok (.bipush 40, 2) := by decide +kernel
theorem dX8_pattern_28 : decode cX8_pattern 28 = .ok (.if_icmp .le 5, 3) := by decide +kernel
theorem dX8_pattern_31 : decode cX8_pattern 31 = .ok (.iconst (-1), 1) := by decide +kernel
theorem dX8_pattern_32 : decode cX8_pattern 32 = .ok (.ireturn, 1) := by decide +kernel
theorem dX8_pattern_33 : decode cX8_pattern 33 = .ok (.aload_n 0, 1) := by decide +kernel
theorem dX8_pattern_34 : decode cX8_pattern 34 = .ok (.getfield 44, 3) := by decide +kernel
theorem dX8_pattern_37 : decode cX8_pattern 37 = .ok (.iload_n 1, 1) := by decide +kernel
theorem dX8_pattern_38 : decode cX8_pattern 38 = .ok (.invokevirtual 138, 3) := by decide +kernel
theorem dX8_pattern_41 : decode cX8_pattern 41 = .ok (.aload_n 0, 1) := by decide +kernel
theorem dX8_pattern_42 : decode cX8_pattern 42 = .ok (.getfield 44, 3) := by decide +kernel
theorem dX8_pattern_45 : decode cX8_pattern 45 = .ok (.iload_n 2, 1) := by decide +kernel
theorem dX8_pattern_46 : decode cX8_pattern 46 = .ok (.invokevirtual 138, 3) := by decide +kernel
theorem dX8_pattern_49 : decode cX8_pattern 49 = .ok (.aload_n 0, 1) := by decide +kernel
theorem dX8_pattern_50 : decode cX8_pattern 50 = .ok (.getfield 44, 3) := by decide +kernel
theorem dX8_pattern_53 : decode cX8_pattern 53 = .ok (.iload_n 3, 1) := by decide +kernel
theorem dX8_pattern_54 : decode cX8_pattern 54 = .ok (.invokevirtual 138, 3) := by decide +kernel
theorem dX8_pattern_57 : decode cX8_pattern 57 = .ok (.aload_n 0, 1) := by decide +kernel
theorem dX8_pattern_58 : decode cX8_pattern 58 = .ok (.getfield 44, 3) := by decide +kernel
theorem dX8_pattern_61 : decode cX8_pattern 61 = .ok (.iload 4, 2) := by decide +kernel
theorem dX8_pattern_63 : decode cX8_pattern 63 = .ok (.invokevirtual 138, 3) := by decide +kernel
theorem dX8_pattern_66 : decode cX8_pattern 66 = .ok (.aload_n 0, 1) := by decide +kernel
theorem dX8_pattern_67 : decode cX8_pattern 67 = .ok (.getfield 44, 3) := by decide +kernel
theorem dX8_pattern_70 : decode cX8_pattern 70 = .ok (.getfield 135, 3) := by decide +kernel
theorem dX8_pattern_73 : decode cX8_pattern 73 = .ok (.ireturn, 1) := by decide +kernel
theorem dX8_wipe_0 : decode cX8_wipe 0 = .ok (.aload_n 0, 1) := by decide +kernel
theorem dX8_wipe_1 : decode cX8_wipe 1 = .ok (.getfield 44, 3) := by decide +kernel
theorem dX8_wipe_4 : decode cX8_wipe 4 = .ok (.getfield 135, 3) := by decide +kernel
theorem dX8_wipe_7 : decode cX8_wipe 7 = .ok (.istore_n 1, 1) := by decide +kernel
theorem dX8_wipe_8 : decode cX8_wipe 8 = .ok (.aload_n 0, 1) := by decide +kernel
theorem dX8_wipe_9 : decode cX8_wipe 9 = .ok (.getfield 44, 3) := by decide +kernel
theorem dX8_wipe_12 : decode cX8_wipe 12 = .ok (.iconst 0, 1) := by decide +kernel
theorem dX8_wipe_13 : decode cX8_wipe 13 = .ok (.putfield 135, 3) := by decide +kernel
theorem dX8_wipe_16 : decode cX8_wipe 16 = .ok (.iload_n 1, 1) := by decide +kernel
theorem dX8_wipe_17 : decode cX8_wipe 17 = .ok (.ireturn, 1) := by decide +kernel
theorem dX8_find_0 : decode cX8_find 0 = .ok (.aload_n 0, 1) := by decide +kernel
theorem dX8_find_1 : decode cX8_find 1 = .ok (.getfield 44, 3) := by decide +kernel
theorem dX8_find_4 : decode cX8_find 4 = .ok (.iconst 0, 1) := by decide +kernel
theorem dX8_find_5 : decode cX8_find 5 = .ok (.invokevirtual 141, 3) := by decide +kernel
theorem dX8_find_8 : decode cX8_find 8 = .ok (.istore_n 2, 1) := by decide +kernel
theorem dX8_find_9 : decode cX8_find 9 = .ok (.aload_n 0, 1) := by decide +kernel
theorem dX8_find_10 : decode cX8_find 10 = .ok (.getfield 44, 3) := by decide +kernel
theorem dX8_find_13 : decode cX8_find 13 = .ok (.iconst 1, 1) := by decide +kernel
theorem dX8_find_14 : decode cX8_find 14 = .ok (.invokevirtual 141, 3) := by decide +kernel
theorem dX8_find_17 : decode cX8_find 17 = .ok (.istore_n 3, 1) := by decide +kernel
theorem dX8_find_18 : decode cX8_find 18 = .ok (.iload_n 1, 1) := by decide +kernel
theorem dX8_find_19 : decode cX8_find 19 = .ok (.tableswitch 82 0 5 #[37, 41, 43, 53, 63, 73], 37) := by decide +kernel
theorem dX8_find_56 : decode cX8_find 56 = .ok (.iload_n 3, 1) := by decide +kernel
theorem dX8_find_57 : decode cX8_find 57 = .ok (.iload_n 2, 1) := by decide +kernel
theorem dX8_find_58 : decode cX8_find 58 = .ok (.isub, 1) := by decide +kernel
theorem dX8_find_59 : decode cX8_find 59 = .ok (.ireturn, 1) := by decide +kernel
theorem dX8_find_60 : decode cX8_find 60 = .ok (.iload_n 2, 1) := by decide +kernel
theorem dX8_find_61 : decode cX8_find 61 = .ok (.ireturn, 1) := by decide +kernel
theorem dX8_find_62 : decode cX8_find 62 = .ok (.aload_n 0, 1) := by decide +kernel
theorem dX8_find_63 : decode cX8_find 63 = .ok (.getfield 28, 3) := by decide +kernel
theorem dX8_find_66 : decode cX8_find 66 = .ok (.iload_n 2, 1) := by decide +kernel
theorem dX8_find_67 : decode cX8_find 67 = .ok (.iload_n 3, 1) := by decide +kernel
theorem dX8_find_68 : decode cX8_find 68 = .ok (.invokevirtual 144, 3) := by decide +kernel
theorem dX8_find_71 : decode cX8_find 71 = .ok (.ireturn, 1) := by decide +kernel
theorem dX8_find_72 : decode cX8_find 72 = .ok (.aload_n 0, 1) := by decide +kernel
theorem dX8_find_73 : decode cX8_find 73 = .ok (.getfield 28, 3) := by decide +kernel
theorem dX8_find_76 : decode cX8_find 76 = .ok (.iload_n 2, 1) := by decide +kernel
theorem dX8_find_77 : decode cX8_find 77 = .ok (.iload_n 3, 1) := by decide +kernel
theorem dX8_find_78 : decode cX8_find 78 = .ok (.invokevirtual 148, 3) := by decide +kernel
theorem dX8_find_81 : decode cX8_find 81 = .ok (.ireturn, 1) := by decide +kernel
theorem dX8_find_82 : decode cX8_find 82 = .ok (.aload_n 0, 1) := by decide +kernel
theorem dX8_find_83 : decode cX8_find 83 = .ok (.getfield 28, 3) := by decide +kernel
theorem dX8_find_86 : decode cX8_find 86 = .ok (.iload_n 2, 1) := by decide +kernel
theorem dX8_find_87 : decode cX8_find 87 = .ok (.iload_n 3, 1) := by decide +kernel
theorem dX8_find_88 : decode cX8_find 88 = .ok (.invokevirtual 151, 3) := by decide +kernel
theorem dX8_find_91 : decode cX8_find 91 = .ok (.ireturn, 1) := by decide +kernel
theorem dX8_find_92 : decode cX8_find 92 = .ok (.aload_n 0, 1) := by decide +kernel
theorem dX8_find_93 : decode cX8_find 93 = .ok (.getfield 44, 3) := by decide +kernel
theorem dX8_find_96 : decode cX8_find 96 = .ok (.iload_n 2, 1) := by decide +kernel
theorem dX8_find_97 : decode cX8_find 97 = .ok (.invokevirtual 154, 3) := by decide +kernel
theorem dX8_find_100 : decode cX8_find 100 = .ok (.ireturn, 1) := by decide +kernel
theorem dX8_find_101 : decode cX8_find 101 = .ok (.iconst (-1), 1) := by decide +kernel
theorem dX8_find_102 : decode cX8_find 102 = .ok (.ireturn, 1) := by decide +kernel
theorem dX8_where_0 : decode cX8_where 0 = .ok (.iload_n 1, 1) := by decide +kernel
theorem dX8_where_1 : decode cX8_where 1 = .ok (.ifCond .ge 7, 3) := by decide +kernel
theorem dX8_where_4 : decode cX8_where 4 = .ok (.iconst (-1), 1) := by decide +kernel
theorem dX8_where_5 : decode cX8_where 5 = .ok (.goto 11, 3) := by decide +kernel
theorem dX8_where_8 : decode cX8_where 8 = .ok (.aload_n 0, 1) := by decide +kernel
theorem dX8_where_9 : decode cX8_where 9 = .ok (.getfield 44, 3) := by decide +kernel
theorem dX8_where_12 : decode cX8_where 12 = .ok (.iload_n 1, 1) := by decide +kernel
theorem dX8_where_13 : decode cX8_where 13 = .ok (.invokevirtual 157, 3) := by decide +kernel
theorem dX8_where_16 : decode cX8_where 16 = .ok (.ireturn, 1) := by decide +kernel
theorem dX8_different_0 : decode cX8_different 0 = .ok (.aload_n 0, 1) := by decide +kernel
theorem dX8_different_1 : decode cX8_different 1 = .ok (.getfield 51, 3) := by decide +kernel
theorem dX8_different_4 : decode cX8_different 4 = .ok (.invokevirtual 160, 3) := by decide +kernel
theorem dX8_different_7 : decode cX8_different 7 = .ok (.lreturn, 1) := by decide +kernel
theorem dX8_repeats_0 : decode cX8_repeats 0 = .ok (.iload_n 1, 1) := by decide +kernel
theorem dX8_repeats_1 : decode cX8_repeats 1 = .ok (.iconst 1, 1) := by decide +kernel
theorem dX8_repeats_2 : decode cX8_repeats 2 = .ok (.if_icmp .lt 15, 3) := by decide +kernel
theorem dX8_repeats_5 : decode cX8_repeats 5 = .ok (.iload_n 2, 1) := by decide +kernel
theorem dX8_repeats_6 : decode cX8_repeats 6 = .ok (.iconst 1, 1) := by decide +kernel
theorem dX8_repeats_7 : decode cX8_repeats 7 = .ok (.if_icmp .lt 10, 3) := by decide +kernel
theorem dX8_repeats_10 : decode cX8_repeats 10 = .ok (.iload_n 2, 1) := by decide +kernel
theorem dX8_repeats_11 : decode cX8_repeats 11 = .ok (.sipush 408, 3) := by decide +kernel
theorem dX8_repeats_14 : decode cX8_repeats 14 = .ok (.if_icmp .le 5, 3) := by decide +kernel
theorem dX8_repeats_17 : decode cX8_repeats 17 = .ok (.iconst (-1), 1) := by decide +kernel
theorem dX8_repeats_18 : decode cX8_repeats 18 = .ok (.ireturn, 1) := by decide +kernel
theorem dX8_repeats_19 : decode cX8_repeats 19 = .ok (.aload_n 0, 1) := by decide +kernel
theorem dX8_repeats_20 : decode cX8_repeats 20 = .ok (.getfield 51, 3) := by decide +kernel
theorem dX8_repeats_23 : decode cX8_repeats 23 = .ok (.iload_n 1, 1) := by decide +kernel
theorem dX8_repeats_24 : decode cX8_repeats 24 = .ok (.iload_n 2, 1) := by decide +kernel
theorem dX8_repeats_25 : decode cX8_repeats 25 = .ok (.invokevirtual 164, 3) := by decide +kernel
theorem dX8_repeats_28 : decode cX8_repeats 28 = .ok (.ireturn, 1) := by decide +kernel
theorem dX8_longest_0 : decode cX8_longest 0 = .ok (.iload_n 1, 1) := by decide +kernel
theorem dX8_longest_1 : decode cX8_longest 1 = .ok (.iconst 2, 1) := by decide +kernel
theorem dX8_longest_2 : decode cX8_longest 2 = .ok (.if_icmp .lt 19, 3) := by decide +kernel
theorem dX8_longest_5 : decode cX8_longest 5 = .ok (.iload_n 1, 1) := by decide +kernel
theorem dX8_longest_6 : decode cX8_longest 6 = .ok (.sipush 408, 3) := by decide +kernel
theorem dX8_longest_9 : decode cX8_longest 9 = .ok (.if_icmp .gt 12, 3) := by decide +kernel
theorem dX8_longest_12 : decode cX8_longest 12 = .ok (.iload_n 2, 1) := by decide +kernel
theorem dX8_longest_13 : decode cX8_longest 13 = .ok (.ifCond .lt 8, 3) := by decide +kernel
theorem dX8_longest_16 : decode cX8_longest 16 = .ok (.iload_n 2, 1) := by decide +kernel
theorem dX8_longest_17 : decode cX8_longest 17 = .ok (.iconst 2, 1) := by decide +kernel
theorem dX8_longest_18 : decode cX8_longest 18 = .ok (.if_icmp .le 5, 3) := by decide +kernel
theorem dX8_longest_21 : decode cX8_longest 21 = .ok (.iconst (-1), 1) := by decide +kernel
theorem dX8_longest_22 : decode cX8_longest 22 = .ok (.ireturn, 1) := by decide +kernel
theorem dX8_longest_23 : decode cX8_longest 23 = .ok (.aload_n 0, 1) := by decide +kernel
theorem dX8_longest_24 : decode cX8_longest 24 = .ok (.getfield 51, 3) := by decide +kernel
theorem dX8_longest_27 : decode cX8_longest 27 = .ok (.iload_n 1, 1) := by decide +kernel
theorem dX8_longest_28 : decode cX8_longest 28 = .ok (.iconst 0, 1) := by decide +kernel
theorem dX8_longest_29 : decode cX8_longest 29 = .ok (.iload_n 2, 1) := by decide +kernel
theorem dX8_longest_30 : decode cX8_longest 30 = .ok (.invokevirtual 167, 3) := by decide +kernel
theorem dX8_longest_33 : decode cX8_longest 33 = .ok (.ireturn, 1) := by decide +kernel
theorem dX8_shared_0 : decode cX8_shared 0 = .ok (.iload_n 1, 1) := by decide +kernel
theorem dX8_shared_1 : decode cX8_shared 1 = .ok (.iconst 1, 1) := by decide +kernel
theorem dX8_shared_2 : decode cX8_shared 2 = .ok (.if_icmp .lt 18, 3) := by decide +kernel
theorem dX8_shared_5 : decode cX8_shared 5 = .ok (.iload_n 1, 1) := by decide +kernel
theorem dX8_shared_6 : decode cX8_shared 6 = .ok (.bipush 8, 2) := by decide +kernel
theorem dX8_shared_8 : decode cX8_shared 8 = .ok (.if_icmp .gt 12, 3) := by decide +kernel
theorem dX8_shared_11 : decode cX8_shared 11 = .ok (.iload_n 2, 1) := by decide +kernel
theorem dX8_shared_12 : decode cX8_shared 12 = .ok (.ifCond .lt 8, 3) := by decide +kernel
theorem dX8_shared_15 : decode cX8_shared 15 = .ok (.iload_n 2, 1) := by decide +kernel
theorem dX8_shared_16 : decode cX8_shared 16 = .ok (.iconst 3, 1) := by decide +kernel
theorem dX8_shared_17 : decode cX8_shared 17 = .ok (.if_icmp .le 5, 3) := by decide +kernel
theorem dX8_shared_20 : decode cX8_shared 20 = .ok (.iconst (-1), 1) := by decide +kernel
theorem dX8_shared_21 : decode cX8_shared 21 = .ok (.ireturn, 1) := by decide +kernel
theorem dX8_shared_22 : decode cX8_shared 22 = .ok (.aload_n 0, 1) := by decide +kernel
theorem dX8_shared_23 : decode cX8_shared 23 = .ok (.getfield 51, 3) := by decide +kernel
theorem dX8_shared_26 : decode cX8_shared 26 = .ok (.iload_n 1, 1) := by decide +kernel
theorem dX8_shared_27 : decode cX8_shared 27 = .ok (.iconst 1, 1) := by decide +kernel
theorem dX8_shared_28 : decode cX8_shared 28 = .ok (.iload_n 2, 1) := by decide +kernel
theorem dX8_shared_29 : decode cX8_shared 29 = .ok (.invokevirtual 167, 3) := by decide +kernel
theorem dX8_shared_32 : decode cX8_shared 32 = .ok (.ireturn, 1) := by decide +kernel
theorem dX8_before_0 : decode cX8_before 0 = .ok (.aload_n 0, 1) := by decide +kernel
theorem dX8_before_1 : decode cX8_before 1 = .ok (.getfield 19, 3) := by decide +kernel
theorem dX8_before_4 : decode cX8_before 4 = .ok (.iload_n 1, 1) := by decide +kernel
theorem dX8_before_5 : decode cX8_before 5 = .ok (.invokevirtual 99, 3) := by decide +kernel
theorem dX8_before_8 : decode cX8_before 8 = .ok (.ifCond .eq 29, 3) := by decide +kernel
theorem dX8_before_11 : decode cX8_before 11 = .ok (.aload_n 0, 1) := by decide +kernel
theorem dX8_before_12 : decode cX8_before 12 = .ok (.getfield 19, 3) := by decide +kernel
theorem dX8_before_15 : decode cX8_before 15 = .ok (.aload_n 0, 1) := by decide +kernel
theorem dX8_before_16 : decode cX8_before 16 = .ok (.getfield 19, 3) := by decide +kernel
theorem dX8_before_19 : decode cX8_before 19 = .ok (.aload_n 0, 1) := by decide +kernel
theorem dX8_before_20 : decode cX8_before 20 = .ok (.getfield 28, 3) := by decide +kernel
theorem dX8_before_23 : decode cX8_before 23 = .ok (.getfield 112, 3) := by decide +kernel
theorem dX8_before_26 : decode cX8_before 26 = .ok (.iload_n 1, 1) := by decide +kernel
theorem dX8_before_27 : decode cX8_before 27 = .ok (.iaload, 1) := by decide +kernel
theorem dX8_before_28 : decode cX8_before 28 = .ok (.invokevirtual 171, 3) := by decide +kernel
theorem dX8_before_31 : decode cX8_before 31 = .ok (.invokevirtual 102, 3) := by decide +kernel
theorem dX8_before_34 : decode cX8_before 34 = .ok (.goto 4, 3) := by decide +kernel
theorem dX8_before_37 : decode cX8_before 37 = .ok (.iconst (-1), 1) := by decide +kernel
theorem dX8_before_38 : decode cX8_before 38 = .ok (.ireturn, 1) := by decide +kernel
theorem dX8_back_0 : decode cX8_back 0 = .ok (.aload_n 0, 1) := by decide +kernel
theorem dX8_back_1 : decode cX8_back 1 = .ok (.getfield 19, 3) := by decide +kernel
theorem dX8_back_4 : decode cX8_back 4 = .ok (.iload_n 1, 1) := by decide +kernel
theorem dX8_back_5 : decode cX8_back 5 = .ok (.invokevirtual 99, 3) := by decide +kernel
theorem dX8_back_8 : decode cX8_back 8 = .ok (.ifCond .eq 30, 3) := by decide +kernel
theorem dX8_back_11 : decode cX8_back 11 = .ok (.aload_n 0, 1) := by decide +kernel
theorem dX8_back_12 : decode cX8_back 12 = .ok (.getfield 28, 3) := by decide +kernel
theorem dX8_back_15 : decode cX8_back 15 = .ok (.getfield 115, 3) := by decide +kernel
theorem dX8_back_18 : decode cX8_back 18 = .ok (.aload_n 0, 1) := by decide +kernel
theorem dX8_back_19 : decode cX8_back 19 = .ok (.getfield 19, 3) := by decide +kernel
theorem dX8_back_22 : decode cX8_back 22 = .ok (.aload_n 0, 1) := by decide +kernel
theorem dX8_back_23 : decode cX8_back 23 = .ok (.getfield 28, 3) := by decide +kernel
theorem dX8_back_26 : decode cX8_back 26 = .ok (.getfield 112, 3) := by decide +kernel
theorem dX8_back_29 : decode cX8_back 29 = .ok (.iload_n 1, 1) := by decide +kernel
theorem dX8_back_30 : decode cX8_back 30 = .ok (.iaload, 1) := by decide +kernel
theorem dX8_back_31 : decode cX8_back 31 = .ok (.invokevirtual 171, 3) := by decide +kernel
theorem dX8_back_34 : decode cX8_back 34 = .ok (.iaload, 1) := by decide +kernel
theorem dX8_back_35 : decode cX8_back 35 = .ok (.goto 4, 3) := by decide +kernel
theorem dX8_back_38 : decode cX8_back 38 = .ok (.iconst (-1), 1) := by decide +kernel
theorem dX8_back_39 : decode cX8_back 39 = .ok (.ireturn, 1) := by decide +kernel
theorem dX8_steps_0 : decode cX8_steps 0 = .ok (.aload_n 0, 1) := by decide +kernel
theorem dX8_steps_1 : decode cX8_steps 1 = .ok (.getfield 19, 3) := by decide +kernel
theorem dX8_steps_4 : decode cX8_steps 4 = .ok (.iload_n 1, 1) := by decide +kernel
theorem dX8_steps_5 : decode cX8_steps 5 = .ok (.invokevirtual 99, 3) := by decide +kernel
theorem dX8_steps_8 : decode cX8_steps 8 = .ok (.ifCond .eq 14, 3) := by decide +kernel
theorem dX8_steps_11 : decode cX8_steps 11 = .ok (.iload_n 2, 1) := by decide +kernel
theorem dX8_steps_12 : decode cX8_steps 12 = .ok (.iconst 1, 1) := by decide +kernel
theorem dX8_steps_13 : decode cX8_steps 13 = .ok (.if_icmp .lt 9, 3) := by decide +kernel
theorem dX8_steps_16 : decode cX8_steps 16 = .ok (.iload_n 2, 1) := by decide +kernel
theorem dX8_steps_17 : decode cX8_steps 17 = .ok (.bipush 64, 2) := by decide +kernel
theorem dX8_steps_19 : decode cX8_steps 19 = .ok (.if_icmp .le 5, 3) := by decide +kernel
theorem dX8_steps_22 : decode cX8_steps 22 = .ok (.iconst (-1), 1) := by decide +kernel
theorem dX8_steps_23 : decode cX8_steps 23 = .ok (.ireturn, 1) := by decide +kernel
theorem dX8_steps_24 : decode cX8_steps 24 = .ok (.aload_n 0, 1) := by decide +kernel
theorem dX8_steps_25 : decode cX8_steps 25 = .ok (.getfield 28, 3) := by decide +kernel
theorem dX8_steps_28 : decode cX8_steps 28 = .ok (.getfield 112, 3) := by decide +kernel
theorem dX8_steps_31 : decode cX8_steps 31 = .ok (.iload_n 1, 1) := by decide +kernel
theorem dX8_steps_32 : decode cX8_steps 32 = .ok (.iaload, 1) := by decide +kernel
theorem dX8_steps_33 : decode cX8_steps 33 = .ok (.iload_n 2, 1) := by decide +kernel
theorem dX8_steps_34 : decode cX8_steps 34 = .ok (.irem, 1) := by decide +kernel
theorem dX8_steps_35 : decode cX8_steps 35 = .ok (.ireturn, 1) := by decide +kernel
theorem dX8_swap_0 : decode cX8_swap 0 = .ok (.aload_n 0, 1) := by decide +kernel
theorem dX8_swap_1 : decode cX8_swap 1 = .ok (.getfield 19, 3) := by decide +kernel
theorem dX8_swap_4 : decode cX8_swap 4 = .ok (.iload_n 1, 1) := by decide +kernel
theorem dX8_swap_5 : decode cX8_swap 5 = .ok (.invokevirtual 99, 3) := by decide +kernel
theorem dX8_swap_8 : decode cX8_swap 8 = .ok (.ifCond .eq 14, 3) := by decide +kernel
theorem dX8_swap_11 : decode cX8_swap 11 = .ok (.aload_n 0, 1) := by decide +kernel
theorem dX8_swap_12 : decode cX8_swap 12 = .ok (.getfield 19, 3) := by decide +kernel
theorem dX8_swap_15 : decode cX8_swap 15 = .ok (.iload_n 2, 1) := by decide +kernel
theorem dX8_swap_16 : decode cX8_swap 16 = .ok (.invokevirtual 99, 3) := by decide +kernel
theorem dX8_swap_19 : decode cX8_swap 19 = .ok (.ifCond .ne 5, 3) := by decide +kernel
theorem dX8_swap_22 : decode cX8_swap 22 = .ok (.iconst (-1), 1) := by decide +kernel
theorem dX8_swap_23 : decode cX8_swap 23 = .ok (.ireturn, 1) := by decide +kernel
theorem dX8_swap_24 : decode cX8_swap 24 = .ok (.aload_n 0, 1) := by decide +kernel
theorem dX8_swap_25 : decode cX8_swap 25 = .ok (.getfield 58, 3) := by decide +kernel
theorem dX8_swap_28 : decode cX8_swap 28 = .ok (.iload_n 2, 1) := by decide +kernel
theorem dX8_swap_29 : decode cX8_swap 29 = .ok (.aload_n 0, 1) := by decide +kernel
theorem dX8_swap_30 : decode cX8_swap 30 = .ok (.getfield 58, 3) := by decide +kernel
theorem dX8_swap_33 : decode cX8_swap 33 = .ok (.getfield 174, 3) := by decide +kernel
theorem dX8_swap_36 : decode cX8_swap 36 = .ok (.iload_n 1, 1) := by decide +kernel
theorem dX8_swap_37 : decode cX8_swap 37 = .ok (.iaload, 1) := by decide +kernel
theorem dX8_swap_38 : decode cX8_swap 38 = .ok (.invokevirtual 177, 3) := by decide +kernel
theorem dX8_swap_41 : decode cX8_swap 41 = .ok (.istore_n 3, 1) := by decide +kernel
theorem dX8_swap_42 : decode cX8_swap 42 = .ok (.aload_n 0, 1) := by decide +kernel
theorem dX8_swap_43 : decode cX8_swap 43 = .ok (.getfield 58, 3) := by decide +kernel
theorem dX8_swap_46 : decode cX8_swap 46 = .ok (.iload_n 1, 1) := by decide +kernel
theorem dX8_swap_47 : decode cX8_swap 47 = .ok (.iload_n 3, 1) := by decide +kernel
theorem dX8_swap_48 : decode cX8_swap 48 = .ok (.invokevirtual 177, 3) := by decide +kernel
theorem dX8_swap_51 : decode cX8_swap 51 = .ok (.pop, 1) := by decide +kernel
theorem dX8_swap_52 : decode cX8_swap 52 = .ok (.iconst 1, 1) := by decide +kernel
theorem dX8_swap_53 : decode cX8_swap 53 = .ok (.ireturn, 1) := by decide +kernel
theorem dX8_tell_0 : decode cX8_tell 0 = .ok (.aload_n 0, 1) := by decide +kernel
theorem dX8_tell_1 : decode cX8_tell 1 = .ok (.getfield 19, 3) := by decide +kernel
theorem dX8_tell_4 : decode cX8_tell 4 = .ok (.iload_n 1, 1) := by decide +kernel
theorem dX8_tell_5 : decode cX8_tell 5 = .ok (.invokevirtual 99, 3) := by decide +kernel
theorem dX8_tell_8 : decode cX8_tell 8 = .ok (.ifCond .eq 15, 3) := by decide +kernel
theorem dX8_tell_11 : decode cX8_tell 11 = .ok (.aload_n 0, 1) := by decide +kernel
theorem dX8_tell_12 : decode cX8_tell 12 = .ok (.getfield 58, 3) := by decide +kernel
theorem dX8_tell_15 : decode cX8_tell 15 = .ok (.iload_n 1, 1) := by decide +kernel
theorem dX8_tell_16 : decode cX8_tell 16 = .ok (.iload_n 2, 1) := by decide +kernel
theorem dX8_tell_17 : decode cX8_tell 17 = .ok (.invokevirtual 177, 3) := by decide +kernel
theorem dX8_tell_20 : decode cX8_tell 20 = .ok (.goto 4, 3) := by decide +kernel
theorem dX8_tell_23 : decode cX8_tell 23 = .ok (.iconst (-1), 1) := by decide +kernel
theorem dX8_tell_24 : decode cX8_tell 24 = .ok (.ireturn, 1) := by decide +kernel
theorem dX8_judge_0 : decode cX8_judge 0 = .ok (.aload_n 0, 1) := by decide +kernel
theorem dX8_judge_1 : decode cX8_judge 1 = .ok (.getfield 58, 3) := by decide +kernel
theorem dX8_judge_4 : decode cX8_judge 4 = .ok (.invokevirtual 180, 3) := by decide +kernel
theorem dX8_judge_7 : decode cX8_judge 7 = .ok (.ireturn, 1) := by decide +kernel
theorem dX8_isText_0 : decode cX8_isText 0 = .ok (.iload_n 0, 1) := by decide +kernel
theorem dX8_isText_1 : decode cX8_isText 1 = .ok (.ifCond .lt 13, 3) := by decide +kernel
theorem dX8_isText_4 : decode cX8_isText 4 = .ok (.iload_n 0, 1) := by decide +kernel
theorem dX8_isText_5 : decode cX8_isText 5 = .ok (.bipush 8, 2) := by decide +kernel
theorem dX8_isText_7 : decode cX8_isText 7 = .ok (.if_icmp .ge 7, 3) := by decide +kernel
theorem dX8_isText_10 : decode cX8_isText 10 = .ok (.iconst 1, 1) := by decide +kernel
theorem dX8_isText_11 : decode cX8_isText 11 = .ok (.goto 4, 3) := by decide +kernel
theorem dX8_isText_14 : decode cX8_isText 14 = .ok (.iconst 0, 1) := by decide +kernel
theorem dX8_isText_15 : decode cX8_isText 15 = .ok (.ireturn, 1) := by decide +kernel
theorem dX8_countSigns_0 : decode cX8_countSigns 0 = .ok (.iload_n 0, 1) := by decide +kernel
theorem dX8_countSigns_1 : decode cX8_countSigns 1 = .ok (.invokestatic 184, 3) := by decide +kernel
theorem dX8_countSigns_4 : decode cX8_countSigns 4 = .ok (.ifCond .eq 24, 3) := by decide +kernel
theorem dX8_countSigns_7 : decode cX8_countSigns 7 = .ok (.iload_n 1, 1) := by decide +kernel
theorem dX8_countSigns_8 : decode cX8_countSigns 8 = .ok (.invokestatic 184, 3) := by decide +kernel
theorem dX8_countSigns_11 : decode cX8_countSigns 11 = .ok (.ifCond .eq 17, 3) := by decide +kernel
theorem dX8_countSigns_14 : decode cX8_countSigns 14 = .ok (.iload_n 2, 1) := by decide +kernel
theorem dX8_countSigns_15 : decode cX8_countSigns 15 = .ok (.invokestatic 184, 3) := by decide +kernel
theorem dX8_countSigns_18 : decode cX8_countSigns 18 = .ok (.ifCond .eq 10, 3) := by decide +kernel
theorem dX8_countSigns_21 : decode cX8_countSigns 21 = .ok (.iload_n 3, 1) := by decide +kernel
theorem dX8_countSigns_22 : decode cX8_countSigns 22 = .ok (.invokestatic 184, 3) := by decide +kernel
theorem dX8_countSigns_25 : decode cX8_countSigns 25 = .ok (.ifCond .ne 5, 3) := by decide +kernel
theorem dX8_countSigns_28 : decode cX8_countSigns 28 = .ok (.iconst (-1), 1) := by decide +kernel
theorem dX8_countSigns_29 : decode cX8_countSigns 29 = .ok (.ireturn, 1) := by decide +kernel
theorem dX8_countSigns_30 : decode cX8_countSigns 30 = .ok (.iload_n 0, 1) := by decide +kernel
theorem dX8_countSigns_31 : decode cX8_countSigns 31 = .ok (.invokestatic 187, 3) := by decide +kernel
theorem dX8_countSigns_34 : decode cX8_countSigns 34 = .ok (.iload_n 1, 1) := by decide +kernel
theorem dX8_countSigns_35 : decode cX8_countSigns 35 = .ok (.invokestatic 187, 3) := by decide +kernel
theorem dX8_countSigns_38 : decode cX8_countSigns 38 = .ok (.iadd, 1) := by decide +kernel
theorem dX8_countSigns_39 : decode cX8_countSigns 39 = .ok (.iload_n 2, 1) := by decide +kernel
theorem dX8_countSigns_40 : decode cX8_countSigns 40 = .ok (.invokestatic 187, 3) := by decide +kernel
theorem dX8_countSigns_43 : decode cX8_countSigns 43 = .ok (.iadd, 1) := by decide +kernel
theorem dX8_countSigns_44 : decode cX8_countSigns 44 = .ok (.iload_n 3, 1) := by decide +kernel
theorem dX8_countSigns_45 : decode cX8_countSigns 45 = .ok (.invokestatic 187, 3) := by decide +kernel
theorem dX8_countSigns_48 : decode cX8_countSigns 48 = .ok (.iadd, 1) := by decide +kernel
theorem dX8_countSigns_49 : decode cX8_countSigns 49 = .ok (.ireturn, 1) := by decide +kernel
theorem dX8_isSignOrNone_0 : decode cX8_isSignOrNone 0 = .ok (.iload_n 0, 1) := by decide +kernel
theorem dX8_isSignOrNone_1 : decode cX8_isSignOrNone 1 = .ok (.iconst (-1), 1) := by decide +kernel
theorem dX8_isSignOrNone_2 : decode cX8_isSignOrNone 2 = .ok (.if_icmp .lt 14, 3) := by decide +kernel
theorem dX8_isSignOrNone_5 : decode cX8_isSignOrNone 5 = .ok (.iload_n 0, 1) := by decide +kernel
theorem dX8_isSignOrNone_6 : decode cX8_isSignOrNone 6 = .ok (.sipush 999, 3) := by decide +kernel
theorem dX8_isSignOrNone_9 : decode cX8_isSignOrNone 9 = .ok (.if_icmp .gt 7, 3) := by decide +kernel
theorem dX8_isSignOrNone_12 : decode cX8_isSignOrNone 12 = .ok (.iconst 1, 1) := by decide +kernel
theorem dX8_isSignOrNone_13 : decode cX8_isSignOrNone 13 = .ok (.goto 4, 3) := by decide +kernel
theorem dX8_isSignOrNone_16 : decode cX8_isSignOrNone 16 = .ok (.iconst 0, 1) := by decide +kernel
theorem dX8_isSignOrNone_17 : decode cX8_isSignOrNone 17 = .ok (.ireturn, 1) := by decide +kernel
theorem dX8_oneIfSign_0 : decode cX8_oneIfSign 0 = .ok (.iload_n 0, 1) := by decide +kernel
theorem dX8_oneIfSign_1 : decode cX8_oneIfSign 1 = .ok (.iconst (-1), 1) := by decide +kernel
theorem dX8_oneIfSign_2 : decode cX8_oneIfSign 2 = .ok (.if_icmp .ne 7, 3) := by decide +kernel
theorem dX8_oneIfSign_5 : decode cX8_oneIfSign 5 = .ok (.iconst 0, 1) := by decide +kernel
theorem dX8_oneIfSign_6 : decode cX8_oneIfSign 6 = .ok (.goto 4, 3) := by decide +kernel
theorem dX8_oneIfSign_9 : decode cX8_oneIfSign 9 = .ok (.iconst 1, 1) := by decide +kernel
theorem dX8_oneIfSign_10 : decode cX8_oneIfSign 10 = .ok (.ireturn, 1) := by decide +kernel
