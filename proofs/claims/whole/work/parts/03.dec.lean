theorem dX0_init_0 : decode cX0_init 0 = .ok (.aload_n 0, 1) := by decide +kernel
theorem dX0_init_1 : decode cX0_init 1 = .ok (.invokespecial 3, 3) := by decide +kernel
theorem dX0_init_4 : decode cX0_init 4 = .ok (.aload_n 0, 1) := by decide +kernel
theorem dX0_init_5 : decode cX0_init 5 = .ok (.sipush 408, 3) := by decide +kernel
theorem dX0_init_8 : decode cX0_init 8 = .ok (.newarray .int, 2) := by decide +kernel
theorem dX0_init_10 : decode cX0_init 10 = .ok (.putfield 9, 3) := by decide +kernel
theorem dX0_init_13 : decode cX0_init 13 = .ok (.aload_n 0, 1) := by decide +kernel
theorem dX0_init_14 : decode cX0_init 14 = .ok (.sipush 408, 3) := by decide +kernel
theorem dX0_init_17 : decode cX0_init 17 = .ok (.newarray .int, 2) := by decide +kernel
theorem dX0_init_19 : decode cX0_init 19 = .ok (.putfield 15, 3) := by decide +kernel
theorem dX0_init_22 : decode cX0_init 22 = .ok (.aload_n 0, 1) := by decide +kernel
theorem dX0_init_23 : decode cX0_init 23 = .ok (.sipush 408, 3) := by decide +kernel
theorem dX0_init_26 : decode cX0_init 26 = .ok (.newarray .int, 2) := by decide +kernel
theorem dX0_init_28 : decode cX0_init 28 = .ok (.putfield 18, 3) := by decide +kernel
theorem dX0_init_31 : decode cX0_init 31 = .ok (.aload_n 0, 1) := by decide +kernel
theorem dX0_init_32 : decode cX0_init 32 = .ok (.sipush 408, 3) := by decide +kernel
theorem dX0_init_35 : decode cX0_init 35 = .ok (.newarray .int, 2) := by decide +kernel
theorem dX0_init_37 : decode cX0_init 37 = .ok (.putfield 21, 3) := by decide +kernel
theorem dX0_init_40 : decode cX0_init 40 = .ok (.aload_n 0, 1) := by decide +kernel
theorem dX0_init_41 : decode cX0_init 41 = .ok (.sipush 408, 3) := by decide +kernel
theorem dX0_init_44 : decode cX0_init 44 = .ok (.newarray .int, 2) := by decide +kernel
theorem dX0_init_46 : decode cX0_init 46 = .ok (.putfield 24, 3) := by decide +kernel
theorem dX0_init_49 : decode cX0_init 49 = .ok (.aload_n 0, 1) := by decide +kernel
theorem dX0_init_50 : decode cX0_init 50 = .ok (.sipush 408, 3) := by decide +kernel
theorem dX0_init_53 : decode cX0_init 53 = .ok (.newarray .int, 2) := by decide +kernel
theorem dX0_init_55 : decode cX0_init 55 = .ok (.putfield 27, 3) := by decide +kernel
theorem dX0_init_58 : decode cX0_init 58 = .ok (.aload_n 0, 1) := by decide +kernel
theorem dX0_init_59 : decode cX0_init 59 = .ok (.aload_n 1, 1) := by decide +kernel
theorem dX0_init_60 : decode cX0_init 60 = .ok (.putfield 30, 3) := by decide +kernel
theorem dX0_init_63 : decode cX0_init 63 = .ok (.aload_n 0, 1) := by decide +kernel
theorem dX0_init_64 : decode cX0_init 64 = .ok (.aload_n 2, 1) := by decide +kernel
theorem dX0_init_65 : decode cX0_init 65 = .ok (.putfield 34, 3) := by decide +kernel
theorem dX0_init_68 : decode cX0_init 68 = .ok (.return_, 1) := by decide +kernel
theorem dX0_make_0 : decode cX0_make 0 = .ok (.aload_n 0, 1) := by decide +kernel
theorem dX0_make_1 : decode cX0_make 1 = .ok (.invokevirtual 38, 3) := by decide +kernel
theorem dX0_make_4 : decode cX0_make 4 = .ok (.aload_n 0, 1) := by decide +kernel
theorem dX0_make_5 : decode cX0_make 5 = .ok (.getfield 30, 3) := by decide +kernel
theorem dX0_make_8 : decode cX0_make 8 = .ok (.getfield 41, 3) := by decide +kernel
theorem dX0_make_11 : decode cX0_make 11 = .ok (.iconst 1, 1) := by decide +kernel
theorem dX0_make_12 : decode cX0_make 12 = .ok (.isub, 1) := by decide +kernel
theorem dX0_make_13 : decode cX0_make 13 = .ok (.istore_n 1, 1) := by decide +kernel
theorem dX0_make_14 : decode cX0_make 14 = .ok (.iload_n 1, 1) := by decide +kernel
theorem dX0_make_15 : decode cX0_make 15 = .ok (.ifCond .lt 27, 3) := by decide +kernel
theorem dX0_make_18 : decode cX0_make 18 = .ok (.aload_n 0, 1) := by decide +kernel
theorem dX0_make_19 : decode cX0_make 19 = .ok (.iload_n 1, 1) := by decide +kernel
theorem dX0_make_20 : decode cX0_make 20 = .ok (.invokevirtual 47, 3) := by decide +kernel
theorem dX0_make_23 : decode cX0_make 23 = .ok (.aload_n 0, 1) := by decide +kernel
theorem dX0_make_24 : decode cX0_make 24 = .ok (.aload_n 0, 1) := by decide +kernel
theorem dX0_make_25 : decode cX0_make 25 = .ok (.getfield 34, 3) := by decide +kernel
theorem dX0_make_28 : decode cX0_make 28 = .ok (.getfield 51, 3) := by decide +kernel
theorem dX0_make_31 : decode cX0_make 31 = .ok (.iload_n 1, 1) := by decide +kernel
theorem dX0_make_32 : decode cX0_make 32 = .ok (.iaload, 1) := by decide +kernel
theorem dX0_make_33 : decode cX0_make 33 = .ok (.invokevirtual 56, 3) := by decide +kernel
theorem dX0_make_36 : decode cX0_make 36 = .ok (.iinc 1 (-1), 3) := by decide +kernel
theorem dX0_make_39 : decode cX0_make 39 = .ok (.goto (-25), 3) := by decide +kernel
theorem dX0_make_42 : decode cX0_make 42 = .ok (.iconst 0, 1) := by decide +kernel
theorem dX0_make_43 : decode cX0_make 43 = .ok (.istore_n 1, 1) := by decide +kernel
theorem dX0_make_44 : decode cX0_make 44 = .ok (.iload_n 1, 1) := by decide +kernel
theorem dX0_make_45 : decode cX0_make 45 = .ok (.aload_n 0, 1) := by decide +kernel
theorem dX0_make_46 : decode cX0_make 46 = .ok (.getfield 30, 3) := by decide +kernel
theorem dX0_make_49 : decode cX0_make 49 = .ok (.getfield 41, 3) := by decide +kernel
theorem dX0_make_52 : decode cX0_make 52 = .ok (.if_icmp .ge 20, 3) := by decide +kernel
theorem dX0_make_55 : decode cX0_make 55 = .ok (.aload_n 0, 1) := by decide +kernel
theorem dX0_make_56 : decode cX0_make 56 = .ok (.getfield 9, 3) := by decide +kernel
theorem dX0_make_59 : decode cX0_make 59 = .ok (.iload_n 1, 1) := by decide +kernel
theorem dX0_make_60 : decode cX0_make 60 = .ok (.aload_n 0, 1) := by decide +kernel
theorem dX0_make_61 : decode cX0_make 61 = .ok (.iload_n 1, 1) := by decide +kernel
theorem dX0_make_62 : decode cX0_make 62 = .ok (.invokevirtual 59, 3) := by decide +kernel
theorem dX0_make_65 : decode cX0_make 65 = .ok (.iastore, 1) := by decide +kernel
theorem dX0_make_66 : decode cX0_make 66 = .ok (.iinc 1 1, 3) := by decide +kernel
theorem dX0_make_69 : decode cX0_make 69 = .ok (.goto (-25), 3) := by decide +kernel
theorem dX0_make_72 : decode cX0_make 72 = .ok (.aload_n 0, 1) := by decide +kernel
theorem dX0_make_73 : decode cX0_make 73 = .ok (.invokevirtual 63, 3) := by decide +kernel
theorem dX0_make_76 : decode cX0_make 76 = .ok (.return_, 1) := by decide +kernel
theorem dX0_chainAll_0 : decode cX0_chainAll 0 = .ok (.iconst 0, 1) := by decide +kernel
theorem dX0_chainAll_1 : decode cX0_chainAll 1 = .ok (.istore_n 1, 1) := by decide +kernel
theorem dX0_chainAll_2 : decode cX0_chainAll 2 = .ok (.iload_n 1, 1) := by decide +kernel
theorem dX0_chainAll_3 : decode cX0_chainAll 3 = .ok (.aload_n 0, 1) := by decide +kernel
theorem dX0_chainAll_4 : decode cX0_chainAll 4 = .ok (.getfield 30, 3) := by decide +kernel
theorem dX0_chainAll_7 : decode cX0_chainAll 7 = .ok (.getfield 41, 3) := by decide +kernel
theorem dX0_chainAll_10 : decode cX0_chainAll 10 = .ok (.if_icmp .ge 59, 3) := by decide +kernel
theorem dX0_chainAll_13 : decode cX0_chainAll 13 = .ok (.aload_n 0, 1) := by decide +kernel
theorem dX0_chainAll_14 : decode cX0_chainAll 14 = .ok (.getfield 21, 3) := by decide +kernel
theorem dX0_chainAll_17 : decode cX0_chainAll 17 = .ok (.iload_n 1, 1) := by decide +kernel
theorem dX0_chainAll_18 : decode cX0_chainAll 18 = .ok (.iload_n 1, 1) := by decide +kernel
theorem dX0_chainAll_19 : decode cX0_chainAll 19 = .ok (.iconst 1, 1) := by decide +kernel
theorem dX0_chainAll_20 : decode cX0_chainAll 20 = .ok (.isub, 1) := by decide +kernel
theorem dX0_chainAll_21 : decode cX0_chainAll 21 = .ok (.iastore, 1) := by decide +kernel
theorem dX0_chainAll_22 : decode cX0_chainAll 22 = .ok (.aload_n 0, 1) := by decide +kernel
theorem dX0_chainAll_23 : decode cX0_chainAll 23 = .ok (.getfield 24, 3) := by decide +kernel
theorem dX0_chainAll_26 : decode cX0_chainAll 26 = .ok (.iload_n 1, 1) := by decide +kernel
theorem dX0_chainAll_27 : decode cX0_chainAll 27 = .ok (.iload_n 1, 1) := by decide +kernel
theorem dX0_chainAll_28 : decode cX0_chainAll 28 = .ok (.iconst 1, 1) := by decide +kernel
theorem dX0_chainAll_29 : decode cX0_chainAll 29 = .ok (.iadd, 1) := by decide +kernel
theorem dX0_chainAll_30 : decode cX0_chainAll 30 = .ok (.aload_n 0, 1) := by decide +kernel
theorem dX0_chainAll_31 : decode cX0_chainAll 31 = .ok (.getfield 30, 3) := by decide +kernel
theorem dX0_chainAll_34 : decode cX0_chainAll 34 = .ok (.getfield 41, 3) := by decide +kernel
theorem dX0_chainAll_37 : decode cX0_chainAll 37 = .ok (.if_icmp .ge 9, 3) := by decide +kernel
theorem dX0_chainAll_40 : decode cX0_chainAll 40 = .ok (.iload_n 1, 1) := by decide +kernel
theorem dX0_chainAll_41 : decode cX0_chainAll 41 = .ok (.iconst 1, 1) := by decide +kernel
theorem dX0_chainAll_42 : decode cX0_chainAll 42 = .ok (.iadd, 1) := by decide +kernel
theorem dX0_chainAll_43 : decode cX0_chainAll 43 = .ok (.goto 4, 3) := by decide +kernel
theorem dX0_chainAll_46 : decode cX0_chainAll 46 = .ok (.iconst (-1), 1) := by decide +kernel
theorem dX0_chainAll_47 : decode cX0_chainAll 47 = .ok (.iastore, 1) := by decide +kernel
theorem dX0_chainAll_48 : decode cX0_chainAll 48 = .ok (.aload_n 0, 1) := by decide +kernel
theorem dX0_chainAll_49 : decode cX0_chainAll 49 = .ok (.getfield 27, 3) := by decide +kernel
theorem dX0_chainAll_52 : decode cX0_chainAll 52 = .ok (.iload_n 1, 1) := by decide +kernel
theorem dX0_chainAll_53 : decode cX0_chainAll 53 = .ok (.aload_n 0, 1) := by decide +kernel
theorem dX0_chainAll_54 : decode cX0_chainAll 54 = .ok (.getfield 34, 3) := by decide +kernel
theorem dX0_chainAll_57 : decode cX0_chainAll 57 = .ok (.getfield 66, 3) := by decide +kernel
theorem dX0_chainAll_60 : decode cX0_chainAll 60 = .ok (.iload_n 1, 1) := by decide +kernel
theorem dX0_chainAll_61 : decode cX0_chainAll 61 = .ok (.iaload, 1) := by decide +kernel
theorem dX0_chainAll_62 : decode cX0_chainAll 62 = .ok (.iastore, 1) := by decide +kernel
theorem dX0_chainAll_63 : decode cX0_chainAll 63 = .ok (.iinc 1 1, 3) := by decide +kernel
theorem dX0_chainAll_66 : decode cX0_chainAll 66 = .ok (.goto (-64), 3) := by decide +kernel
theorem dX0_chainAll_69 : decode cX0_chainAll 69 = .ok (.return_, 1) := by decide +kernel
theorem dX0_takeLongest_0 : decode cX0_takeLongest 0 = .ok (.aload_n 0, 1) := by decide +kernel
theorem dX0_takeLongest_1 : decode cX0_takeLongest 1 = .ok (.getfield 34, 3) := by decide +kernel
theorem dX0_takeLongest_4 : decode cX0_takeLongest 4 = .ok (.getfield 51, 3) := by decide +kernel
theorem dX0_takeLongest_7 : decode cX0_takeLongest 7 = .ok (.iload_n 1, 1) := by decide +kernel
theorem dX0_takeLongest_8 : decode cX0_takeLongest 8 = .ok (.iaload, 1) := by decide +kernel
theorem dX0_takeLongest_9 : decode cX0_takeLongest 9 = .ok (.istore_n 2, 1) := by decide +kernel
theorem dX0_takeLongest_10 : decode cX0_takeLongest 10 = .ok (.aload_n 0, 1) := by decide +kernel
theorem dX0_takeLongest_11 : decode cX0_takeLongest 11 = .ok (.getfield 21, 3) := by decide +kernel
theorem dX0_takeLongest_14 : decode cX0_takeLongest 14 = .ok (.iload_n 2, 1) := by decide +kernel
theorem dX0_takeLongest_15 : decode cX0_takeLongest 15 = .ok (.iaload, 1) := by decide +kernel
theorem dX0_takeLongest_16 : decode cX0_takeLongest 16 = .ok (.iconst (-1), 1) := by decide +kernel
theorem dX0_takeLongest_17 : decode cX0_takeLongest 17 = .ok (.if_icmp .ne 7, 3) := by decide +kernel
theorem dX0_takeLongest_20 : decode cX0_takeLongest 20 = .ok (.iconst 0, 1) := by decide +kernel
theorem dX0_takeLongest_21 : decode cX0_takeLongest 21 = .ok (.goto 9, 3) := by decide +kernel
theorem dX0_takeLongest_24 : decode cX0_takeLongest 24 = .ok (.aload_n 0, 1) := by decide +kernel
theorem dX0_takeLongest_25 : decode cX0_takeLongest 25 = .ok (.getfield 27, 3) := by decide +kernel
theorem dX0_takeLongest_28 : decode cX0_takeLongest 28 = .ok (.iload_n 2, 1) := by decide +kernel
theorem dX0_takeLongest_29 : decode cX0_takeLongest 29 = .ok (.iaload, 1) := by decide +kernel
theorem dX0_takeLongest_30 : decode cX0_takeLongest 30 = .ok (.istore_n 3, 1) := by decide +kernel
theorem dX0_takeLongest_31 : decode cX0_takeLongest 31 = .ok (.aload_n 0, 1) := by decide +kernel
theorem dX0_takeLongest_32 : decode cX0_takeLongest 32 = .ok (.getfield 24, 3) := by decide +kernel
theorem dX0_takeLongest_35 : decode cX0_takeLongest 35 = .ok (.iload_n 2, 1) := by decide +kernel
theorem dX0_takeLongest_36 : decode cX0_takeLongest 36 = .ok (.iaload, 1) := by decide +kernel
theorem dX0_takeLongest_37 : decode cX0_takeLongest 37 = .ok (.iconst (-1), 1) := by decide +kernel
theorem dX0_takeLongest_38 : decode cX0_takeLongest 38 = .ok (.if_icmp .ne 7, 3) := by decide +kernel
theorem dX0_takeLongest_41 : decode cX0_takeLongest 41 = .ok (.iconst 0, 1) := by decide +kernel
theorem dX0_takeLongest_42 : decode cX0_takeLongest 42 = .ok (.goto 14, 3) := by decide +kernel
theorem dX0_takeLongest_45 : decode cX0_takeLongest 45 = .ok (.aload_n 0, 1) := by decide +kernel
theorem dX0_takeLongest_46 : decode cX0_takeLongest 46 = .ok (.getfield 27, 3) := by decide +kernel
theorem dX0_takeLongest_49 : decode cX0_takeLongest 49 = .ok (.aload_n 0, 1) := by decide +kernel
theorem dX0_takeLongest_50 : decode cX0_takeLongest 50 = .ok (.getfield 24, 3) := by decide +kernel
theorem dX0_takeLongest_53 : decode cX0_takeLongest 53 = .ok (.iload_n 2, 1) := by decide +kernel
theorem dX0_takeLongest_54 : decode cX0_takeLongest 54 = .ok (.iaload, 1) := by decide +kernel
theorem dX0_takeLongest_55 : decode cX0_takeLongest 55 = .ok (.iaload, 1) := by decide +kernel
theorem dX0_takeLongest_56 : decode cX0_takeLongest 56 = .ok (.istore 4, 2) := by decide +kernel
theorem dX0_takeLongest_58 : decode cX0_takeLongest 58 = .ok (.aload_n 0, 1) := by decide +kernel
theorem dX0_takeLongest_59 : decode cX0_takeLongest 59 = .ok (.getfield 15, 3) := by decide +kernel
theorem dX0_takeLongest_62 : decode cX0_takeLongest 62 = .ok (.iload_n 1, 1) := by decide +kernel
theorem dX0_takeLongest_63 : decode cX0_takeLongest 63 = .ok (.iload_n 3, 1) := by decide +kernel
theorem dX0_takeLongest_64 : decode cX0_takeLongest 64 = .ok (.iload 4, 2) := by decide +kernel
theorem dX0_takeLongest_66 : decode cX0_takeLongest 66 = .ok (.invokestatic 69, 3) := by decide +kernel
theorem dX0_takeLongest_69 : decode cX0_takeLongest 69 = .ok (.iastore, 1) := by decide +kernel
theorem dX0_takeLongest_70 : decode cX0_takeLongest 70 = .ok (.aload_n 0, 1) := by decide +kernel
theorem dX0_takeLongest_71 : decode cX0_takeLongest 71 = .ok (.getfield 15, 3) := by decide +kernel
theorem dX0_takeLongest_74 : decode cX0_takeLongest 74 = .ok (.iload_n 1, 1) := by decide +kernel
theorem dX0_takeLongest_75 : decode cX0_takeLongest 75 = .ok (.iaload, 1) := by decide +kernel
theorem dX0_takeLongest_76 : decode cX0_takeLongest 76 = .ok (.ifCond .ne 13, 3) := by decide +kernel
theorem dX0_takeLongest_79 : decode cX0_takeLongest 79 = .ok (.aload_n 0, 1) := by decide +kernel
theorem dX0_takeLongest_80 : decode cX0_takeLongest 80 = .ok (.getfield 9, 3) := by decide +kernel
theorem dX0_takeLongest_83 : decode cX0_takeLongest 83 = .ok (.iload_n 1, 1) := by decide +kernel
theorem dX0_takeLongest_84 : decode cX0_takeLongest 84 = .ok (.iconst (-1), 1) := by decide +kernel
theorem dX0_takeLongest_85 : decode cX0_takeLongest 85 = .ok (.iastore, 1) := by decide +kernel
theorem dX0_takeLongest_86 : decode cX0_takeLongest 86 = .ok (.goto 38, 3) := by decide +kernel
theorem dX0_takeLongest_89 : decode cX0_takeLongest 89 = .ok (.aload_n 0, 1) := by decide +kernel
theorem dX0_takeLongest_90 : decode cX0_takeLongest 90 = .ok (.getfield 9, 3) := by decide +kernel
theorem dX0_takeLongest_93 : decode cX0_takeLongest 93 = .ok (.iload_n 1, 1) := by decide +kernel
theorem dX0_takeLongest_94 : decode cX0_takeLongest 94 = .ok (.aload_n 0, 1) := by decide +kernel
theorem dX0_takeLongest_95 : decode cX0_takeLongest 95 = .ok (.getfield 34, 3) := by decide +kernel
theorem dX0_takeLongest_98 : decode cX0_takeLongest 98 = .ok (.getfield 75, 3) := by decide +kernel
theorem dX0_takeLongest_101 : decode cX0_takeLongest 101 = .ok (.iload_n 3, 1) := by decide +kernel
theorem dX0_takeLongest_102 : decode cX0_takeLongest 102 = .ok (.iload 4, 2) := by decide +kernel
theorem dX0_takeLongest_104 : decode cX0_takeLongest 104 = .ok (.if_icmp .lt 12, 3) := by decide +kernel
theorem dX0_takeLongest_107 : decode cX0_takeLongest 107 = .ok (.aload_n 0, 1) := by decide +kernel
theorem dX0_takeLongest_108 : decode cX0_takeLongest 108 = .ok (.getfield 21, 3) := by decide +kernel
theorem dX0_takeLongest_111 : decode cX0_takeLongest 111 = .ok (.iload_n 2, 1) := by decide +kernel
theorem dX0_takeLongest_112 : decode cX0_takeLongest 112 = .ok (.iaload, 1) := by decide +kernel
theorem dX0_takeLongest_113 : decode cX0_takeLongest 113 = .ok (.goto 9, 3) := by decide +kernel
theorem dX0_takeLongest_116 : decode cX0_takeLongest 116 = .ok (.aload_n 0, 1) := by decide +kernel
theorem dX0_takeLongest_117 : decode cX0_takeLongest 117 = .ok (.getfield 24, 3) := by decide +kernel
theorem dX0_takeLongest_120 : decode cX0_takeLongest 120 = .ok (.iload_n 2, 1) := by decide +kernel
theorem dX0_takeLongest_121 : decode cX0_takeLongest 121 = .ok (.iaload, 1) := by decide +kernel
theorem dX0_takeLongest_122 : decode cX0_takeLongest 122 = .ok (.iaload, 1) := by decide +kernel
theorem dX0_takeLongest_123 : decode cX0_takeLongest 123 = .ok (.iastore, 1) := by decide +kernel
theorem dX0_takeLongest_124 : decode cX0_takeLongest 124 = .ok (.return_, 1) := by decide +kernel
theorem dX0_unchain_0 : decode cX0_unchain 0 = .ok (.aload_n 0, 1) := by decide +kernel
theorem dX0_unchain_1 : decode cX0_unchain 1 = .ok (.getfield 21, 3) := by decide +kernel
theorem dX0_unchain_4 : decode cX0_unchain 4 = .ok (.iload_n 1, 1) := by decide +kernel
theorem dX0_unchain_5 : decode cX0_unchain 5 = .ok (.iaload, 1) := by decide +kernel
theorem dX0_unchain_6 : decode cX0_unchain 6 = .ok (.iconst (-1), 1) := by decide +kernel
theorem dX0_unchain_7 : decode cX0_unchain 7 = .ok (.if_icmp .eq 20, 3) := by decide +kernel
theorem dX0_unchain_10 : decode cX0_unchain 10 = .ok (.aload_n 0, 1) := by decide +kernel
theorem dX0_unchain_11 : decode cX0_unchain 11 = .ok (.getfield 24, 3) := by decide +kernel
theorem dX0_unchain_14 : decode cX0_unchain 14 = .ok (.aload_n 0, 1) := by decide +kernel
theorem dX0_unchain_15 : decode cX0_unchain 15 = .ok (.getfield 21, 3) := by decide +kernel
theorem dX0_unchain_18 : decode cX0_unchain 18 = .ok (.iload_n 1, 1) := by decide +kernel
theorem dX0_unchain_19 : decode cX0_unchain 19 = .ok (.iaload, 1) := by decide +kernel
theorem dX0_unchain_20 : decode cX0_unchain 20 = .ok (.aload_n 0, 1) := by decide +kernel
theorem dX0_unchain_21 : decode cX0_unchain 21 = .ok (.getfield 24, 3) := by decide +kernel
theorem dX0_unchain_24 : decode cX0_unchain 24 = .ok (.iload_n 1, 1) := by decide +kernel
theorem dX0_unchain_25 : decode cX0_unchain 25 = .ok (.iaload, 1) := by decide +kernel
theorem dX0_unchain_26 : decode cX0_unchain 26 = .ok (.iastore, 1) := by decide +kernel
theorem dX0_unchain_27 : decode cX0_unchain 27 = .ok (.aload_n 0, 1) := by decide +kernel
theorem dX0_unchain_28 : decode cX0_unchain 28 = .ok (.getfield 24, 3) := by decide +kernel
theorem dX0_unchain_31 : decode cX0_unchain 31 = .ok (.iload_n 1, 1) := by decide +kernel
theorem dX0_unchain_32 : decode cX0_unchain 32 = .ok (.iaload, 1) := by decide +kernel
theorem dX0_unchain_33 : decode cX0_unchain 33 = .ok (.iconst (-1), 1) := by decide +kernel
theorem dX0_unchain_34 : decode cX0_unchain 34 = .ok (.if_icmp .eq 51, 3) := by decide +kernel
theorem dX0_unchain_37 : decode cX0_unchain 37 = .ok (.aload_n 0, 1) := by decide +kernel
theorem dX0_unchain_38 : decode cX0_unchain 38 = .ok (.getfield 21, 3) := by decide +kernel
theorem dX0_unchain_41 : decode cX0_unchain 41 = .ok (.aload_n 0, 1) := by decide +kernel
theorem dX0_unchain_42 : decode cX0_unchain 42 = .ok (.getfield 24, 3) := by decide +kernel
theorem dX0_unchain_45 : decode cX0_unchain 45 = .ok (.iload_n 1, 1) := by decide +kernel
theorem dX0_unchain_46 : decode cX0_unchain 46 = .ok (.iaload, 1) := by decide +kernel
theorem dX0_unchain_47 : decode cX0_unchain 47 = .ok (.aload_n 0, 1) := by decide +kernel
theorem dX0_unchain_48 : decode cX0_unchain 48 = .ok (.getfield 21, 3) := by decide +kernel
theorem dX0_unchain_51 : decode cX0_unchain 51 = .ok (.iload_n 1, 1) := by decide +kernel
theorem dX0_unchain_52 : decode cX0_unchain 52 = .ok (.iaload, 1) := by decide +kernel
theorem dX0_unchain_53 : decode cX0_unchain 53 = .ok (.iastore, 1) := by decide +kernel
theorem dX0_unchain_54 : decode cX0_unchain 54 = .ok (.aload_n 0, 1) := by decide +kernel
theorem dX0_unchain_55 : decode cX0_unchain 55 = .ok (.getfield 27, 3) := by decide +kernel
theorem dX0_unchain_58 : decode cX0_unchain 58 = .ok (.aload_n 0, 1) := by decide +kernel
theorem dX0_unchain_59 : decode cX0_unchain 59 = .ok (.getfield 24, 3) := by decide +kernel
theorem dX0_unchain_62 : decode cX0_unchain 62 = .ok (.iload_n 1, 1) := by decide +kernel
theorem dX0_unchain_63 : decode cX0_unchain 63 = .ok (.iaload, 1) := by decide +kernel
theorem dX0_unchain_64 : decode cX0_unchain 64 = .ok (.aload_n 0, 1) := by decide +kernel
theorem dX0_unchain_65 : decode cX0_unchain 65 = .ok (.getfield 27, 3) := by decide +kernel
theorem dX0_unchain_68 : decode cX0_unchain 68 = .ok (.iload_n 1, 1) := by decide +kernel
theorem dX0_unchain_69 : decode cX0_unchain 69 = .ok (.iaload, 1) := by decide +kernel
theorem dX0_unchain_70 : decode cX0_unchain 70 = .ok (.aload_n 0, 1) := by decide +kernel
theorem dX0_unchain_71 : decode cX0_unchain 71 = .ok (.getfield 27, 3) := by decide +kernel
theorem dX0_unchain_74 : decode cX0_unchain 74 = .ok (.aload_n 0, 1) := by decide +kernel
theorem dX0_unchain_75 : decode cX0_unchain 75 = .ok (.getfield 24, 3) := by decide +kernel
theorem dX0_unchain_78 : decode cX0_unchain 78 = .ok (.iload_n 1, 1) := by decide +kernel
theorem dX0_unchain_79 : decode cX0_unchain 79 = .ok (.iaload, 1) := by decide +kernel
theorem dX0_unchain_80 : decode cX0_unchain 80 = .ok (.iaload, 1) := by decide +kernel
theorem dX0_unchain_81 : decode cX0_unchain 81 = .ok (.invokestatic 76, 3) := by decide +kernel
theorem dX0_unchain_84 : decode cX0_unchain 84 = .ok (.iastore, 1) := by decide +kernel
theorem dX0_unchain_85 : decode cX0_unchain 85 = .ok (.return_, 1) := by decide +kernel
theorem dX0_leastLike_0 : decode cX0_leastLike 0 = .ok (.aload_n 0, 1) := by decide +kernel
theorem dX0_leastLike_1 : decode cX0_leastLike 1 = .ok (.getfield 9, 3) := by decide +kernel
theorem dX0_leastLike_4 : decode cX0_leastLike 4 = .ok (.iload_n 1, 1) := by decide +kernel
theorem dX0_leastLike_5 : decode cX0_leastLike 5 = .ok (.iaload, 1) := by decide +kernel
theorem dX0_leastLike_6 : decode cX0_leastLike 6 = .ok (.istore_n 2, 1) := by decide +kernel
theorem dX0_leastLike_7 : decode cX0_leastLike 7 = .ok (.iconst 0, 1) := by decide +kernel
theorem dX0_leastLike_8 : decode cX0_leastLike 8 = .ok (.istore_n 3, 1) := by decide +kernel
theorem dX0_leastLike_9 : decode cX0_leastLike 9 = .ok (.iload_n 3, 1) := by decide +kernel
theorem dX0_leastLike_10 : decode cX0_leastLike 10 = .ok (.iload_n 1, 1) := by decide +kernel
theorem dX0_leastLike_11 : decode cX0_leastLike 11 = .ok (.if_icmp .ge 36, 3) := by decide +kernel
theorem dX0_leastLike_14 : decode cX0_leastLike 14 = .ok (.iload_n 2, 1) := by decide +kernel
theorem dX0_leastLike_15 : decode cX0_leastLike 15 = .ok (.iconst (-1), 1) := by decide +kernel
theorem dX0_leastLike_16 : decode cX0_leastLike 16 = .ok (.if_icmp .eq 31, 3) := by decide +kernel
theorem dX0_leastLike_19 : decode cX0_leastLike 19 = .ok (.aload_n 0, 1) := by decide +kernel
theorem dX0_leastLike_20 : decode cX0_leastLike 20 = .ok (.getfield 15, 3) := by decide +kernel
theorem dX0_leastLike_23 : decode cX0_leastLike 23 = .ok (.iload_n 2, 1) := by decide +kernel
theorem dX0_leastLike_24 : decode cX0_leastLike 24 = .ok (.iaload, 1) := by decide +kernel
theorem dX0_leastLike_25 : decode cX0_leastLike 25 = .ok (.aload_n 0, 1) := by decide +kernel
theorem dX0_leastLike_26 : decode cX0_leastLike 26 = .ok (.getfield 15, 3) := by decide +kernel
theorem dX0_leastLike_29 : decode cX0_leastLike 29 = .ok (.iload_n 1, 1) := by decide +kernel
theorem dX0_leastLike_30 : decode cX0_leastLike 30 = .ok (.iaload, 1) := by decide +kernel
theorem dX0_leastLike_31 : decode cX0_leastLike 31 = .ok (.if_icmp .lt 16, 3) := by decide +kernel
theorem dX0_leastLike_34 : decode cX0_leastLike 34 = .ok (.aload_n 0, 1) := by decide +kernel
theorem dX0_leastLike_35 : decode cX0_leastLike 35 = .ok (.getfield 9, 3) := by decide +kernel
theorem dX0_leastLike_38 : decode cX0_leastLike 38 = .ok (.iload_n 2, 1) := by decide +kernel
theorem dX0_leastLike_39 : decode cX0_leastLike 39 = .ok (.iaload, 1) := by decide +kernel
theorem dX0_leastLike_40 : decode cX0_leastLike 40 = .ok (.istore_n 2, 1) := by decide +kernel
theorem dX0_leastLike_41 : decode cX0_leastLike 41 = .ok (.iinc 3 1, 3) := by decide +kernel
theorem dX0_leastLike_44 : decode cX0_leastLike 44 = .ok (.goto (-35), 3) := by decide +kernel
theorem dX0_leastLike_47 : decode cX0_leastLike 47 = .ok (.iload_n 2, 1) := by decide +kernel
theorem dX0_leastLike_48 : decode cX0_leastLike 48 = .ok (.ireturn, 1) := by decide +kernel
theorem dX0_countPieces_0 : decode cX0_countPieces 0 = .ok (.aload_n 0, 1) := by decide +kernel
theorem dX0_countPieces_1 : decode cX0_countPieces 1 = .ok (.getfield 30, 3) := by decide +kernel
theorem dX0_countPieces_4 : decode cX0_countPieces 4 = .ok (.getfield 41, 3) := by decide +kernel
theorem dX0_countPieces_7 : decode cX0_countPieces 7 = .ok (.iconst 1, 1) := by decide +kernel
theorem dX0_countPieces_8 : decode cX0_countPieces 8 = .ok (.isub, 1) := by decide +kernel
theorem dX0_countPieces_9 : decode cX0_countPieces 9 = .ok (.istore_n 1, 1) := by decide +kernel
theorem dX0_countPieces_10 : decode cX0_countPieces 10 = .ok (.iload_n 1, 1) := by decide +kernel
theorem dX0_countPieces_11 : decode cX0_countPieces 11 = .ok (.ifCond .lt 62, 3) := by decide +kernel
theorem dX0_countPieces_14 : decode cX0_countPieces 14 = .ok (.iload_n 1, 1) := by decide +kernel
theorem dX0_countPieces_15 : decode cX0_countPieces 15 = .ok (.iconst 1, 1) := by decide +kernel
theorem dX0_countPieces_16 : decode cX0_countPieces 16 = .ok (.aload_n 0, 1) := by decide +kernel
theorem dX0_countPieces_17 : decode cX0_countPieces 17 = .ok (.getfield 15, 3) := by decide +kernel
theorem dX0_countPieces_20 : decode cX0_countPieces 20 = .ok (.iload_n 1, 1) := by decide +kernel
theorem dX0_countPieces_21 : decode cX0_countPieces 21 = .ok (.iaload, 1) := by decide +kernel
theorem dX0_countPieces_22 : decode cX0_countPieces 22 = .ok (.invokestatic 69, 3) := by decide +kernel
theorem dX0_countPieces_25 : decode cX0_countPieces 25 = .ok (.iadd, 1) := by decide +kernel
theorem dX0_countPieces_26 : decode cX0_countPieces 26 = .ok (.istore_n 2, 1) := by decide +kernel
theorem dX0_countPieces_27 : decode cX0_countPieces 27 = .ok (.aload_n 0, 1) := by decide +kernel
theorem dX0_countPieces_28 : decode cX0_countPieces 28 = .ok (.getfield 18, 3) := by decide +kernel
theorem dX0_countPieces_31 : decode cX0_countPieces 31 = .ok (.iload_n 1, 1) := by decide +kernel
theorem dX0_countPieces_32 : decode cX0_countPieces 32 = .ok (.aload_n 0, 1) := by decide +kernel
theorem dX0_countPieces_33 : decode cX0_countPieces 33 = .ok (.getfield 30, 3) := by decide +kernel
theorem dX0_countPieces_36 : decode cX0_countPieces 36 = .ok (.iload_n 1, 1) := by decide +kernel
theorem dX0_countPieces_37 : decode cX0_countPieces 37 = .ok (.invokevirtual 79, 3) := by decide +kernel
theorem dX0_countPieces_40 : decode cX0_countPieces 40 = .ok (.ifCond .ne 14, 3) := by decide +kernel
theorem dX0_countPieces_43 : decode cX0_countPieces 43 = .ok (.iload_n 2, 1) := by decide +kernel
theorem dX0_countPieces_44 : decode cX0_countPieces 44 = .ok (.aload_n 0, 1) := by decide +kernel
theorem dX0_countPieces_45 : decode cX0_countPieces 45 = .ok (.getfield 30, 3) := by decide +kernel
theorem dX0_countPieces_48 : decode cX0_countPieces 48 = .ok (.getfield 41, 3) := by decide +kernel
theorem dX0_countPieces_51 : decode cX0_countPieces 51 = .ok (.if_icmp .lt 7, 3) := by decide +kernel
theorem dX0_countPieces_54 : decode cX0_countPieces 54 = .ok (.iconst 0, 1) := by decide +kernel
theorem dX0_countPieces_55 : decode cX0_countPieces 55 = .ok (.goto 11, 3) := by decide +kernel
theorem dX0_countPieces_58 : decode cX0_countPieces 58 = .ok (.iconst 1, 1) := by decide +kernel
theorem dX0_countPieces_59 : decode cX0_countPieces 59 = .ok (.aload_n 0, 1) := by decide +kernel
theorem dX0_countPieces_60 : decode cX0_countPieces 60 = .ok (.getfield 18, 3) := by decide +kernel
theorem dX0_countPieces_63 : decode cX0_countPieces 63 = .ok (.iload_n 2, 1) := by decide +kernel
theorem dX0_countPieces_64 : decode cX0_countPieces 64 = .ok (.iaload, 1) := by decide +kernel
theorem dX0_countPieces_65 : decode cX0_countPieces 65 = .ok (.iadd, 1) := by decide +kernel
theorem dX0_countPieces_66 : decode cX0_countPieces 66 = .ok (.iastore, 1) := by decide +kernel
theorem dX0_countPieces_67 : decode cX0_countPieces 67 = .ok (.iinc 1 (-1), 3) := by decide +kernel
theorem dX0_countPieces_70 : decode cX0_countPieces 70 = .ok (.goto (-60), 3) := by decide +kernel
theorem dX0_countPieces_73 : decode cX0_countPieces 73 = .ok (.return_, 1) := by decide +kernel
theorem dX1_init_0 : decode cX1_init 0 = .ok (.aload_n 0, 1) := by decide +kernel
theorem dX1_init_1 : decode cX1_init 1 = .ok (.invokespecial 3, 3) := by decide +kernel
theorem dX1_init_4 : decode cX1_init 4 = .ok (.aload_n 0, 1) := by decide +kernel
theorem dX1_init_5 : decode cX1_init 5 = .ok (.sipush 408, 3) := by decide +kernel
theorem dX1_init_8 : decode cX1_init 8 = .ok (.newarray .int, 2) := by decide +kernel
theorem dX1_init_10 : decode cX1_init 10 = .ok (.putfield 9, 3) := by decide +kernel
theorem dX1_init_13 : decode cX1_init 13 = .ok (.aload_n 0, 1) := by decide +kernel
theorem dX1_init_14 : decode cX1_init 14 = .ok (.aload_n 1, 1) := by decide +kernel
theorem dX1_init_15 : decode cX1_init 15 = .ok (.putfield 15, 3) := by decide +kernel
theorem dX1_init_18 : decode cX1_init 18 = .ok (.aload_n 0, 1) := by decide +kernel
theorem dX1_init_19 : decode cX1_init 19 = .ok (.aload_n 2, 1) := by decide +kernel
theorem dX1_init_20 : decode cX1_init 20 = .ok (.putfield 19, 3) := by decide +kernel
theorem dX1_init_23 : decode cX1_init 23 = .ok (.return_, 1) := by decide +kernel
theorem dX1_reset_0 : decode cX1_reset 0 = .ok (.aload_n 0, 1) := by decide +kernel
theorem dX1_reset_1 : decode cX1_reset 1 = .ok (.getfield 19, 3) := by decide +kernel
theorem dX1_reset_4 : decode cX1_reset 4 = .ok (.getfield 23, 3) := by decide +kernel
theorem dX1_reset_7 : decode cX1_reset 7 = .ok (.iconst 0, 1) := by decide +kernel
theorem dX1_reset_8 : decode cX1_reset 8 = .ok (.aload_n 0, 1) := by decide +kernel
theorem dX1_reset_9 : decode cX1_reset 9 = .ok (.getfield 9, 3) := by decide +kernel
theorem dX1_reset_12 : decode cX1_reset 12 = .ok (.iconst 0, 1) := by decide +kernel
theorem dX1_reset_13 : decode cX1_reset 13 = .ok (.aload_n 0, 1) := by decide +kernel
theorem dX1_reset_14 : decode cX1_reset 14 = .ok (.getfield 15, 3) := by decide +kernel
theorem dX1_reset_17 : decode cX1_reset 17 = .ok (.getfield 28, 3) := by decide +kernel
theorem dX1_reset_20 : decode cX1_reset 20 = .ok (.invokestatic 34, 3) := by decide +kernel
theorem dX1_reset_23 : decode cX1_reset 23 = .ok (.return_, 1) := by decide +kernel
theorem dX1_replace_0 : decode cX1_replace 0 = .ok (.aload_n 0, 1) := by decide +kernel
theorem dX1_replace_1 : decode cX1_replace 1 = .ok (.getfield 9, 3) := by decide +kernel
theorem dX1_replace_4 : decode cX1_replace 4 = .ok (.iload_n 1, 1) := by decide +kernel
theorem dX1_replace_5 : decode cX1_replace 5 = .ok (.iaload, 1) := by decide +kernel
theorem dX1_replace_6 : decode cX1_replace 6 = .ok (.istore_n 3, 1) := by decide +kernel
theorem dX1_replace_7 : decode cX1_replace 7 = .ok (.aload_n 0, 1) := by decide +kernel
theorem dX1_replace_8 : decode cX1_replace 8 = .ok (.getfield 9, 3) := by decide +kernel
theorem dX1_replace_11 : decode cX1_replace 11 = .ok (.iload_n 1, 1) := by decide +kernel
theorem dX1_replace_12 : decode cX1_replace 12 = .ok (.iload_n 2, 1) := by decide +kernel
theorem dX1_replace_13 : decode cX1_replace 13 = .ok (.iastore, 1) := by decide +kernel
theorem dX1_replace_14 : decode cX1_replace 14 = .ok (.iload_n 3, 1) := by decide +kernel
theorem dX1_replace_15 : decode cX1_replace 15 = .ok (.ireturn, 1) := by decide +kernel
theorem dX1_firstWrong_0 : decode cX1_firstWrong 0 = .ok (.iconst (-1), 1) := by decide +kernel
theorem dX1_firstWrong_1 : decode cX1_firstWrong 1 = .ok (.istore_n 1, 1) := by decide +kernel
theorem dX1_firstWrong_2 : decode cX1_firstWrong 2 = .ok (.iconst 0, 1) := by decide +kernel
theorem dX1_firstWrong_3 : decode cX1_firstWrong 3 = .ok (.istore_n 2, 1) := by decide +kernel
theorem dX1_firstWrong_4 : decode cX1_firstWrong 4 = .ok (.iload_n 2, 1) := by decide +kernel
theorem dX1_firstWrong_5 : decode cX1_firstWrong 5 = .ok (.aload_n 0, 1) := by decide +kernel
theorem dX1_firstWrong_6 : decode cX1_firstWrong 6 = .ok (.getfield 15, 3) := by decide +kernel
theorem dX1_firstWrong_9 : decode cX1_firstWrong 9 = .ok (.getfield 28, 3) := by decide +kernel
theorem dX1_firstWrong_12 : decode cX1_firstWrong 12 = .ok (.if_icmp .ge 52, 3) := by decide +kernel
theorem dX1_firstWrong_15 : decode cX1_firstWrong 15 = .ok (.aload_n 0, 1) := by decide +kernel
theorem dX1_firstWrong_16 : decode cX1_firstWrong 16 = .ok (.getfield 9, 3) := by decide +kernel
theorem dX1_firstWrong_19 : decode cX1_firstWrong 19 = .ok (.iload_n 2, 1) := by decide +kernel
theorem dX1_firstWrong_20 : decode cX1_firstWrong 20 = .ok (.iaload, 1) := by decide +kernel
theorem dX1_firstWrong_21 : decode cX1_firstWrong 21 = .ok (.istore_n 3, 1) := by decide +kernel
theorem dX1_firstWrong_22 : decode cX1_firstWrong 22 = .ok (.aload_n 0, 1) := by decide +kernel
theorem dX1_firstWrong_23 : decode cX1_firstWrong 23 = .ok (.getfield 15, 3) := by decide +kernel
theorem dX1_firstWrong_26 : decode cX1_firstWrong 26 = .ok (.iload_n 3, 1) := by decide +kernel
theorem dX1_firstWrong_27 : decode cX1_firstWrong 27 = .ok (.invokevirtual 40, 3) := by decide +kernel
theorem dX1_firstWrong_30 : decode cX1_firstWrong 30 = .ok (.ifCond .eq 16, 3) := by decide +kernel
theorem dX1_firstWrong_33 : decode cX1_firstWrong 33 = .ok (.aload_n 0, 1) := by decide +kernel
theorem dX1_firstWrong_34 : decode cX1_firstWrong 34 = .ok (.getfield 19, 3) := by decide +kernel
theorem dX1_firstWrong_37 : decode cX1_firstWrong 37 = .ok (.getfield 44, 3) := by decide +kernel
theorem dX1_firstWrong_40 : decode cX1_firstWrong 40 = .ok (.iload_n 3, 1) := by decide +kernel
theorem dX1_firstWrong_41 : decode cX1_firstWrong 41 = .ok (.iaload, 1) := by decide +kernel
theorem dX1_firstWrong_42 : decode cX1_firstWrong 42 = .ok (.iload_n 1, 1) := by decide +kernel
theorem dX1_firstWrong_43 : decode cX1_firstWrong 43 = .ok (.if_icmp .gt 5, 3) := by decide +kernel
theorem dX1_firstWrong_46 : decode cX1_firstWrong 46 = .ok (.iload_n 2, 1) := by decide +kernel
theorem dX1_firstWrong_47 : decode cX1_firstWrong 47 = .ok (.ireturn, 1) := by decide +kernel
theorem dX1_firstWrong_48 : decode cX1_firstWrong 48 = .ok (.aload_n 0, 1) := by decide +kernel
theorem dX1_firstWrong_49 : decode cX1_firstWrong 49 = .ok (.getfield 19, 3) := by decide +kernel
theorem dX1_firstWrong_52 : decode cX1_firstWrong 52 = .ok (.getfield 44, 3) := by decide +kernel
theorem dX1_firstWrong_55 : decode cX1_firstWrong 55 = .ok (.iload_n 3, 1) := by decide +kernel
theorem dX1_firstWrong_56 : decode cX1_firstWrong 56 = .ok (.iaload, 1) := by decide +kernel
theorem dX1_firstWrong_57 : decode cX1_firstWrong 57 = .ok (.istore_n 1, 1) := by decide +kernel
theorem dX1_firstWrong_58 : decode cX1_firstWrong 58 = .ok (.iinc 2 1, 3) := by decide +kernel
theorem dX1_firstWrong_61 : decode cX1_firstWrong 61 = .ok (.goto (-57), 3) := by decide +kernel
theorem dX1_firstWrong_64 : decode cX1_firstWrong 64 = .ok (.aload_n 0, 1) := by decide +kernel
theorem dX1_firstWrong_65 : decode cX1_firstWrong 65 = .ok (.getfield 15, 3) := by decide +kernel
theorem dX1_firstWrong_68 : decode cX1_firstWrong 68 = .ok (.getfield 28, 3) := by decide +kernel
theorem dX1_firstWrong_71 : decode cX1_firstWrong 71 = .ok (.ireturn, 1) := by decide +kernel
theorem dX2_init_0 : decode cX2_init 0 = .ok (.aload_n 0, 1) := by decide +kernel
theorem dX2_init_1 : decode cX2_init 1 = .ok (.invokespecial 3, 3) := by decide +kernel
theorem dX2_init_4 : decode cX2_init 4 = .ok (.aload_n 0, 1) := by decide +kernel
theorem dX2_init_5 : decode cX2_init 5 = .ok (.bipush 40, 2) := by decide +kernel
theorem dX2_init_7 : decode cX2_init 7 = .ok (.newarray .int, 2) := by decide +kernel
theorem dX2_init_9 : decode cX2_init 9 = .ok (.putfield 9, 3) := by decide +kernel
theorem dX2_init_12 : decode cX2_init 12 = .ok (.aload_n 0, 1) := by decide +kernel
theorem dX2_init_13 : decode cX2_init 13 = .ok (.aload_n 1, 1) := by decide +kernel
theorem dX2_init_14 : decode cX2_init 14 = .ok (.putfield 15, 3) := by decide +kernel
theorem dX2_init_17 : decode cX2_init 17 = .ok (.aload_n 0, 1) := by decide +kernel
theorem dX2_init_18 : decode cX2_init 18 = .ok (.aload_n 2, 1) := by decide +kernel
theorem dX2_init_19 : decode cX2_init 19 = .ok (.putfield 19, 3) := by decide +kernel
theorem dX2_init_22 : decode cX2_init 22 = .ok (.return_, 1) := by decide +kernel
theorem dX2_append_0 : decode cX2_append 0 = .ok (.iload_n 1, 1) := by decide +kernel
theorem dX2_append_1 : decode cX2_append 1 = .ok (.iconst (-1), 1) := by decide +kernel
theorem dX2_append_2 : decode cX2_append 2 = .ok (.if_icmp .eq 12, 3) := by decide +kernel
theorem dX2_append_5 : decode cX2_append 5 = .ok (.aload_n 0, 1) := by decide +kernel
theorem dX2_append_6 : decode cX2_append 6 = .ok (.getfield 23, 3) := by decide +kernel
theorem dX2_append_9 : decode cX2_append 9 = .ok (.bipush 40, 2) := by decide +kernel
theorem dX2_append_11 : decode cX2_append 11 = .ok (.if_icmp .lt 4, 3) := by decide +kernel
theorem dX2_append_14 : decode cX2_append 14 = .ok (.return_, 1) := by decide +kernel
theorem dX2_append_15 : decode cX2_append 15 = .ok (.aload_n 0, 1) := by decide +kernel
theorem dX2_append_16 : decode cX2_append 16 = .ok (.getfield 9, 3) := by decide +kernel
theorem dX2_append_19 : decode cX2_append 19 = .ok (.aload_n 0, 1) := by decide +kernel
theorem dX2_append_20 : decode cX2_append 20 = .ok (.getfield 23, 3) := by decide +kernel
theorem dX2_append_23 : decode cX2_append 23 = .ok (.iload_n 1, 1) := by decide +kernel
theorem dX2_append_24 : decode cX2_append 24 = .ok (.bipush 8, 2) := by decide +kernel
theorem dX2_append_26 : decode cX2_append 26 = .ok (.iadd, 1) := by decide +kernel
theorem dX2_append_27 : decode cX2_append 27 = .ok (.iastore, 1) := by decide +kernel
theorem dX2_append_28 : decode cX2_append 28 = .ok (.aload_n 0, 1) := by decide +kernel
theorem dX2_append_29 : decode cX2_append 29 = .ok (.dup, 1) := by decide +kernel
theorem dX2_append_30 : decode cX2_append 30 = .ok (.getfield 23, 3) := by decide +kernel
theorem dX2_append_33 : decode cX2_append 33 = .ok (.iconst 1, 1) := by decide +kernel
theorem dX2_append_34 : decode cX2_append 34 = .ok (.iadd, 1) := by decide +kernel
theorem dX2_append_35 : decode cX2_append 35 = .ok (.putfield 23, 3) := by decide +kernel
theorem dX2_append_38 : decode cX2_append 38 = .ok (.return_, 1) := by decide +kernel
theorem dX2_firstReaching_0 : decode cX2_firstReaching 0 = .ok (.iconst 0, 1) := by decide +kernel
theorem dX2_firstReaching_1 : decode cX2_firstReaching 1 = .ok (.istore_n 2, 1) := by decide +kernel
theorem dX2_firstReaching_2 : decode cX2_firstReaching 2 = .ok (.aload_n 0, 1) := by decide +kernel
theorem dX2_firstReaching_3 : decode cX2_firstReaching 3 = .ok (.getfield 15, 3) := by decide +kernel
theorem dX2_firstReaching_6 : decode cX2_firstReaching 6 = .ok (.getfield 27, 3) := by decide +kernel
theorem dX2_firstReaching_9 : decode cX2_firstReaching 9 = .ok (.istore_n 3, 1) := by decide +kernel
theorem dX2_firstReaching_10 : decode cX2_firstReaching 10 = .ok (.iload_n 2, 1) := by decide +kernel
theorem dX2_firstReaching_11 : decode cX2_firstReaching 11 = .ok (.iload_n 3, 1) := by decide +kernel
theorem dX2_firstReaching_12 : decode cX2_firstReaching 12 = .ok (.if_icmp .ge 42, 3) := by decide +kernel
theorem dX2_firstReaching_15 : decode cX2_firstReaching 15 = .ok (.iload_n 2, 1) := by decide +kernel
theorem dX2_firstReaching_16 : decode cX2_firstReaching 16 = .ok (.iload_n 3, 1) := by decide +kernel
theorem dX2_firstReaching_17 : decode cX2_firstReaching 17 = .ok (.iadd, 1) := by decide +kernel
theorem dX2_firstReaching_18 : decode cX2_firstReaching 18 = .ok (.iconst 2, 1) := by decide +kernel
theorem dX2_firstReaching_19 : decode cX2_firstReaching 19 = .ok (.idiv, 1) := by decide +kernel
theorem dX2_firstReaching_20 : decode cX2_firstReaching 20 = .ok (.istore 4, 2) := by decide +kernel
theorem dX2_firstReaching_22 : decode cX2_firstReaching 22 = .ok (.aload_n 0, 1) := by decide +kernel
theorem dX2_firstReaching_23 : decode cX2_firstReaching 23 = .ok (.aload_n 0, 1) := by decide +kernel
theorem dX2_firstReaching_24 : decode cX2_firstReaching 24 = .ok (.getfield 19, 3) := by decide +kernel
theorem dX2_firstReaching_27 : decode cX2_firstReaching 27 = .ok (.getfield 32, 3) := by decide +kernel
theorem dX2_firstReaching_30 : decode cX2_firstReaching 30 = .ok (.iload 4, 2) := by decide +kernel
theorem dX2_firstReaching_32 : decode cX2_firstReaching 32 = .ok (.iaload, 1) := by decide +kernel
theorem dX2_firstReaching_33 : decode cX2_firstReaching 33 = .ok (.invokevirtual 37, 3) := by decide +kernel
theorem dX2_firstReaching_36 : decode cX2_firstReaching 36 = .ok (.iload_n 1, 1) := by decide +kernel
theorem dX2_firstReaching_37 : decode cX2_firstReaching 37 = .ok (.if_icmp .ge 11, 3) := by decide +kernel
theorem dX2_firstReaching_40 : decode cX2_firstReaching 40 = .ok (.iload 4, 2) := by decide +kernel
theorem dX2_firstReaching_42 : decode cX2_firstReaching 42 = .ok (.iconst 1, 1) := by decide +kernel
theorem dX2_firstReaching_43 : decode cX2_firstReaching 43 = .ok (.iadd, 1) := by decide +kernel
theorem dX2_firstReaching_44 : decode cX2_firstReaching 44 = .ok (.istore_n 2, 1) := by decide +kernel
theorem dX2_firstReaching_45 : decode cX2_firstReaching 45 = .ok (.goto 6, 3) := by decide +kernel
theorem dX2_firstReaching_48 : decode cX2_firstReaching 48 = .ok (.iload 4, 2) := by decide +kernel
theorem dX2_firstReaching_50 : decode cX2_firstReaching 50 = .ok (.istore_n 3, 1) := by decide +kernel
theorem dX2_firstReaching_51 : decode cX2_firstReaching 51 = .ok (.goto (-41), 3) := by decide +kernel
theorem dX2_firstReaching_54 : decode cX2_firstReaching 54 = .ok (.iload_n 2, 1) := by decide +kernel
theorem dX2_firstReaching_55 : decode cX2_firstReaching 55 = .ok (.ireturn, 1) := by decide +kernel
theorem dX2_sideOf_0 : decode cX2_sideOf 0 = .ok (.aload_n 0, 1) := by decide +kernel
theorem dX2_sideOf_1 : decode cX2_sideOf 1 = .ok (.iload_n 1, 1) := by decide +kernel
theorem dX2_sideOf_2 : decode cX2_sideOf 2 = .ok (.invokevirtual 41, 3) := by decide +kernel
theorem dX2_sideOf_5 : decode cX2_sideOf 5 = .ok (.istore_n 2, 1) := by decide +kernel
theorem dX2_sideOf_6 : decode cX2_sideOf 6 = .ok (.iload_n 2, 1) := by decide +kernel
theorem dX2_sideOf_7 : decode cX2_sideOf 7 = .ok (.aload_n 0, 1) := by decide +kernel
theorem dX2_sideOf_8 : decode cX2_sideOf 8 = .ok (.getfield 23, 3) := by decide +kernel
theorem dX2_sideOf_11 : decode cX2_sideOf 11 = .ok (.if_icmp .ne 5, 3) := by decide +kernel
theorem dX2_sideOf_14 : decode cX2_sideOf 14 = .ok (.iconst 0, 1) := by decide +kernel
theorem dX2_sideOf_15 : decode cX2_sideOf 15 = .ok (.ireturn, 1) := by decide +kernel
theorem dX2_sideOf_16 : decode cX2_sideOf 16 = .ok (.iload_n 1, 1) := by decide +kernel
theorem dX2_sideOf_17 : decode cX2_sideOf 17 = .ok (.iload_n 2, 1) := by decide +kernel
theorem dX2_sideOf_18 : decode cX2_sideOf 18 = .ok (.iadd, 1) := by decide +kernel
theorem dX2_sideOf_19 : decode cX2_sideOf 19 = .ok (.aload_n 0, 1) := by decide +kernel
theorem dX2_sideOf_20 : decode cX2_sideOf 20 = .ok (.getfield 15, 3) := by decide +kernel
theorem dX2_sideOf_23 : decode cX2_sideOf 23 = .ok (.getfield 27, 3) := by decide +kernel
theorem dX2_sideOf_26 : decode cX2_sideOf 26 = .ok (.if_icmp .ge 23, 3) := by decide +kernel
theorem dX2_sideOf_29 : decode cX2_sideOf 29 = .ok (.aload_n 0, 1) := by decide +kernel
theorem dX2_sideOf_30 : decode cX2_sideOf 30 = .ok (.getfield 15, 3) := by decide +kernel
theorem dX2_sideOf_33 : decode cX2_sideOf 33 = .ok (.getfield 44, 3) := by decide +kernel
theorem dX2_sideOf_36 : decode cX2_sideOf 36 = .ok (.iload_n 1, 1) := by decide +kernel
theorem dX2_sideOf_37 : decode cX2_sideOf 37 = .ok (.iload_n 2, 1) := by decide +kernel
theorem dX2_sideOf_38 : decode cX2_sideOf 38 = .ok (.iadd, 1) := by decide +kernel
theorem dX2_sideOf_39 : decode cX2_sideOf 39 = .ok (.iaload, 1) := by decide +kernel
theorem dX2_sideOf_40 : decode cX2_sideOf 40 = .ok (.aload_n 0, 1) := by decide +kernel
theorem dX2_sideOf_41 : decode cX2_sideOf 41 = .ok (.getfield 9, 3) := by decide +kernel
theorem dX2_sideOf_44 : decode cX2_sideOf 44 = .ok (.iload_n 2, 1) := by decide +kernel
theorem dX2_sideOf_45 : decode cX2_sideOf 45 = .ok (.iaload, 1) := by decide +kernel
theorem dX2_sideOf_46 : decode cX2_sideOf 46 = .ok (.if_icmp .ge 5, 3) := by decide +kernel
theorem dX2_sideOf_49 : decode cX2_sideOf 49 = .ok (.iconst (-1), 1) := by decide +kernel
theorem dX2_sideOf_50 : decode cX2_sideOf 50 = .ok (.ireturn, 1) := by decide +kernel
theorem dX2_sideOf_51 : decode cX2_sideOf 51 = .ok (.iconst 1, 1) := by decide +kernel
theorem dX2_sideOf_52 : decode cX2_sideOf 52 = .ok (.ireturn, 1) := by decide +kernel
theorem dX2_alikeAt_0 : decode cX2_alikeAt 0 = .ok (.iconst 0, 1) := by decide +kernel
theorem dX2_alikeAt_1 : decode cX2_alikeAt 1 = .ok (.istore_n 2, 1) := by decide +kernel
theorem dX2_alikeAt_2 : decode cX2_alikeAt 2 = .ok (.iload_n 2, 1) := by decide +kernel
theorem dX2_alikeAt_3 : decode cX2_alikeAt 3 = .ok (.aload_n 0, 1) := by decide +kernel
theorem dX2_alikeAt_4 : decode cX2_alikeAt 4 = .ok (.getfield 23, 3) := by decide +kernel
theorem dX2_alikeAt_7 : decode cX2_alikeAt 7 = .ok (.if_icmp .ge 42, 3) := by decide +kernel
theorem dX2_alikeAt_10 : decode cX2_alikeAt 10 = .ok (.iload_n 1, 1) := by decide +kernel
theorem dX2_alikeAt_11 : decode cX2_alikeAt 11 = .ok (.iload_n 2, 1) := by decide +kernel
theorem dX2_alikeAt_12 : decode cX2_alikeAt 12 = .ok (.iadd, 1) := by decide +kernel
theorem dX2_alikeAt_13 : decode cX2_alikeAt 13 = .ok (.aload_n 0, 1) := by decide +kernel
theorem dX2_alikeAt_14 : decode cX2_alikeAt 14 = .ok (.getfield 15, 3) := by decide +kernel
theorem dX2_alikeAt_17 : decode cX2_alikeAt 17 = .ok (.getfield 27, 3) := by decide +kernel
theorem dX2_alikeAt_20 : decode cX2_alikeAt 20 = .ok (.if_icmp .ge 29, 3) := by decide +kernel
theorem dX2_alikeAt_23 : decode cX2_alikeAt 23 = .ok (.aload_n 0, 1) := by decide +kernel
theorem dX2_alikeAt_24 : decode cX2_alikeAt 24 = .ok (.getfield 15, 3) := by decide +kernel
theorem dX2_alikeAt_27 : decode cX2_alikeAt 27 = .ok (.getfield 44, 3) := by decide +kernel
theorem dX2_alikeAt_30 : decode cX2_alikeAt 30 = .ok (.iload_n 1, 1) := by decide +kernel
theorem dX2_alikeAt_31 : decode cX2_alikeAt 31 = .ok (.iload_n 2, 1) := by decide +kernel
theorem dX2_alikeAt_32 : decode cX2_alikeAt 32 = .ok (.iadd, 1) := by decide +kernel
theorem dX2_alikeAt_33 : decode cX2_alikeAt 33 = .ok (.iaload, 1) := by decide +kernel
theorem dX2_alikeAt_34 : decode cX2_alikeAt 34 = .ok (.aload_n 0, 1) := by decide +kernel
theorem dX2_alikeAt_35 : decode cX2_alikeAt 35 = .ok (.getfield 9, 3) := by decide +kernel
theorem dX2_alikeAt_38 : decode cX2_alikeAt 38 = .ok (.iload_n 2, 1) := by decide +kernel
theorem dX2_alikeAt_39 : decode cX2_alikeAt 39 = .ok (.iaload, 1) := by decide +kernel
theorem dX2_alikeAt_40 : decode cX2_alikeAt 40 = .ok (.if_icmp .ne 9, 3) := by decide +kernel
theorem dX2_alikeAt_43 : decode cX2_alikeAt 43 = .ok (.iinc 2 1, 3) := by decide +kernel
theorem dX2_alikeAt_46 : decode cX2_alikeAt 46 = .ok (.goto (-44), 3) := by decide +kernel
theorem dX2_alikeAt_49 : decode cX2_alikeAt 49 = .ok (.iload_n 2, 1) := by decide +kernel
theorem dX2_alikeAt_50 : decode cX2_alikeAt 50 = .ok (.ireturn, 1) := by decide +kernel
theorem dX2_longestBeginning_0 : decode cX2_longestBeginning 0 = .ok (.iconst 0, 1) := by decide +kernel
theorem dX2_longestBeginning_1 : decode cX2_longestBeginning 1 = .ok (.istore_n 2, 1) := by decide +kernel
theorem dX2_longestBeginning_2 : decode cX2_longestBeginning 2 = .ok (.iload_n 1, 1) := by decide +kernel
theorem dX2_longestBeginning_3 : decode cX2_longestBeginning 3 = .ok (.ifCond .le 19, 3) := by decide +kernel
theorem dX2_longestBeginning_6 : decode cX2_longestBeginning 6 = .ok (.aload_n 0, 1) := by decide +kernel
theorem dX2_longestBeginning_7 : decode cX2_longestBeginning 7 = .ok (.aload_n 0, 1) := by decide +kernel
theorem dX2_longestBeginning_8 : decode cX2_longestBeginning 8 = .ok (.getfield 19, 3) := by decide +kernel
theorem dX2_longestBeginning_11 : decode cX2_longestBeginning 11 = .ok (.getfield 32, 3) := by decide +kernel
theorem dX2_longestBeginning_14 : decode cX2_longestBeginning 14 = .ok (.iload_n 1, 1) := by decide +kernel
theorem dX2_longestBeginning_15 : decode cX2_longestBeginning 15 = .ok (.iconst 1, 1) := by decide +kernel
theorem dX2_longestBeginning_16 : decode cX2_longestBeginning 16 = .ok (.isub, 1) := by decide +kernel
theorem dX2_longestBeginning_17 : decode cX2_longestBeginning 17 = .ok (.iaload, 1) := by decide +kernel
theorem dX2_longestBeginning_18 : decode cX2_longestBeginning 18 = .ok (.invokevirtual 41, 3) := by decide +kernel
theorem dX2_longestBeginning_21 : decode cX2_longestBeginning 21 = .ok (.istore_n 2, 1) := by decide +kernel
theorem dX2_longestBeginning_22 : decode cX2_longestBeginning 22 = .ok (.iload_n 1, 1) := by decide +kernel
theorem dX2_longestBeginning_23 : decode cX2_longestBeginning 23 = .ok (.aload_n 0, 1) := by decide +kernel
theorem dX2_longestBeginning_24 : decode cX2_longestBeginning 24 = .ok (.getfield 15, 3) := by decide +kernel
theorem dX2_longestBeginning_27 : decode cX2_longestBeginning 27 = .ok (.getfield 27, 3) := by decide +kernel
theorem dX2_longestBeginning_30 : decode cX2_longestBeginning 30 = .ok (.if_icmp .ge 21, 3) := by decide +kernel
theorem dX2_longestBeginning_33 : decode cX2_longestBeginning 33 = .ok (.iload_n 2, 1) := by decide +kernel
theorem dX2_longestBeginning_34 : decode cX2_longestBeginning 34 = .ok (.aload_n 0, 1) := by decide +kernel
theorem dX2_longestBeginning_35 : decode cX2_longestBeginning 35 = .ok (.aload_n 0, 1) := by decide +kernel
theorem dX2_longestBeginning_36 : decode cX2_longestBeginning 36 = .ok (.getfield 19, 3) := by decide +kernel
theorem dX2_longestBeginning_39 : decode cX2_longestBeginning 39 = .ok (.getfield 32, 3) := by decide +kernel
theorem dX2_longestBeginning_42 : decode cX2_longestBeginning 42 = .ok (.iload_n 1, 1) := by decide +kernel
theorem dX2_longestBeginning_43 : decode cX2_longestBeginning 43 = .ok (.iaload, 1) := by decide +kernel
theorem dX2_longestBeginning_44 : decode cX2_longestBeginning 44 = .ok (.invokevirtual 41, 3) := by decide +kernel
theorem dX2_longestBeginning_47 : decode cX2_longestBeginning 47 = .ok (.invokestatic 45, 3) := by decide +kernel
theorem dX2_longestBeginning_50 : decode cX2_longestBeginning 50 = .ok (.istore_n 2, 1) := by decide +kernel
theorem dX2_longestBeginning_51 : decode cX2_longestBeginning 51 = .ok (.iload_n 2, 1) := by decide +kernel
theorem dX2_longestBeginning_52 : decode cX2_longestBeginning 52 = .ok (.ireturn, 1) := by decide +kernel
theorem dX2_placeOf_0 : decode cX2_placeOf 0 = .ok (.aload_n 0, 1) := by decide +kernel
theorem dX2_placeOf_1 : decode cX2_placeOf 1 = .ok (.iconst 0, 1) := by decide +kernel
theorem dX2_placeOf_2 : decode cX2_placeOf 2 = .ok (.invokevirtual 51, 3) := by decide +kernel
theorem dX2_placeOf_5 : decode cX2_placeOf 5 = .ok (.istore_n 2, 1) := by decide +kernel
theorem dX2_placeOf_6 : decode cX2_placeOf 6 = .ok (.aload_n 0, 1) := by decide +kernel
theorem dX2_placeOf_7 : decode cX2_placeOf 7 = .ok (.iconst 1, 1) := by decide +kernel
theorem dX2_placeOf_8 : decode cX2_placeOf 8 = .ok (.invokevirtual 51, 3) := by decide +kernel
theorem dX2_placeOf_11 : decode cX2_placeOf 11 = .ok (.istore_n 3, 1) := by decide +kernel
theorem dX2_placeOf_12 : decode cX2_placeOf 12 = .ok (.iload_n 1, 1) := by decide +kernel
theorem dX2_placeOf_13 : decode cX2_placeOf 13 = .ok (.istore 4, 2) := by decide +kernel
theorem dX2_placeOf_15 : decode cX2_placeOf 15 = .ok (.iconst 0, 1) := by decide +kernel
theorem dX2_placeOf_16 : decode cX2_placeOf 16 = .ok (.istore 5, 2) := by decide +kernel
theorem dX2_placeOf_18 : decode cX2_placeOf 18 = .ok (.iload 5, 2) := by decide +kernel
theorem dX2_placeOf_20 : decode cX2_placeOf 20 = .ok (.aload_n 0, 1) := by decide +kernel
theorem dX2_placeOf_21 : decode cX2_placeOf 21 = .ok (.getfield 15, 3) := by decide +kernel
theorem dX2_placeOf_24 : decode cX2_placeOf 24 = .ok (.getfield 27, 3) := by decide +kernel
theorem dX2_placeOf_27 : decode cX2_placeOf 27 = .ok (.if_icmp .ge 48, 3) := by decide +kernel
theorem dX2_placeOf_30 : decode cX2_placeOf 30 = .ok (.aload_n 0, 1) := by decide +kernel
theorem dX2_placeOf_31 : decode cX2_placeOf 31 = .ok (.getfield 19, 3) := by decide +kernel
theorem dX2_placeOf_34 : decode cX2_placeOf 34 = .ok (.getfield 54, 3) := by decide +kernel
theorem dX2_placeOf_37 : decode cX2_placeOf 37 = .ok (.iload 5, 2) := by decide +kernel
theorem dX2_placeOf_39 : decode cX2_placeOf 39 = .ok (.iaload, 1) := by decide +kernel
theorem dX2_placeOf_40 : decode cX2_placeOf 40 = .ok (.iload_n 2, 1) := by decide +kernel
theorem dX2_placeOf_41 : decode cX2_placeOf 41 = .ok (.if_icmp .lt 28, 3) := by decide +kernel
theorem dX2_placeOf_44 : decode cX2_placeOf 44 = .ok (.aload_n 0, 1) := by decide +kernel
theorem dX2_placeOf_45 : decode cX2_placeOf 45 = .ok (.getfield 19, 3) := by decide +kernel
theorem dX2_placeOf_48 : decode cX2_placeOf 48 = .ok (.getfield 54, 3) := by decide +kernel
theorem dX2_placeOf_51 : decode cX2_placeOf 51 = .ok (.iload 5, 2) := by decide +kernel
theorem dX2_placeOf_53 : decode cX2_placeOf 53 = .ok (.iaload, 1) := by decide +kernel
theorem dX2_placeOf_54 : decode cX2_placeOf 54 = .ok (.iload_n 3, 1) := by decide +kernel
theorem dX2_placeOf_55 : decode cX2_placeOf 55 = .ok (.if_icmp .ge 14, 3) := by decide +kernel
theorem dX2_placeOf_58 : decode cX2_placeOf 58 = .ok (.iload 4, 2) := by decide +kernel
theorem dX2_placeOf_60 : decode cX2_placeOf 60 = .ok (.ifCond .ne 6, 3) := by decide +kernel
theorem dX2_placeOf_63 : decode cX2_placeOf 63 = .ok (.iload 5, 2) := by decide +kernel
theorem dX2_placeOf_65 : decode cX2_placeOf 65 = .ok (.ireturn, 1) := by decide +kernel
theorem dX2_placeOf_66 : decode cX2_placeOf 66 = .ok (.iinc 4 (-1), 3) := by decide +kernel
theorem dX2_placeOf_69 : decode cX2_placeOf 69 = .ok (.iinc 5 1, 3) := by decide +kernel
theorem dX2_placeOf_72 : decode cX2_placeOf 72 = .ok (.goto (-54), 3) := by decide +kernel
theorem dX2_placeOf_75 : decode cX2_placeOf 75 = .ok (.iconst (-1), 1) := by decide +kernel
theorem dX2_placeOf_76 : decode cX2_placeOf 76 = .ok (.ireturn, 1) := by decide +kernel
theorem dX3_init_0 : decode cX3_init 0 = .ok (.aload_n 0, 1) := by decide +kernel
theorem dX3_init_1 : decode cX3_init 1 = .ok (.invokespecial 3, 3) := by decide +kernel
theorem dX3_init_4 : decode cX3_init 4 = .ok (.aload_n 0, 1) := by decide +kernel
theorem dX3_init_5 : decode cX3_init 5 = .ok (.sipush 408, 3) := by decide +kernel
theorem dX3_init_8 : decode cX3_init 8 = .ok (.newarray .int, 2) := by decide +kernel
theorem dX3_init_10 : decode cX3_init 10 = .ok (.putfield 9, 3) := by decide +kernel
theorem dX3_init_13 : decode cX3_init 13 = .ok (.aload_n 0, 1) := by decide +kernel
theorem dX3_init_14 : decode cX3_init 14 = .ok (.sipush 408, 3) := by decide +kernel
theorem dX3_init_17 : decode cX3_init 17 = .ok (.newarray .int, 2) := by decide +kernel
theorem dX3_init_19 : decode cX3_init 19 = .ok (.putfield 15, 3) := by decide +kernel
theorem dX3_init_22 : decode cX3_init 22 = .ok (.aload_n 0, 1) := by decide +kernel
theorem dX3_init_23 : decode cX3_init 23 = .ok (.sipush 408, 3) := by decide +kernel
theorem dX3_init_26 : decode cX3_init 26 = .ok (.newarray .int, 2) := by decide +kernel
theorem dX3_init_28 : decode cX3_init 28 = .ok (.putfield 18, 3) := by decide +kernel
theorem dX3_init_31 : decode cX3_init 31 = .ok (.aload_n 0, 1) := by decide +kernel
theorem dX3_init_32 : decode cX3_init 32 = .ok (.new 21, 3) := by decide +kernel
theorem dX3_init_35 : decode cX3_init 35 = .ok (.dup, 1) := by decide +kernel
theorem dX3_init_36 : decode cX3_init 36 = .ok (.invokespecial 23, 3) := by decide +kernel
theorem dX3_init_39 : decode cX3_init 39 = .ok (.putfield 24, 3) := by decide +kernel
theorem dX3_init_42 : decode cX3_init 42 = .ok (.aload_n 0, 1) := by decide +kernel
theorem dX3_init_43 : decode cX3_init 43 = .ok (.aload_n 1, 1) := by decide +kernel
theorem dX3_init_44 : decode cX3_init 44 = .ok (.putfield 28, 3) := by decide +kernel
theorem dX3_init_47 : decode cX3_init 47 = .ok (.return_, 1) := by decide +kernel
theorem dX3_make_0 : decode cX3_make 0 = .ok (.aload_n 0, 1) := by decide +kernel
theorem dX3_make_1 : decode cX3_make 1 = .ok (.getfield 24, 3) := by decide +kernel
theorem dX3_make_4 : decode cX3_make 4 = .ok (.aload_n 0, 1) := by decide +kernel
theorem dX3_make_5 : decode cX3_make 5 = .ok (.getfield 28, 3) := by decide +kernel
theorem dX3_make_8 : decode cX3_make 8 = .ok (.getfield 32, 3) := by decide +kernel
theorem dX3_make_11 : decode cX3_make 11 = .ok (.aload_n 0, 1) := by decide +kernel
theorem dX3_make_12 : decode cX3_make 12 = .ok (.getfield 28, 3) := by decide +kernel
theorem dX3_make_15 : decode cX3_make 15 = .ok (.getfield 37, 3) := by decide +kernel
theorem dX3_make_18 : decode cX3_make 18 = .ok (.invokevirtual 41, 3) := by decide +kernel
theorem dX3_make_21 : decode cX3_make 21 = .ok (.aload_n 0, 1) := by decide +kernel
theorem dX3_make_22 : decode cX3_make 22 = .ok (.getfield 24, 3) := by decide +kernel
theorem dX3_make_25 : decode cX3_make 25 = .ok (.getfield 45, 3) := by decide +kernel
theorem dX3_make_28 : decode cX3_make 28 = .ok (.iconst 0, 1) := by decide +kernel
theorem dX3_make_29 : decode cX3_make 29 = .ok (.aload_n 0, 1) := by decide +kernel
theorem dX3_make_30 : decode cX3_make 30 = .ok (.getfield 9, 3) := by decide +kernel
theorem dX3_make_33 : decode cX3_make 33 = .ok (.iconst 0, 1) := by decide +kernel
theorem dX3_make_34 : decode cX3_make 34 = .ok (.aload_n 0, 1) := by decide +kernel
theorem dX3_make_35 : decode cX3_make 35 = .ok (.getfield 28, 3) := by decide +kernel
theorem dX3_make_38 : decode cX3_make 38 = .ok (.getfield 37, 3) := by decide +kernel
theorem dX3_make_41 : decode cX3_make 41 = .ok (.invokestatic 48, 3) := by decide +kernel
theorem dX3_make_44 : decode cX3_make 44 = .ok (.iconst 0, 1) := by decide +kernel
theorem dX3_make_45 : decode cX3_make 45 = .ok (.istore_n 1, 1) := by decide +kernel
theorem dX3_make_46 : decode cX3_make 46 = .ok (.iload_n 1, 1) := by decide +kernel
theorem dX3_make_47 : decode cX3_make 47 = .ok (.aload_n 0, 1) := by decide +kernel
theorem dX3_make_48 : decode cX3_make 48 = .ok (.getfield 28, 3) := by decide +kernel
theorem dX3_make_51 : decode cX3_make 51 = .ok (.getfield 37, 3) := by decide +kernel
theorem dX3_make_54 : decode cX3_make 54 = .ok (.if_icmp .ge 21, 3) := by decide +kernel
theorem dX3_make_57 : decode cX3_make 57 = .ok (.aload_n 0, 1) := by decide +kernel
theorem dX3_make_58 : decode cX3_make 58 = .ok (.getfield 15, 3) := by decide +kernel
theorem dX3_make_61 : decode cX3_make 61 = .ok (.aload_n 0, 1) := by decide +kernel
theorem dX3_make_62 : decode cX3_make 62 = .ok (.getfield 9, 3) := by decide +kernel
theorem dX3_make_65 : decode cX3_make 65 = .ok (.iload_n 1, 1) := by decide +kernel
theorem dX3_make_66 : decode cX3_make 66 = .ok (.iaload, 1) := by decide +kernel
theorem dX3_make_67 : decode cX3_make 67 = .ok (.iload_n 1, 1) := by decide +kernel
theorem dX3_make_68 : decode cX3_make 68 = .ok (.iastore, 1) := by decide +kernel
theorem dX3_make_69 : decode cX3_make 69 = .ok (.iinc 1 1, 3) := by decide +kernel
theorem dX3_make_72 : decode cX3_make 72 = .ok (.goto (-26), 3) := by decide +kernel
theorem dX3_make_75 : decode cX3_make 75 = .ok (.aload_n 0, 1) := by decide +kernel
theorem dX3_make_76 : decode cX3_make 76 = .ok (.invokevirtual 54, 3) := by decide +kernel
theorem dX3_make_79 : decode cX3_make 79 = .ok (.return_, 1) := by decide +kernel
theorem dX3_measureBesides_0 : decode cX3_measureBesides 0 = .ok (.iconst 0, 1) := by decide +kernel
theorem dX3_measureBesides_1 : decode cX3_measureBesides 1 = .ok (.istore_n 1, 1) := by decide +kernel
theorem dX3_measureBesides_2 : decode cX3_measureBesides 2 = .ok (.iconst 0, 1) := by decide +kernel
theorem dX3_measureBesides_3 : decode cX3_measureBesides 3 = .ok (.istore_n 2, 1) := by decide +kernel
theorem dX3_measureBesides_4 : decode cX3_measureBesides 4 = .ok (.iload_n 2, 1) := by decide +kernel
theorem dX3_measureBesides_5 : decode cX3_measureBesides 5 = .ok (.aload_n 0, 1) := by decide +kernel
theorem dX3_measureBesides_6 : decode cX3_measureBesides 6 = .ok (.getfield 28, 3) := by decide +kernel
theorem dX3_measureBesides_9 : decode cX3_measureBesides 9 = .ok (.getfield 37, 3) := by decide +kernel
theorem dX3_measureBesides_12 : decode cX3_measureBesides 12 = .ok (.if_icmp .ge 56, 3) := by decide +kernel
theorem dX3_measureBesides_15 : decode cX3_measureBesides 15 = .ok (.aload_n 0, 1) := by decide +kernel
theorem dX3_measureBesides_16 : decode cX3_measureBesides 16 = .ok (.getfield 15, 3) := by decide +kernel
theorem dX3_measureBesides_19 : decode cX3_measureBesides 19 = .ok (.iload_n 2, 1) := by decide +kernel
theorem dX3_measureBesides_20 : decode cX3_measureBesides 20 = .ok (.iaload, 1) := by decide +kernel
theorem dX3_measureBesides_21 : decode cX3_measureBesides 21 = .ok (.istore_n 3, 1) := by decide +kernel
theorem dX3_measureBesides_22 : decode cX3_measureBesides 22 = .ok (.iload_n 3, 1) := by decide +kernel
theorem dX3_measureBesides_23 : decode cX3_measureBesides 23 = .ok (.ifCond .ne 7, 3) := by decide +kernel
theorem dX3_measureBesides_26 : decode cX3_measureBesides 26 = .ok (.iconst 0, 1) := by decide +kernel
theorem dX3_measureBesides_27 : decode cX3_measureBesides 27 = .ok (.goto 20, 3) := by decide +kernel
theorem dX3_measureBesides_30 : decode cX3_measureBesides 30 = .ok (.aload_n 0, 1) := by decide +kernel
theorem dX3_measureBesides_31 : decode cX3_measureBesides 31 = .ok (.getfield 28, 3) := by decide +kernel
theorem dX3_measureBesides_34 : decode cX3_measureBesides 34 = .ok (.iload_n 2, 1) := by decide +kernel
theorem dX3_measureBesides_35 : decode cX3_measureBesides 35 = .ok (.aload_n 0, 1) := by decide +kernel
theorem dX3_measureBesides_36 : decode cX3_measureBesides 36 = .ok (.getfield 9, 3) := by decide +kernel
theorem dX3_measureBesides_39 : decode cX3_measureBesides 39 = .ok (.iload_n 3, 1) := by decide +kernel
theorem dX3_measureBesides_40 : decode cX3_measureBesides 40 = .ok (.iconst 1, 1) := by decide +kernel
theorem dX3_measureBesides_41 : decode cX3_measureBesides 41 = .ok (.isub, 1) := by decide +kernel
theorem dX3_measureBesides_42 : decode cX3_measureBesides 42 = .ok (.iaload, 1) := by decide +kernel
theorem dX3_measureBesides_43 : decode cX3_measureBesides 43 = .ok (.iload_n 1, 1) := by decide +kernel
theorem dX3_measureBesides_44 : decode cX3_measureBesides 44 = .ok (.invokevirtual 57, 3) := by decide +kernel
theorem dX3_measureBesides_47 : decode cX3_measureBesides 47 = .ok (.istore_n 1, 1) := by decide +kernel
theorem dX3_measureBesides_48 : decode cX3_measureBesides 48 = .ok (.aload_n 0, 1) := by decide +kernel
theorem dX3_measureBesides_49 : decode cX3_measureBesides 49 = .ok (.getfield 18, 3) := by decide +kernel
theorem dX3_measureBesides_52 : decode cX3_measureBesides 52 = .ok (.iload_n 3, 1) := by decide +kernel
theorem dX3_measureBesides_53 : decode cX3_measureBesides 53 = .ok (.iload_n 1, 1) := by decide +kernel
theorem dX3_measureBesides_54 : decode cX3_measureBesides 54 = .ok (.iastore, 1) := by decide +kernel
theorem dX3_measureBesides_55 : decode cX3_measureBesides 55 = .ok (.iload_n 1, 1) := by decide +kernel
theorem dX3_measureBesides_56 : decode cX3_measureBesides 56 = .ok (.ifCond .le 6, 3) := by decide +kernel
theorem dX3_measureBesides_59 : decode cX3_measureBesides 59 = .ok (.iinc 1 (-1), 3) := by decide +kernel
theorem dX3_measureBesides_62 : decode cX3_measureBesides 62 = .ok (.iinc 2 1, 3) := by decide +kernel
theorem dX3_measureBesides_65 : decode cX3_measureBesides 65 = .ok (.goto (-61), 3) := by decide +kernel
theorem dX3_measureBesides_68 : decode cX3_measureBesides 68 = .ok (.return_, 1) := by decide +kernel
theorem dX3_countTexts_0 : decode cX3_countTexts 0 = .ok (.iconst 0, 1) := by decide +kernel
theorem dX3_countTexts_1 : decode cX3_countTexts 1 = .ok (.istore_n 3, 1) := by decide +kernel
theorem dX3_countTexts_2 : decode cX3_countTexts 2 = .ok (.iload_n 1, 1) := by decide +kernel
theorem dX3_countTexts_3 : decode cX3_countTexts 3 = .ok (.istore 4, 2) := by decide +kernel
theorem dX3_countTexts_5 : decode cX3_countTexts 5 = .ok (.iload 4, 2) := by decide +kernel
theorem dX3_countTexts_7 : decode cX3_countTexts 7 = .ok (.iload_n 2, 1) := by decide +kernel
theorem dX3_countTexts_8 : decode cX3_countTexts 8 = .ok (.if_icmp .ge 29, 3) := by decide +kernel
theorem dX3_countTexts_11 : decode cX3_countTexts 11 = .ok (.iload_n 3, 1) := by decide +kernel
theorem dX3_countTexts_12 : decode cX3_countTexts 12 = .ok (.iconst 1, 1) := by decide +kernel
theorem dX3_countTexts_13 : decode cX3_countTexts 13 = .ok (.aload_n 0, 1) := by decide +kernel
theorem dX3_countTexts_14 : decode cX3_countTexts 14 = .ok (.getfield 28, 3) := by decide +kernel
theorem dX3_countTexts_17 : decode cX3_countTexts 17 = .ok (.getfield 61, 3) := by decide +kernel
theorem dX3_countTexts_20 : decode cX3_countTexts 20 = .ok (.aload_n 0, 1) := by decide +kernel
theorem dX3_countTexts_21 : decode cX3_countTexts 21 = .ok (.getfield 9, 3) := by decide +kernel
theorem dX3_countTexts_24 : decode cX3_countTexts 24 = .ok (.iload 4, 2) := by decide +kernel
theorem dX3_countTexts_26 : decode cX3_countTexts 26 = .ok (.iaload, 1) := by decide +kernel
theorem dX3_countTexts_27 : decode cX3_countTexts 27 = .ok (.iaload, 1) := by decide +kernel
theorem dX3_countTexts_28 : decode cX3_countTexts 28 = .ok (.ishl, 1) := by decide +kernel
theorem dX3_countTexts_29 : decode cX3_countTexts 29 = .ok (.ior, 1) := by decide +kernel
theorem dX3_countTexts_30 : decode cX3_countTexts 30 = .ok (.istore_n 3, 1) := by decide +kernel
theorem dX3_countTexts_31 : decode cX3_countTexts 31 = .ok (.iinc 4 1, 3) := by decide +kernel
theorem dX3_countTexts_34 : decode cX3_countTexts 34 = .ok (.goto (-29), 3) := by decide +kernel
theorem dX3_countTexts_37 : decode cX3_countTexts 37 = .ok (.iload_n 3, 1) := by decide +kernel
theorem dX3_countTexts_38 : decode cX3_countTexts 38 = .ok (.invokestatic 64, 3) := by decide +kernel
theorem dX3_countTexts_41 : decode cX3_countTexts 41 = .ok (.ireturn, 1) := by decide +kernel
theorem dX3_leastPlace_0 : decode cX3_leastPlace 0 = .ok (.iconst (-1), 1) := by decide +kernel
theorem dX3_leastPlace_1 : decode cX3_leastPlace 1 = .ok (.istore_n 3, 1) := by decide +kernel
theorem dX3_leastPlace_2 : decode cX3_leastPlace 2 = .ok (.iload_n 1, 1) := by decide +kernel
theorem dX3_leastPlace_3 : decode cX3_leastPlace 3 = .ok (.istore 4, 2) := by decide +kernel
theorem dX3_leastPlace_5 : decode cX3_leastPlace 5 = .ok (.iload 4, 2) := by decide +kernel
theorem dX3_leastPlace_7 : decode cX3_leastPlace 7 = .ok (.iload_n 2, 1) := by decide +kernel
theorem dX3_leastPlace_8 : decode cX3_leastPlace 8 = .ok (.if_icmp .ge 33, 3) := by decide +kernel
theorem dX3_leastPlace_11 : decode cX3_leastPlace 11 = .ok (.iload_n 3, 1) := by decide +kernel
theorem dX3_leastPlace_12 : decode cX3_leastPlace 12 = .ok (.iconst (-1), 1) := by decide +kernel
theorem dX3_leastPlace_13 : decode cX3_leastPlace 13 = .ok (.if_icmp .eq 14, 3) := by decide +kernel
theorem dX3_leastPlace_16 : decode cX3_leastPlace 16 = .ok (.aload_n 0, 1) := by decide +kernel
theorem dX3_leastPlace_17 : decode cX3_leastPlace 17 = .ok (.getfield 9, 3) := by decide +kernel
theorem dX3_leastPlace_20 : decode cX3_leastPlace 20 = .ok (.iload 4, 2) := by decide +kernel
theorem dX3_leastPlace_22 : decode cX3_leastPlace 22 = .ok (.iaload, 1) := by decide +kernel
theorem dX3_leastPlace_23 : decode cX3_leastPlace 23 = .ok (.iload_n 3, 1) := by decide +kernel
theorem dX3_leastPlace_24 : decode cX3_leastPlace 24 = .ok (.if_icmp .ge 11, 3) := by decide +kernel
theorem dX3_leastPlace_27 : decode cX3_leastPlace 27 = .ok (.aload_n 0, 1) := by decide +kernel
theorem dX3_leastPlace_28 : decode cX3_leastPlace 28 = .ok (.getfield 9, 3) := by decide +kernel
theorem dX3_leastPlace_31 : decode cX3_leastPlace 31 = .ok (.iload 4, 2) := by decide +kernel
theorem dX3_leastPlace_33 : decode cX3_leastPlace 33 = .ok (.iaload, 1) := by decide +kernel
theorem dX3_leastPlace_34 : decode cX3_leastPlace 34 = .ok (.istore_n 3, 1) := by decide +kernel
theorem dX3_leastPlace_35 : decode cX3_leastPlace 35 = .ok (.iinc 4 1, 3) := by decide +kernel
theorem dX3_leastPlace_38 : decode cX3_leastPlace 38 = .ok (.goto (-33), 3) := by decide +kernel
theorem dX3_leastPlace_41 : decode cX3_leastPlace 41 = .ok (.iload_n 3, 1) := by decide +kernel
theorem dX3_leastPlace_42 : decode cX3_leastPlace 42 = .ok (.ireturn, 1) := by decide +kernel
theorem dX3_greatestPlace_0 : decode cX3_greatestPlace 0 = .ok (.iconst (-1), 1) := by decide +kernel
theorem dX3_greatestPlace_1 : decode cX3_greatestPlace 1 = .ok (.istore_n 3, 1) := by decide +kernel
theorem dX3_greatestPlace_2 : decode cX3_greatestPlace 2 = .ok (.iload_n 1, 1) := by decide +kernel
theorem dX3_greatestPlace_3 : decode cX3_greatestPlace 3 = .ok (.istore 4, 2) := by decide +kernel
theorem dX3_greatestPlace_5 : decode cX3_greatestPlace 5 = .ok (.iload 4, 2) := by decide +kernel
theorem dX3_greatestPlace_7 : decode cX3_greatestPlace 7 = .ok (.iload_n 2, 1) := by decide +kernel
theorem dX3_greatestPlace_8 : decode cX3_greatestPlace 8 = .ok (.if_icmp .ge 21, 3) := by decide +kernel
theorem dX3_greatestPlace_11 : decode cX3_greatestPlace 11 = .ok (.iload_n 3, 1) := by decide +kernel
theorem dX3_greatestPlace_12 : decode cX3_greatestPlace 12 = .ok (.aload_n 0, 1) := by decide +kernel
theorem dX3_greatestPlace_13 : decode cX3_greatestPlace 13 = .ok (.getfield 9, 3) := by decide +kernel
theorem dX3_greatestPlace_16 : decode cX3_greatestPlace 16 = .ok (.iload 4, 2) := by decide +kernel
theorem dX3_greatestPlace_18 : decode cX3_greatestPlace 18 = .ok (.iaload, 1) := by decide +kernel
theorem dX3_greatestPlace_19 : decode cX3_greatestPlace 19 = .ok (.invokestatic 70, 3) := by decide +kernel
theorem dX3_greatestPlace_22 : decode cX3_greatestPlace 22 = .ok (.istore_n 3, 1) := by decide +kernel
theorem dX3_greatestPlace_23 : decode cX3_greatestPlace 23 = .ok (.iinc 4 1, 3) := by decide +kernel
theorem dX3_greatestPlace_26 : decode cX3_greatestPlace 26 = .ok (.goto (-21), 3) := by decide +kernel
theorem dX3_greatestPlace_29 : decode cX3_greatestPlace 29 = .ok (.iload_n 3, 1) := by decide +kernel
theorem dX3_greatestPlace_30 : decode cX3_greatestPlace 30 = .ok (.ireturn, 1) := by decide +kernel
theorem dX5_init_0 : decode cX5_init 0 = .ok (.aload_n 0, 1) := by decide +kernel
theorem dX5_init_1 : decode cX5_init 1 = .ok (.invokespecial 3, 3) := by decide +kernel
theorem dX5_init_4 : decode cX5_init 4 = .ok (.aload_n 0, 1) := by decide +kernel
theorem dX5_init_5 : decode cX5_init 5 = .ok (.aload_n 1, 1) := by decide +kernel
theorem dX5_init_6 : decode cX5_init 6 = .ok (.putfield 9, 3) := by decide +kernel
theorem dX5_init_9 : decode cX5_init 9 = .ok (.aload_n 0, 1) := by decide +kernel
theorem dX5_init_10 : decode cX5_init 10 = .ok (.aload_n 2, 1) := by decide +kernel
theorem dX5_init_11 : decode cX5_init 11 = .ok (.putfield 15, 3) := by decide +kernel
theorem dX5_init_14 : decode cX5_init 14 = .ok (.return_, 1) := by decide +kernel
theorem dX5_countAll_0 : decode cX5_countAll 0 = .ok (.lconst 0, 1) := by decide +kernel
theorem dX5_countAll_1 : decode cX5_countAll 1 = .ok (.lstore_n 1, 1) := by decide +kernel
theorem dX5_countAll_2 : decode cX5_countAll 2 = .ok (.iconst 0, 1) := by decide +kernel
theorem dX5_countAll_3 : decode cX5_countAll 3 = .ok (.istore_n 3, 1) := by decide +kernel
theorem dX5_countAll_4 : decode cX5_countAll 4 = .ok (.iload_n 3, 1) := by decide +kernel
theorem dX5_countAll_5 : decode cX5_countAll 5 = .ok (.aload_n 0, 1) := by decide +kernel
theorem dX5_countAll_6 : decode cX5_countAll 6 = .ok (.getfield 9, 3) := by decide +kernel
theorem dX5_countAll_9 : decode cX5_countAll 9 = .ok (.getfield 19, 3) := by decide +kernel
theorem dX5_countAll_12 : decode cX5_countAll 12 = .ok (.if_icmp .ge 39, 3) := by decide +kernel
theorem dX5_countAll_15 : decode cX5_countAll 15 = .ok (.lload_n 1, 1) := by decide +kernel
theorem dX5_countAll_16 : decode cX5_countAll 16 = .ok (.aload_n 0, 1) := by decide +kernel
theorem dX5_countAll_17 : decode cX5_countAll 17 = .ok (.getfield 9, 3) := by decide +kernel
theorem dX5_countAll_20 : decode cX5_countAll 20 = .ok (.aload_n 0, 1) := by decide +kernel
theorem dX5_countAll_21 : decode cX5_countAll 21 = .ok (.getfield 15, 3) := by decide +kernel
theorem dX5_countAll_24 : decode cX5_countAll 24 = .ok (.getfield 25, 3) := by decide +kernel
theorem dX5_countAll_27 : decode cX5_countAll 27 = .ok (.iload_n 3, 1) := by decide +kernel
theorem dX5_countAll_28 : decode cX5_countAll 28 = .ok (.iaload, 1) := by decide +kernel
theorem dX5_countAll_29 : decode cX5_countAll 29 = .ok (.invokevirtual 31, 3) := by decide +kernel
theorem dX5_countAll_32 : decode cX5_countAll 32 = .ok (.aload_n 0, 1) := by decide +kernel
theorem dX5_countAll_33 : decode cX5_countAll 33 = .ok (.getfield 15, 3) := by decide +kernel
theorem dX5_countAll_36 : decode cX5_countAll 36 = .ok (.getfield 35, 3) := by decide +kernel
theorem dX5_countAll_39 : decode cX5_countAll 39 = .ok (.iload_n 3, 1) := by decide +kernel
theorem dX5_countAll_40 : decode cX5_countAll 40 = .ok (.iaload, 1) := by decide +kernel
theorem dX5_countAll_41 : decode cX5_countAll 41 = .ok (.isub, 1) := by decide +kernel
theorem dX5_countAll_42 : decode cX5_countAll 42 = .ok (.i2l, 1) := by decide +kernel
theorem dX5_countAll_43 : decode cX5_countAll 43 = .ok (.ladd, 1) := by decide +kernel
theorem dX5_countAll_44 : decode cX5_countAll 44 = .ok (.lstore_n 1, 1) := by decide +kernel
theorem dX5_countAll_45 : decode cX5_countAll 45 = .ok (.iinc 3 1, 3) := by decide +kernel
theorem dX5_countAll_48 : decode cX5_countAll 48 = .ok (.goto (-44), 3) := by decide +kernel
theorem dX5_countAll_51 : decode cX5_countAll 51 = .ok (.lload_n 1, 1) := by decide +kernel
theorem dX5_countAll_52 : decode cX5_countAll 52 = .ok (.lreturn, 1) := by decide +kernel
theorem dX5_countStanding_0 : decode cX5_countStanding 0 = .ok (.iconst 0, 1) := by decide +kernel
theorem dX5_countStanding_1 : decode cX5_countStanding 1 = .ok (.istore_n 3, 1) := by decide +kernel
theorem dX5_countStanding_2 : decode cX5_countStanding 2 = .ok (.iconst 0, 1) := by decide +kernel
theorem dX5_countStanding_3 : decode cX5_countStanding 3 = .ok (.istore 4, 2) := by decide +kernel
theorem dX5_countStanding_5 : decode cX5_countStanding 5 = .ok (.iconst 1, 1) := by decide +kernel
theorem dX5_countStanding_6 : decode cX5_countStanding 6 = .ok (.istore 5, 2) := by decide +kernel
theorem dX5_countStanding_8 : decode cX5_countStanding 8 = .ok (.iload 5, 2) := by decide +kernel
theorem dX5_countStanding_10 : decode cX5_countStanding 10 = .ok (.aload_n 0, 1) := by decide +kernel
theorem dX5_countStanding_11 : decode cX5_countStanding 11 = .ok (.getfield 9, 3) := by decide +kernel
theorem dX5_countStanding_14 : decode cX5_countStanding 14 = .ok (.getfield 19, 3) := by decide +kernel
theorem dX5_countStanding_17 : decode cX5_countStanding 17 = .ok (.if_icmp .gt 40, 3) := by decide +kernel
theorem dX5_countStanding_20 : decode cX5_countStanding 20 = .ok (.aload_n 0, 1) := by decide +kernel
theorem dX5_countStanding_21 : decode cX5_countStanding 21 = .ok (.iload 5, 2) := by decide +kernel
theorem dX5_countStanding_23 : decode cX5_countStanding 23 = .ok (.iload_n 1, 1) := by decide +kernel
theorem dX5_countStanding_24 : decode cX5_countStanding 24 = .ok (.invokevirtual 38, 3) := by decide +kernel
theorem dX5_countStanding_27 : decode cX5_countStanding 27 = .ok (.ifCond .eq 24, 3) := by decide +kernel
theorem dX5_countStanding_30 : decode cX5_countStanding 30 = .ok (.aload_n 0, 1) := by decide +kernel
theorem dX5_countStanding_31 : decode cX5_countStanding 31 = .ok (.iload 4, 2) := by decide +kernel
theorem dX5_countStanding_33 : decode cX5_countStanding 33 = .ok (.iload 5, 2) := by decide +kernel
theorem dX5_countStanding_35 : decode cX5_countStanding 35 = .ok (.iload_n 1, 1) := by decide +kernel
theorem dX5_countStanding_36 : decode cX5_countStanding 36 = .ok (.iload_n 2, 1) := by decide +kernel
theorem dX5_countStanding_37 : decode cX5_countStanding 37 = .ok (.iconst 0, 1) := by decide +kernel
theorem dX5_countStanding_38 : decode cX5_countStanding 38 = .ok (.invokevirtual 42, 3) := by decide +kernel
theorem dX5_countStanding_41 : decode cX5_countStanding 41 = .ok (.ifCond .eq 6, 3) := by decide +kernel
theorem dX5_countStanding_44 : decode cX5_countStanding 44 = .ok (.iinc 3 1, 3) := by decide +kernel
theorem dX5_countStanding_47 : decode cX5_countStanding 47 = .ok (.iload 5, 2) := by decide +kernel
theorem dX5_countStanding_49 : decode cX5_countStanding 49 = .ok (.istore 4, 2) := by decide +kernel
theorem dX5_countStanding_51 : decode cX5_countStanding 51 = .ok (.iinc 5 1, 3) := by decide +kernel
theorem dX5_countStanding_54 : decode cX5_countStanding 54 = .ok (.goto (-46), 3) := by decide +kernel
theorem dX5_countStanding_57 : decode cX5_countStanding 57 = .ok (.iload_n 3, 1) := by decide +kernel
theorem dX5_countStanding_58 : decode cX5_countStanding 58 = .ok (.ireturn, 1) := by decide +kernel
theorem dX5_tellLongest_0 : decode cX5_tellLongest 0 = .ok (.aload_n 0, 1) := by decide +kernel
theorem dX5_tellLongest_1 : decode cX5_tellLongest 1 = .ok (.iload_n 1, 1) := by decide +kernel
theorem dX5_tellLongest_2 : decode cX5_tellLongest 2 = .ok (.iload_n 2, 1) := by decide +kernel
theorem dX5_tellLongest_3 : decode cX5_tellLongest 3 = .ok (.invokevirtual 46, 3) := by decide +kernel
theorem dX5_tellLongest_6 : decode cX5_tellLongest 6 = .ok (.istore 4, 2) := by decide +kernel
theorem dX5_tellLongest_8 : decode cX5_tellLongest 8 = .ok (.iload_n 3, 1) := by decide +kernel
theorem dX5_tellLongest_9 : decode cX5_tellLongest 9 = .ok (.ifCond .ne 6, 3) := by decide +kernel
theorem dX5_tellLongest_12 : decode cX5_tellLongest 12 = .ok (.iload 4, 2) := by decide +kernel
theorem dX5_tellLongest_14 : decode cX5_tellLongest 14 = .ok (.ireturn, 1) := by decide +kernel
theorem dX5_tellLongest_15 : decode cX5_tellLongest 15 = .ok (.iload 4, 2) := by decide +kernel
theorem dX5_tellLongest_17 : decode cX5_tellLongest 17 = .ok (.ifCond .ne 5, 3) := by decide +kernel
theorem dX5_tellLongest_20 : decode cX5_tellLongest 20 = .ok (.iconst (-1), 1) := by decide +kernel
theorem dX5_tellLongest_21 : decode cX5_tellLongest 21 = .ok (.ireturn, 1) := by decide +kernel
theorem dX5_tellLongest_22 : decode cX5_tellLongest 22 = .ok (.aload_n 0, 1) := by decide +kernel
theorem dX5_tellLongest_23 : decode cX5_tellLongest 23 = .ok (.iload 4, 2) := by decide +kernel
theorem dX5_tellLongest_25 : decode cX5_tellLongest 25 = .ok (.iload_n 1, 1) := by decide +kernel
theorem dX5_tellLongest_26 : decode cX5_tellLongest 26 = .ok (.iload_n 2, 1) := by decide +kernel
theorem dX5_tellLongest_27 : decode cX5_tellLongest 27 = .ok (.invokevirtual 50, 3) := by decide +kernel
theorem dX5_tellLongest_30 : decode cX5_tellLongest 30 = .ok (.istore 5, 2) := by decide +kernel
theorem dX5_tellLongest_32 : decode cX5_tellLongest 32 = .ok (.aload_n 0, 1) := by decide +kernel
theorem dX5_tellLongest_33 : decode cX5_tellLongest 33 = .ok (.iload 5, 2) := by decide +kernel
theorem dX5_tellLongest_35 : decode cX5_tellLongest 35 = .ok (.iload 4, 2) := by decide +kernel
theorem dX5_tellLongest_37 : decode cX5_tellLongest 37 = .ok (.invokevirtual 54, 3) := by decide +kernel
theorem dX5_tellLongest_40 : decode cX5_tellLongest 40 = .ok (.istore 6, 2) := by decide +kernel
theorem dX5_tellLongest_42 : decode cX5_tellLongest 42 = .ok (.iload_n 3, 1) := by decide +kernel
theorem dX5_tellLongest_43 : decode cX5_tellLongest 43 = .ok (.iconst 1, 1) := by decide +kernel
theorem dX5_tellLongest_44 : decode cX5_tellLongest 44 = .ok (.if_icmp .ne 15, 3) := by decide +kernel
theorem dX5_tellLongest_47 : decode cX5_tellLongest 47 = .ok (.aload_n 0, 1) := by decide +kernel
theorem dX5_tellLongest_48 : decode cX5_tellLongest 48 = .ok (.getfield 15, 3) := by decide +kernel
theorem dX5_tellLongest_51 : decode cX5_tellLongest 51 = .ok (.iload 6, 2) := by decide +kernel
theorem dX5_tellLongest_53 : decode cX5_tellLongest 53 = .ok (.iload 5, 2) := by decide +kernel
theorem dX5_tellLongest_55 : decode cX5_tellLongest 55 = .ok (.invokevirtual 58, 3) := by decide +kernel
theorem dX5_tellLongest_58 : decode cX5_tellLongest 58 = .ok (.ireturn, 1) := by decide +kernel
theorem dX5_tellLongest_59 : decode cX5_tellLongest 59 = .ok (.iload_n 3, 1) := by decide +kernel
theorem dX5_tellLongest_60 : decode cX5_tellLongest 60 = .ok (.iconst 2, 1) := by decide +kernel
theorem dX5_tellLongest_61 : decode cX5_tellLongest 61 = .ok (.if_icmp .ne 11, 3) := by decide +kernel
theorem dX5_tellLongest_64 : decode cX5_tellLongest 64 = .ok (.iload 5, 2) := by decide +kernel
theorem dX5_tellLongest_66 : decode cX5_tellLongest 66 = .ok (.iload 6, 2) := by decide +kernel
theorem dX5_tellLongest_68 : decode cX5_tellLongest 68 = .ok (.isub, 1) := by decide +kernel
theorem dX5_tellLongest_69 : decode cX5_tellLongest 69 = .ok (.goto 14, 3) := by decide +kernel
theorem dX5_tellLongest_72 : decode cX5_tellLongest 72 = .ok (.aload_n 0, 1) := by decide +kernel
theorem dX5_tellLongest_73 : decode cX5_tellLongest 73 = .ok (.getfield 15, 3) := by decide +kernel
theorem dX5_tellLongest_76 : decode cX5_tellLongest 76 = .ok (.iload 6, 2) := by decide +kernel
theorem dX5_tellLongest_78 : decode cX5_tellLongest 78 = .ok (.iload 5, 2) := by decide +kernel
theorem dX5_tellLongest_80 : decode cX5_tellLongest 80 = .ok (.invokevirtual 61, 3) := by decide +kernel
theorem dX5_tellLongest_83 : decode cX5_tellLongest 83 = .ok (.ireturn, 1) := by decide +kernel
theorem dX5_longestLength_0 : decode cX5_longestLength 0 = .ok (.iconst 0, 1) := by decide +kernel
theorem dX5_longestLength_1 : decode cX5_longestLength 1 = .ok (.istore_n 3, 1) := by decide +kernel
theorem dX5_longestLength_2 : decode cX5_longestLength 2 = .ok (.aload_n 0, 1) := by decide +kernel
theorem dX5_longestLength_3 : decode cX5_longestLength 3 = .ok (.getfield 9, 3) := by decide +kernel
theorem dX5_longestLength_6 : decode cX5_longestLength 6 = .ok (.getfield 19, 3) := by decide +kernel
theorem dX5_longestLength_9 : decode cX5_longestLength 9 = .ok (.istore 4, 2) := by decide +kernel
theorem dX5_longestLength_11 : decode cX5_longestLength 11 = .ok (.iload_n 3, 1) := by decide +kernel
theorem dX5_longestLength_12 : decode cX5_longestLength 12 = .ok (.iload 4, 2) := by decide +kernel
theorem dX5_longestLength_14 : decode cX5_longestLength 14 = .ok (.if_icmp .ge 40, 3) := by decide +kernel
theorem dX5_longestLength_17 : decode cX5_longestLength 17 = .ok (.iload_n 3, 1) := by decide +kernel
theorem dX5_longestLength_18 : decode cX5_longestLength 18 = .ok (.iload 4, 2) := by decide +kernel
theorem dX5_longestLength_20 : decode cX5_longestLength 20 = .ok (.iadd, 1) := by decide +kernel
theorem dX5_longestLength_21 : decode cX5_longestLength 21 = .ok (.iconst 1, 1) := by decide +kernel
theorem dX5_longestLength_22 : decode cX5_longestLength 22 = .ok (.iadd, 1) := by decide +kernel
theorem dX5_longestLength_23 : decode cX5_longestLength 23 = .ok (.iconst 2, 1) := by decide +kernel
theorem dX5_longestLength_24 : decode cX5_longestLength 24 = .ok (.idiv, 1) := by decide +kernel
theorem dX5_longestLength_25 : decode cX5_longestLength 25 = .ok (.istore 5, 2) := by decide +kernel
theorem dX5_longestLength_27 : decode cX5_longestLength 27 = .ok (.aload_n 0, 1) := by decide +kernel
theorem dX5_longestLength_28 : decode cX5_longestLength 28 = .ok (.iload 5, 2) := by decide +kernel
theorem dX5_longestLength_30 : decode cX5_longestLength 30 = .ok (.iload_n 1, 1) := by decide +kernel
theorem dX5_longestLength_31 : decode cX5_longestLength 31 = .ok (.iload_n 2, 1) := by decide +kernel
theorem dX5_longestLength_32 : decode cX5_longestLength 32 = .ok (.invokevirtual 50, 3) := by decide +kernel
theorem dX5_longestLength_35 : decode cX5_longestLength 35 = .ok (.iconst (-1), 1) := by decide +kernel
theorem dX5_longestLength_36 : decode cX5_longestLength 36 = .ok (.if_icmp .eq 9, 3) := by decide +kernel
theorem dX5_longestLength_39 : decode cX5_longestLength 39 = .ok (.iload 5, 2) := by decide +kernel
theorem dX5_longestLength_41 : decode cX5_longestLength 41 = .ok (.istore_n 3, 1) := by decide +kernel
theorem dX5_longestLength_42 : decode cX5_longestLength 42 = .ok (.goto 9, 3) := by decide +kernel
theorem dX5_longestLength_45 : decode cX5_longestLength 45 = .ok (.iload 5, 2) := by decide +kernel
theorem dX5_longestLength_47 : decode cX5_longestLength 47 = .ok (.iconst 1, 1) := by decide +kernel
theorem dX5_longestLength_48 : decode cX5_longestLength 48 = .ok (.isub, 1) := by decide +kernel
theorem dX5_longestLength_49 : decode cX5_longestLength 49 = .ok (.istore 4, 2) := by decide +kernel
theorem dX5_longestLength_51 : decode cX5_longestLength 51 = .ok (.goto (-40), 3) := by decide +kernel
theorem dX5_longestLength_54 : decode cX5_longestLength 54 = .ok (.iload_n 3, 1) := by decide +kernel
theorem dX5_longestLength_55 : decode cX5_longestLength 55 = .ok (.ireturn, 1) := by decide +kernel
theorem dX5_firstRunEnd_0 : decode cX5_firstRunEnd 0 = .ok (.iconst 0, 1) := by decide +kernel
theorem dX5_firstRunEnd_1 : decode cX5_firstRunEnd 1 = .ok (.istore 4, 2) := by decide +kernel
theorem dX5_firstRunEnd_3 : decode cX5_firstRunEnd 3 = .ok (.iconst 1, 1) := by decide +kernel
theorem dX5_firstRunEnd_4 : decode cX5_firstRunEnd 4 = .ok (.istore 5, 2) := by decide +kernel
theorem dX5_firstRunEnd_6 : decode cX5_firstRunEnd 6 = .ok (.iload 5, 2) := by decide +kernel
theorem dX5_firstRunEnd_8 : decode cX5_firstRunEnd 8 = .ok (.aload_n 0, 1) := by decide +kernel
theorem dX5_firstRunEnd_9 : decode cX5_firstRunEnd 9 = .ok (.getfield 9, 3) := by decide +kernel
theorem dX5_firstRunEnd_12 : decode cX5_firstRunEnd 12 = .ok (.getfield 19, 3) := by decide +kernel
theorem dX5_firstRunEnd_15 : decode cX5_firstRunEnd 15 = .ok (.if_icmp .gt 40, 3) := by decide +kernel
theorem dX5_firstRunEnd_18 : decode cX5_firstRunEnd 18 = .ok (.aload_n 0, 1) := by decide +kernel
theorem dX5_firstRunEnd_19 : decode cX5_firstRunEnd 19 = .ok (.iload 5, 2) := by decide +kernel
theorem dX5_firstRunEnd_21 : decode cX5_firstRunEnd 21 = .ok (.iload_n 1, 1) := by decide +kernel
theorem dX5_firstRunEnd_22 : decode cX5_firstRunEnd 22 = .ok (.invokevirtual 38, 3) := by decide +kernel
theorem dX5_firstRunEnd_25 : decode cX5_firstRunEnd 25 = .ok (.ifCond .eq 24, 3) := by decide +kernel
theorem dX5_firstRunEnd_28 : decode cX5_firstRunEnd 28 = .ok (.aload_n 0, 1) := by decide +kernel
theorem dX5_firstRunEnd_29 : decode cX5_firstRunEnd 29 = .ok (.iload 4, 2) := by decide +kernel
theorem dX5_firstRunEnd_31 : decode cX5_firstRunEnd 31 = .ok (.iload 5, 2) := by decide +kernel
theorem dX5_firstRunEnd_33 : decode cX5_firstRunEnd 33 = .ok (.iload_n 1, 1) := by decide +kernel
theorem dX5_firstRunEnd_34 : decode cX5_firstRunEnd 34 = .ok (.iload_n 2, 1) := by decide +kernel
theorem dX5_firstRunEnd_35 : decode cX5_firstRunEnd 35 = .ok (.iload_n 3, 1) := by decide +kernel
theorem dX5_firstRunEnd_36 : decode cX5_firstRunEnd 36 = .ok (.invokevirtual 42, 3) := by decide +kernel
theorem dX5_firstRunEnd_39 : decode cX5_firstRunEnd 39 = .ok (.ifCond .eq 6, 3) := by decide +kernel
theorem dX5_firstRunEnd_42 : decode cX5_firstRunEnd 42 = .ok (.iload 5, 2) := by decide +kernel
theorem dX5_firstRunEnd_44 : decode cX5_firstRunEnd 44 = .ok (.ireturn, 1) := by decide +kernel
theorem dX5_firstRunEnd_45 : decode cX5_firstRunEnd 45 = .ok (.iload 5, 2) := by decide +kernel
theorem dX5_firstRunEnd_47 : decode cX5_firstRunEnd 47 = .ok (.istore 4, 2) := by decide +kernel
theorem dX5_firstRunEnd_49 : decode cX5_firstRunEnd 49 = .ok (.iinc 5 1, 3) := by decide +kernel
theorem dX5_firstRunEnd_52 : decode cX5_firstRunEnd 52 = .ok (.goto (-46), 3) := by decide +kernel
theorem dX5_firstRunEnd_55 : decode cX5_firstRunEnd 55 = .ok (.iconst (-1), 1) := by decide +kernel
theorem dX5_firstRunEnd_56 : decode cX5_firstRunEnd 56 = .ok (.ireturn, 1) := by decide +kernel
theorem dX5_runStart_0 : decode cX5_runStart 0 = .ok (.iload_n 1, 1) := by decide +kernel
theorem dX5_runStart_1 : decode cX5_runStart 1 = .ok (.iconst 1, 1) := by decide +kernel
theorem dX5_runStart_2 : decode cX5_runStart 2 = .ok (.isub, 1) := by decide +kernel
theorem dX5_runStart_3 : decode cX5_runStart 3 = .ok (.istore_n 3, 1) := by decide +kernel
theorem dX5_runStart_4 : decode cX5_runStart 4 = .ok (.iload_n 3, 1) := by decide +kernel
theorem dX5_runStart_5 : decode cX5_runStart 5 = .ok (.ifCond .le 22, 3) := by decide +kernel
theorem dX5_runStart_8 : decode cX5_runStart 8 = .ok (.aload_n 0, 1) := by decide +kernel
theorem dX5_runStart_9 : decode cX5_runStart 9 = .ok (.getfield 15, 3) := by decide +kernel
theorem dX5_runStart_12 : decode cX5_runStart 12 = .ok (.getfield 35, 3) := by decide +kernel
theorem dX5_runStart_15 : decode cX5_runStart 15 = .ok (.iload_n 3, 1) := by decide +kernel
theorem dX5_runStart_16 : decode cX5_runStart 16 = .ok (.iaload, 1) := by decide +kernel
theorem dX5_runStart_17 : decode cX5_runStart 17 = .ok (.iload_n 2, 1) := by decide +kernel
theorem dX5_runStart_18 : decode cX5_runStart 18 = .ok (.if_icmp .lt 9, 3) := by decide +kernel
theorem dX5_runStart_21 : decode cX5_runStart 21 = .ok (.iinc 3 (-1), 3) := by decide +kernel
theorem dX5_runStart_24 : decode cX5_runStart 24 = .ok (.goto (-20), 3) := by decide +kernel
theorem dX5_runStart_27 : decode cX5_runStart 27 = .ok (.iload_n 3, 1) := by decide +kernel
theorem dX5_runStart_28 : decode cX5_runStart 28 = .ok (.ireturn, 1) := by decide +kernel
theorem dX5_isRunEnd_0 : decode cX5_isRunEnd 0 = .ok (.iload_n 1, 1) := by decide +kernel
theorem dX5_isRunEnd_1 : decode cX5_isRunEnd 1 = .ok (.aload_n 0, 1) := by decide +kernel
theorem dX5_isRunEnd_2 : decode cX5_isRunEnd 2 = .ok (.getfield 9, 3) := by decide +kernel
theorem dX5_isRunEnd_5 : decode cX5_isRunEnd 5 = .ok (.getfield 19, 3) := by decide +kernel
theorem dX5_isRunEnd_8 : decode cX5_isRunEnd 8 = .ok (.if_icmp .eq 16, 3) := by decide +kernel
theorem dX5_isRunEnd_11 : decode cX5_isRunEnd 11 = .ok (.aload_n 0, 1) := by decide +kernel
theorem dX5_isRunEnd_12 : decode cX5_isRunEnd 12 = .ok (.getfield 15, 3) := by decide +kernel
theorem dX5_isRunEnd_15 : decode cX5_isRunEnd 15 = .ok (.getfield 35, 3) := by decide +kernel
theorem dX5_isRunEnd_18 : decode cX5_isRunEnd 18 = .ok (.iload_n 1, 1) := by decide +kernel
theorem dX5_isRunEnd_19 : decode cX5_isRunEnd 19 = .ok (.iaload, 1) := by decide +kernel
theorem dX5_isRunEnd_20 : decode cX5_isRunEnd 20 = .ok (.iload_n 2, 1) := by decide +kernel
theorem dX5_isRunEnd_21 : decode cX5_isRunEnd 21 = .ok (.if_icmp .ge 7, 3) := by decide +kernel
theorem dX5_isRunEnd_24 : decode cX5_isRunEnd 24 = .ok (.iconst 1, 1) := by decide +kernel
theorem dX5_isRunEnd_25 : decode cX5_isRunEnd 25 = .ok (.goto 4, 3) := by decide +kernel
theorem dX5_isRunEnd_28 : decode cX5_isRunEnd 28 = .ok (.iconst 0, 1) := by decide +kernel
theorem dX5_isRunEnd_29 : decode cX5_isRunEnd 29 = .ok (.ireturn, 1) := by decide +kernel
theorem dX5_isEnough_0 : decode cX5_isEnough 0 = .ok (.aload_n 0, 1) := by decide +kernel
theorem dX5_isEnough_1 : decode cX5_isEnough 1 = .ok (.getfield 9, 3) := by decide +kernel
theorem dX5_isEnough_4 : decode cX5_isEnough 4 = .ok (.aload_n 0, 1) := by decide +kernel
theorem dX5_isEnough_5 : decode cX5_isEnough 5 = .ok (.getfield 15, 3) := by decide +kernel
theorem dX5_isEnough_8 : decode cX5_isEnough 8 = .ok (.getfield 25, 3) := by decide +kernel
theorem dX5_isEnough_11 : decode cX5_isEnough 11 = .ok (.iload_n 1, 1) := by decide +kernel
theorem dX5_isEnough_12 : decode cX5_isEnough 12 = .ok (.iaload, 1) := by decide +kernel
theorem dX5_isEnough_13 : decode cX5_isEnough 13 = .ok (.invokevirtual 31, 3) := by decide +kernel
theorem dX5_isEnough_16 : decode cX5_isEnough 16 = .ok (.iload_n 3, 1) := by decide +kernel
theorem dX5_isEnough_17 : decode cX5_isEnough 17 = .ok (.if_icmp .ge 5, 3) := by decide +kernel
theorem dX5_isEnough_20 : decode cX5_isEnough 20 = .ok (.iconst 0, 1) := by decide +kernel
theorem dX5_isEnough_21 : decode cX5_isEnough 21 = .ok (.ireturn, 1) := by decide +kernel
theorem dX5_isEnough_22 : decode cX5_isEnough 22 = .ok (.iload 5, 2) := by decide +kernel
theorem dX5_isEnough_24 : decode cX5_isEnough 24 = .ok (.ifCond .eq 15, 3) := by decide +kernel
theorem dX5_isEnough_27 : decode cX5_isEnough 27 = .ok (.aload_n 0, 1) := by decide +kernel
theorem dX5_isEnough_28 : decode cX5_isEnough 28 = .ok (.getfield 15, 3) := by decide +kernel
theorem dX5_isEnough_31 : decode cX5_isEnough 31 = .ok (.iload_n 1, 1) := by decide +kernel
theorem dX5_isEnough_32 : decode cX5_isEnough 32 = .ok (.iload_n 2, 1) := by decide +kernel
theorem dX5_isEnough_33 : decode cX5_isEnough 33 = .ok (.invokevirtual 61, 3) := by decide +kernel
theorem dX5_isEnough_36 : decode cX5_isEnough 36 = .ok (.goto 6, 3) := by decide +kernel
theorem dX5_isEnough_39 : decode cX5_isEnough 39 = .ok (.iload_n 2, 1) := by decide +kernel
theorem dX5_isEnough_40 : decode cX5_isEnough 40 = .ok (.iload_n 1, 1) := by decide +kernel
theorem dX5_isEnough_41 : decode cX5_isEnough 41 = .ok (.isub, 1) := by decide +kernel
theorem dX5_isEnough_42 : decode cX5_isEnough 42 = .ok (.iload 4, 2) := by decide +kernel
theorem dX5_isEnough_44 : decode cX5_isEnough 44 = .ok (.if_icmp .lt 7, 3) := by decide +kernel
theorem dX5_isEnough_47 : decode cX5_isEnough 47 = .ok (.iconst 1, 1) := by decide +kernel
theorem dX5_isEnough_48 : decode cX5_isEnough 48 = .ok (.goto 4, 3) := by decide +kernel
theorem dX5_isEnough_51 : decode cX5_isEnough 51 = .ok (.iconst 0, 1) := by decide +kernel
theorem dX5_isEnough_52 : decode cX5_isEnough 52 = .ok (.ireturn, 1) := by decide +kernel
theorem dX6_init_0 : decode cX6_init 0 = .ok (.aload_n 0, 1) := by decide +kernel
theorem dX6_init_1 : decode cX6_init 1 = .ok (.invokespecial 3, 3) := by decide +kernel
theorem dX6_init_4 : decode cX6_init 4 = .ok (.aload_n 0, 1) := by decide +kernel
theorem dX6_init_5 : decode cX6_init 5 = .ok (.sipush 400, 3) := by decide +kernel
theorem dX6_init_8 : decode cX6_init 8 = .ok (.newarray .int, 2) := by decide +kernel
theorem dX6_init_10 : decode cX6_init 10 = .ok (.putfield 9, 3) := by decide +kernel
theorem dX6_init_13 : decode cX6_init 13 = .ok (.aload_n 0, 1) := by decide +kernel
theorem dX6_init_14 : decode cX6_init 14 = .ok (.bipush 8, 2) := by decide +kernel
theorem dX6_init_16 : decode cX6_init 16 = .ok (.newarray .int, 2) := by decide +kernel
theorem dX6_init_18 : decode cX6_init 18 = .ok (.putfield 15, 3) := by decide +kernel
theorem dX6_init_21 : decode cX6_init 21 = .ok (.return_, 1) := by decide +kernel
theorem dX6_endOf_0 : decode cX6_endOf 0 = .ok (.iconst 0, 1) := by decide +kernel
theorem dX6_endOf_1 : decode cX6_endOf 1 = .ok (.istore_n 2, 1) := by decide +kernel
theorem dX6_endOf_2 : decode cX6_endOf 2 = .ok (.iconst 0, 1) := by decide +kernel
theorem dX6_endOf_3 : decode cX6_endOf 3 = .ok (.istore_n 3, 1) := by decide +kernel
theorem dX6_endOf_4 : decode cX6_endOf 4 = .ok (.iload_n 3, 1) := by decide +kernel
theorem dX6_endOf_5 : decode cX6_endOf 5 = .ok (.iload_n 1, 1) := by decide +kernel
theorem dX6_endOf_6 : decode cX6_endOf 6 = .ok (.if_icmp .gt 18, 3) := by decide +kernel
theorem dX6_endOf_9 : decode cX6_endOf 9 = .ok (.iload_n 2, 1) := by decide +kernel
theorem dX6_endOf_10 : decode cX6_endOf 10 = .ok (.aload_n 0, 1) := by decide +kernel
theorem dX6_endOf_11 : decode cX6_endOf 11 = .ok (.getfield 15, 3) := by decide +kernel
theorem dX6_endOf_14 : decode cX6_endOf 14 = .ok (.iload_n 3, 1) := by decide +kernel
theorem dX6_endOf_15 : decode cX6_endOf 15 = .ok (.iaload, 1) := by decide +kernel
theorem dX6_endOf_16 : decode cX6_endOf 16 = .ok (.iadd, 1) := by decide +kernel
theorem dX6_endOf_17 : decode cX6_endOf 17 = .ok (.istore_n 2, 1) := by decide +kernel
theorem dX6_endOf_18 : decode cX6_endOf 18 = .ok (.iinc 3 1, 3) := by decide +kernel
theorem dX6_endOf_21 : decode cX6_endOf 21 = .ok (.goto (-17), 3) := by decide +kernel
theorem dX6_endOf_24 : decode cX6_endOf 24 = .ok (.iload_n 2, 1) := by decide +kernel
theorem dX6_endOf_25 : decode cX6_endOf 25 = .ok (.ireturn, 1) := by decide +kernel
theorem dX6_append_0 : decode cX6_append 0 = .ok (.iload_n 2, 1) := by decide +kernel
theorem dX6_append_1 : decode cX6_append 1 = .ok (.iconst (-1), 1) := by decide +kernel
theorem dX6_append_2 : decode cX6_append 2 = .ok (.if_icmp .eq 13, 3) := by decide +kernel
theorem dX6_append_5 : decode cX6_append 5 = .ok (.aload_n 0, 1) := by decide +kernel
theorem dX6_append_6 : decode cX6_append 6 = .ok (.getfield 18, 3) := by decide +kernel
theorem dX6_append_9 : decode cX6_append 9 = .ok (.sipush 400, 3) := by decide +kernel
theorem dX6_append_12 : decode cX6_append 12 = .ok (.if_icmp .lt 4, 3) := by decide +kernel
theorem dX6_append_15 : decode cX6_append 15 = .ok (.return_, 1) := by decide +kernel
theorem dX6_append_16 : decode cX6_append 16 = .ok (.aload_n 0, 1) := by decide +kernel
theorem dX6_append_17 : decode cX6_append 17 = .ok (.iload_n 1, 1) := by decide +kernel
theorem dX6_append_18 : decode cX6_append 18 = .ok (.invokevirtual 22, 3) := by decide +kernel
theorem dX6_append_21 : decode cX6_append 21 = .ok (.istore_n 3, 1) := by decide +kernel
theorem dX6_append_22 : decode cX6_append 22 = .ok (.aload_n 0, 1) := by decide +kernel
theorem dX6_append_23 : decode cX6_append 23 = .ok (.getfield 9, 3) := by decide +kernel
theorem dX6_append_26 : decode cX6_append 26 = .ok (.iload_n 3, 1) := by decide +kernel
theorem dX6_append_27 : decode cX6_append 27 = .ok (.aload_n 0, 1) := by decide +kernel
theorem dX6_append_28 : decode cX6_append 28 = .ok (.getfield 9, 3) := by decide +kernel
theorem dX6_append_31 : decode cX6_append 31 = .ok (.iload_n 3, 1) := by decide +kernel
theorem dX6_append_32 : decode cX6_append 32 = .ok (.iconst 1, 1) := by decide +kernel
theorem dX6_append_33 : decode cX6_append 33 = .ok (.iadd, 1) := by decide +kernel
theorem dX6_append_34 : decode cX6_append 34 = .ok (.aload_n 0, 1) := by decide +kernel
theorem dX6_append_35 : decode cX6_append 35 = .ok (.getfield 18, 3) := by decide +kernel
theorem dX6_append_38 : decode cX6_append 38 = .ok (.iload_n 3, 1) := by decide +kernel
theorem dX6_append_39 : decode cX6_append 39 = .ok (.isub, 1) := by decide +kernel
theorem dX6_append_40 : decode cX6_append 40 = .ok (.invokestatic 26, 3) := by decide +kernel
theorem dX6_append_43 : decode cX6_append 43 = .ok (.aload_n 0, 1) := by decide +kernel
theorem dX6_append_44 : decode cX6_append 44 = .ok (.getfield 9, 3) := by decide +kernel
theorem dX6_append_47 : decode cX6_append 47 = .ok (.iload_n 3, 1) := by decide +kernel
theorem dX6_append_48 : decode cX6_append 48 = .ok (.iload_n 2, 1) := by decide +kernel
theorem dX6_append_49 : decode cX6_append 49 = .ok (.iastore, 1) := by decide +kernel
theorem dX6_append_50 : decode cX6_append 50 = .ok (.aload_n 0, 1) := by decide +kernel
theorem dX6_append_51 : decode cX6_append 51 = .ok (.getfield 15, 3) := by decide +kernel
theorem dX6_append_54 : decode cX6_append 54 = .ok (.iload_n 1, 1) := by decide +kernel
theorem dX6_append_55 : decode cX6_append 55 = .ok (.dup2, 1) := by decide +kernel
theorem dX6_append_56 : decode cX6_append 56 = .ok (.iaload, 1) := by decide +kernel
theorem dX6_append_57 : decode cX6_append 57 = .ok (.iconst 1, 1) := by decide +kernel
theorem dX6_append_58 : decode cX6_append 58 = .ok (.iadd, 1) := by decide +kernel
theorem dX6_append_59 : decode cX6_append 59 = .ok (.iastore, 1) := by decide +kernel
theorem dX6_append_60 : decode cX6_append 60 = .ok (.aload_n 0, 1) := by decide +kernel
theorem dX6_append_61 : decode cX6_append 61 = .ok (.dup, 1) := by decide +kernel
theorem dX6_append_62 : decode cX6_append 62 = .ok (.getfield 18, 3) := by decide +kernel
theorem dX6_append_65 : decode cX6_append 65 = .ok (.iconst 1, 1) := by decide +kernel
theorem dX6_append_66 : decode cX6_append 66 = .ok (.iadd, 1) := by decide +kernel
theorem dX6_append_67 : decode cX6_append 67 = .ok (.putfield 18, 3) := by decide +kernel
theorem dX6_append_70 : decode cX6_append 70 = .ok (.return_, 1) := by decide +kernel
theorem dX6_dropLast_0 : decode cX6_dropLast 0 = .ok (.aload_n 0, 1) := by decide +kernel
theorem dX6_dropLast_1 : decode cX6_dropLast 1 = .ok (.iload_n 1, 1) := by decide +kernel
theorem dX6_dropLast_2 : decode cX6_dropLast 2 = .ok (.invokevirtual 22, 3) := by decide +kernel
theorem dX6_dropLast_5 : decode cX6_dropLast 5 = .ok (.istore_n 3, 1) := by decide +kernel
theorem dX6_dropLast_6 : decode cX6_dropLast 6 = .ok (.aload_n 0, 1) := by decide +kernel
theorem dX6_dropLast_7 : decode cX6_dropLast 7 = .ok (.getfield 9, 3) := by decide +kernel
theorem dX6_dropLast_10 : decode cX6_dropLast 10 = .ok (.iload_n 3, 1) := by decide +kernel
theorem dX6_dropLast_11 : decode cX6_dropLast 11 = .ok (.aload_n 0, 1) := by decide +kernel
theorem dX6_dropLast_12 : decode cX6_dropLast 12 = .ok (.getfield 9, 3) := by decide +kernel
theorem dX6_dropLast_15 : decode cX6_dropLast 15 = .ok (.iload_n 3, 1) := by decide +kernel
theorem dX6_dropLast_16 : decode cX6_dropLast 16 = .ok (.iload_n 2, 1) := by decide +kernel
theorem dX6_dropLast_17 : decode cX6_dropLast 17 = .ok (.isub, 1) := by decide +kernel
theorem dX6_dropLast_18 : decode cX6_dropLast 18 = .ok (.aload_n 0, 1) := by decide +kernel
theorem dX6_dropLast_19 : decode cX6_dropLast 19 = .ok (.getfield 18, 3) := by decide +kernel
theorem dX6_dropLast_22 : decode cX6_dropLast 22 = .ok (.iload_n 3, 1) := by decide +kernel
theorem dX6_dropLast_23 : decode cX6_dropLast 23 = .ok (.isub, 1) := by decide +kernel
theorem dX6_dropLast_24 : decode cX6_dropLast 24 = .ok (.invokestatic 26, 3) := by decide +kernel
theorem dX6_dropLast_27 : decode cX6_dropLast 27 = .ok (.aload_n 0, 1) := by decide +kernel
theorem dX6_dropLast_28 : decode cX6_dropLast 28 = .ok (.getfield 15, 3) := by decide +kernel
theorem dX6_dropLast_31 : decode cX6_dropLast 31 = .ok (.iload_n 1, 1) := by decide +kernel
theorem dX6_dropLast_32 : decode cX6_dropLast 32 = .ok (.dup2, 1) := by decide +kernel
theorem dX6_dropLast_33 : decode cX6_dropLast 33 = .ok (.iaload, 1) := by decide +kernel
theorem dX6_dropLast_34 : decode cX6_dropLast 34 = .ok (.iload_n 2, 1) := by decide +kernel
theorem dX6_dropLast_35 : decode cX6_dropLast 35 = .ok (.isub, 1) := by decide +kernel
theorem dX6_dropLast_36 : decode cX6_dropLast 36 = .ok (.iastore, 1) := by decide +kernel
theorem dX6_dropLast_37 : decode cX6_dropLast 37 = .ok (.aload_n 0, 1) := by decide +kernel
theorem dX6_dropLast_38 : decode cX6_dropLast 38 = .ok (.dup, 1) := by decide +kernel
theorem dX6_dropLast_39 : decode cX6_dropLast 39 = .ok (.getfield 18, 3) := by decide +kernel
theorem dX6_dropLast_42 : decode cX6_dropLast 42 = .ok (.iload_n 2, 1) := by decide +kernel
theorem dX6_dropLast_43 : decode cX6_dropLast 43 = .ok (.isub, 1) := by decide +kernel
theorem dX6_dropLast_44 : decode cX6_dropLast 44 = .ok (.putfield 18, 3) := by decide +kernel
theorem dX6_dropLast_47 : decode cX6_dropLast 47 = .ok (.return_, 1) := by decide +kernel
theorem dX7_init_0 : decode cX7_init 0 = .ok (.aload_n 0, 1) := by decide +kernel
theorem dX7_init_1 : decode cX7_init 1 = .ok (.invokespecial 3, 3) := by decide +kernel
theorem dX7_init_4 : decode cX7_init 4 = .ok (.aload_n 0, 1) := by decide +kernel
theorem dX7_init_5 : decode cX7_init 5 = .ok (.sipush 408, 3) := by decide +kernel
theorem dX7_init_8 : decode cX7_init 8 = .ok (.newarray .int, 2) := by decide +kernel
theorem dX7_init_10 : decode cX7_init 10 = .ok (.putfield 9, 3) := by decide +kernel
theorem dX7_init_13 : decode cX7_init 13 = .ok (.aload_n 0, 1) := by decide +kernel
theorem dX7_init_14 : decode cX7_init 14 = .ok (.sipush 408, 3) := by decide +kernel
theorem dX7_init_17 : decode cX7_init 17 = .ok (.newarray .int, 2) := by decide +kernel
theorem dX7_init_19 : decode cX7_init 19 = .ok (.putfield 15, 3) := by decide +kernel
theorem dX7_init_22 : decode cX7_init 22 = .ok (.aload_n 0, 1) := by decide +kernel
theorem dX7_init_23 : decode cX7_init 23 = .ok (.bipush 8, 2) := by decide +kernel
theorem dX7_init_25 : decode cX7_init 25 = .ok (.newarray .int, 2) := by decide +kernel
theorem dX7_init_27 : decode cX7_init 27 = .ok (.putfield 18, 3) := by decide +kernel
theorem dX7_init_30 : decode cX7_init 30 = .ok (.aload_n 0, 1) := by decide +kernel
theorem dX7_init_31 : decode cX7_init 31 = .ok (.bipush 8, 2) := by decide +kernel
theorem dX7_init_33 : decode cX7_init 33 = .ok (.newarray .int, 2) := by decide +kernel
theorem dX7_init_35 : decode cX7_init 35 = .ok (.putfield 21, 3) := by decide +kernel
theorem dX7_init_38 : decode cX7_init 38 = .ok (.return_, 1) := by decide +kernel
theorem dX7_lay_0 : decode cX7_lay 0 = .ok (.aload_n 0, 1) := by decide +kernel
theorem dX7_lay_1 : decode cX7_lay 1 = .ok (.iconst 0, 1) := by decide +kernel
theorem dX7_lay_2 : decode cX7_lay 2 = .ok (.putfield 24, 3) := by decide +kernel
theorem dX7_lay_5 : decode cX7_lay 5 = .ok (.iconst 0, 1) := by decide +kernel
theorem dX7_lay_6 : decode cX7_lay 6 = .ok (.istore_n 2, 1) := by decide +kernel
theorem dX7_lay_7 : decode cX7_lay 7 = .ok (.iconst 0, 1) := by decide +kernel
theorem dX7_lay_8 : decode cX7_lay 8 = .ok (.istore_n 3, 1) := by decide +kernel
theorem dX7_lay_9 : decode cX7_lay 9 = .ok (.iload_n 3, 1) := by decide +kernel
theorem dX7_lay_10 : decode cX7_lay 10 = .ok (.bipush 8, 2) := by decide +kernel
theorem dX7_lay_12 : decode cX7_lay 12 = .ok (.if_icmp .ge 81, 3) := by decide +kernel
theorem dX7_lay_15 : decode cX7_lay 15 = .ok (.aload_n 0, 1) := by decide +kernel
theorem dX7_lay_16 : decode cX7_lay 16 = .ok (.getfield 18, 3) := by decide +kernel
theorem dX7_lay_19 : decode cX7_lay 19 = .ok (.iload_n 3, 1) := by decide +kernel
theorem dX7_lay_20 : decode cX7_lay 20 = .ok (.aload_n 0, 1) := by decide +kernel
theorem dX7_lay_21 : decode cX7_lay 21 = .ok (.getfield 24, 3) := by decide +kernel
theorem dX7_lay_24 : decode cX7_lay 24 = .ok (.iastore, 1) := by decide +kernel
theorem dX7_lay_25 : decode cX7_lay 25 = .ok (.iconst 0, 1) := by decide +kernel
theorem dX7_lay_26 : decode cX7_lay 26 = .ok (.istore 4, 2) := by decide +kernel
theorem dX7_lay_28 : decode cX7_lay 28 = .ok (.iload 4, 2) := by decide +kernel
theorem dX7_lay_30 : decode cX7_lay 30 = .ok (.aload_n 1, 1) := by decide +kernel
theorem dX7_lay_31 : decode cX7_lay 31 = .ok (.getfield 28, 3) := by decide +kernel
theorem dX7_lay_34 : decode cX7_lay 34 = .ok (.iload_n 3, 1) := by decide +kernel
theorem dX7_lay_35 : decode cX7_lay 35 = .ok (.iaload, 1) := by decide +kernel
theorem dX7_lay_36 : decode cX7_lay 36 = .ok (.if_icmp .ge 26, 3) := by decide +kernel
theorem dX7_lay_39 : decode cX7_lay 39 = .ok (.aload_n 0, 1) := by decide +kernel
theorem dX7_lay_40 : decode cX7_lay 40 = .ok (.iload_n 3, 1) := by decide +kernel
theorem dX7_lay_41 : decode cX7_lay 41 = .ok (.aload_n 1, 1) := by decide +kernel
theorem dX7_lay_42 : decode cX7_lay 42 = .ok (.getfield 33, 3) := by decide +kernel
theorem dX7_lay_45 : decode cX7_lay 45 = .ok (.iload_n 2, 1) := by decide +kernel
theorem dX7_lay_46 : decode cX7_lay 46 = .ok (.iaload, 1) := by decide +kernel
theorem dX7_lay_47 : decode cX7_lay 47 = .ok (.bipush 8, 2) := by decide +kernel
theorem dX7_lay_49 : decode cX7_lay 49 = .ok (.iadd, 1) := by decide +kernel
theorem dX7_lay_50 : decode cX7_lay 50 = .ok (.invokevirtual 36, 3) := by decide +kernel
theorem dX7_lay_53 : decode cX7_lay 53 = .ok (.iinc 2 1, 3) := by decide +kernel
theorem dX7_lay_56 : decode cX7_lay 56 = .ok (.iinc 4 1, 3) := by decide +kernel
theorem dX7_lay_59 : decode cX7_lay 59 = .ok (.goto (-31), 3) := by decide +kernel
theorem dX7_lay_62 : decode cX7_lay 62 = .ok (.aload_n 0, 1) := by decide +kernel
theorem dX7_lay_63 : decode cX7_lay 63 = .ok (.getfield 21, 3) := by decide +kernel
theorem dX7_lay_66 : decode cX7_lay 66 = .ok (.iload_n 3, 1) := by decide +kernel
theorem dX7_lay_67 : decode cX7_lay 67 = .ok (.aload_n 0, 1) := by decide +kernel
theorem dX7_lay_68 : decode cX7_lay 68 = .ok (.getfield 24, 3) := by decide +kernel
theorem dX7_lay_71 : decode cX7_lay 71 = .ok (.iastore, 1) := by decide +kernel
theorem dX7_lay_72 : decode cX7_lay 72 = .ok (.aload_n 1, 1) := by decide +kernel
theorem dX7_lay_73 : decode cX7_lay 73 = .ok (.getfield 28, 3) := by decide +kernel
theorem dX7_lay_76 : decode cX7_lay 76 = .ok (.iload_n 3, 1) := by decide +kernel
theorem dX7_lay_77 : decode cX7_lay 77 = .ok (.iaload, 1) := by decide +kernel
theorem dX7_lay_78 : decode cX7_lay 78 = .ok (.ifCond .le 9, 3) := by decide +kernel
theorem dX7_lay_81 : decode cX7_lay 81 = .ok (.aload_n 0, 1) := by decide +kernel
theorem dX7_lay_82 : decode cX7_lay 82 = .ok (.iload_n 3, 1) := by decide +kernel
theorem dX7_lay_83 : decode cX7_lay 83 = .ok (.iload_n 3, 1) := by decide +kernel
theorem dX7_lay_84 : decode cX7_lay 84 = .ok (.invokevirtual 36, 3) := by decide +kernel
theorem dX7_lay_87 : decode cX7_lay 87 = .ok (.iinc 3 1, 3) := by decide +kernel
theorem dX7_lay_90 : decode cX7_lay 90 = .ok (.goto (-81), 3) := by decide +kernel
theorem dX7_lay_93 : decode cX7_lay 93 = .ok (.return_, 1) := by decide +kernel
theorem dX7_layLetter_0 : decode cX7_layLetter 0 = .ok (.aload_n 0, 1) := by decide +kernel
theorem dX7_layLetter_1 : decode cX7_layLetter 1 = .ok (.getfield 9, 3) := by decide +kernel
theorem dX7_layLetter_4 : decode cX7_layLetter 4 = .ok (.aload_n 0, 1) := by decide +kernel
theorem dX7_layLetter_5 : decode cX7_layLetter 5 = .ok (.getfield 24, 3) := by decide +kernel
theorem dX7_layLetter_8 : decode cX7_layLetter 8 = .ok (.iload_n 2, 1) := by decide +kernel
theorem dX7_layLetter_9 : decode cX7_layLetter 9 = .ok (.iastore, 1) := by decide +kernel
theorem dX7_layLetter_10 : decode cX7_layLetter 10 = .ok (.aload_n 0, 1) := by decide +kernel
theorem dX7_layLetter_11 : decode cX7_layLetter 11 = .ok (.getfield 15, 3) := by decide +kernel
theorem dX7_layLetter_14 : decode cX7_layLetter 14 = .ok (.aload_n 0, 1) := by decide +kernel
theorem dX7_layLetter_15 : decode cX7_layLetter 15 = .ok (.getfield 24, 3) := by decide +kernel
theorem dX7_layLetter_18 : decode cX7_layLetter 18 = .ok (.iload_n 1, 1) := by decide +kernel
theorem dX7_layLetter_19 : decode cX7_layLetter 19 = .ok (.iastore, 1) := by decide +kernel
theorem dX7_layLetter_20 : decode cX7_layLetter 20 = .ok (.aload_n 0, 1) := by decide +kernel
theorem dX7_layLetter_21 : decode cX7_layLetter 21 = .ok (.dup, 1) := by decide +kernel
theorem dX7_layLetter_22 : decode cX7_layLetter 22 = .ok (.getfield 24, 3) := by decide +kernel
theorem dX7_layLetter_25 : decode cX7_layLetter 25 = .ok (.iconst 1, 1) := by decide +kernel
theorem dX7_layLetter_26 : decode cX7_layLetter 26 = .ok (.iadd, 1) := by decide +kernel
theorem dX7_layLetter_27 : decode cX7_layLetter 27 = .ok (.putfield 24, 3) := by decide +kernel
theorem dX7_layLetter_30 : decode cX7_layLetter 30 = .ok (.return_, 1) := by decide +kernel
theorem dX7_has_0 : decode cX7_has 0 = .ok (.iload_n 1, 1) := by decide +kernel
theorem dX7_has_1 : decode cX7_has 1 = .ok (.ifCond .lt 15, 3) := by decide +kernel
theorem dX7_has_4 : decode cX7_has 4 = .ok (.iload_n 1, 1) := by decide +kernel
theorem dX7_has_5 : decode cX7_has 5 = .ok (.aload_n 0, 1) := by decide +kernel
theorem dX7_has_6 : decode cX7_has 6 = .ok (.getfield 24, 3) := by decide +kernel
theorem dX7_has_9 : decode cX7_has 9 = .ok (.if_icmp .ge 7, 3) := by decide +kernel
theorem dX7_has_12 : decode cX7_has 12 = .ok (.iconst 1, 1) := by decide +kernel
theorem dX7_has_13 : decode cX7_has 13 = .ok (.goto 4, 3) := by decide +kernel
theorem dX7_has_16 : decode cX7_has 16 = .ok (.iconst 0, 1) := by decide +kernel
theorem dX7_has_17 : decode cX7_has 17 = .ok (.ireturn, 1) := by decide +kernel
theorem dX7_isEnd_0 : decode cX7_isEnd 0 = .ok (.aload_n 0, 1) := by decide +kernel
theorem dX7_isEnd_1 : decode cX7_isEnd 1 = .ok (.getfield 9, 3) := by decide +kernel
theorem dX7_isEnd_4 : decode cX7_isEnd 4 = .ok (.iload_n 1, 1) := by decide +kernel
theorem dX7_isEnd_5 : decode cX7_isEnd 5 = .ok (.iaload, 1) := by decide +kernel
theorem dX7_isEnd_6 : decode cX7_isEnd 6 = .ok (.bipush 8, 2) := by decide +kernel
theorem dX7_isEnd_8 : decode cX7_isEnd 8 = .ok (.if_icmp .ge 7, 3) := by decide +kernel
theorem dX7_isEnd_11 : decode cX7_isEnd 11 = .ok (.iconst 1, 1) := by decide +kernel
theorem dX7_isEnd_12 : decode cX7_isEnd 12 = .ok (.goto 4, 3) := by decide +kernel
theorem dX7_isEnd_15 : decode cX7_isEnd 15 = .ok (.iconst 0, 1) := by decide +kernel
theorem dX7_isEnd_16 : decode cX7_isEnd 16 = .ok (.ireturn, 1) := by decide +kernel
theorem dX7_shown_0 : decode cX7_shown 0 = .ok (.aload_n 0, 1) := by decide +kernel
theorem dX7_shown_1 : decode cX7_shown 1 = .ok (.iload_n 1, 1) := by decide +kernel
theorem dX7_shown_2 : decode cX7_shown 2 = .ok (.invokevirtual 40, 3) := by decide +kernel
theorem dX7_shown_5 : decode cX7_shown 5 = .ok (.ifCond .eq 15, 3) := by decide +kernel
theorem dX7_shown_8 : decode cX7_shown 8 = .ok (.bipush (-2), 2) := by decide +kernel
theorem dX7_shown_10 : decode cX7_shown 10 = .ok (.aload_n 0, 1) := by decide +kernel
theorem dX7_shown_11 : decode cX7_shown 11 = .ok (.getfield 9, 3) := by decide +kernel
theorem dX7_shown_14 : decode cX7_shown 14 = .ok (.iload_n 1, 1) := by decide +kernel
theorem dX7_shown_15 : decode cX7_shown 15 = .ok (.iaload, 1) := by decide +kernel
theorem dX7_shown_16 : decode cX7_shown 16 = .ok (.isub, 1) := by decide +kernel
theorem dX7_shown_17 : decode cX7_shown 17 = .ok (.goto 12, 3) := by decide +kernel
theorem dX7_shown_20 : decode cX7_shown 20 = .ok (.aload_n 0, 1) := by decide +kernel
theorem dX7_shown_21 : decode cX7_shown 21 = .ok (.getfield 9, 3) := by decide +kernel
theorem dX7_shown_24 : decode cX7_shown 24 = .ok (.iload_n 1, 1) := by decide +kernel
theorem dX7_shown_25 : decode cX7_shown 25 = .ok (.iaload, 1) := by decide +kernel
theorem dX7_shown_26 : decode cX7_shown 26 = .ok (.bipush 8, 2) := by decide +kernel
theorem dX7_shown_28 : decode cX7_shown 28 = .ok (.isub, 1) := by decide +kernel
theorem dX7_shown_29 : decode cX7_shown 29 = .ok (.ireturn, 1) := by decide +kernel
theorem dX7_signsFrom_0 : decode cX7_signsFrom 0 = .ok (.aload_n 0, 1) := by decide +kernel
theorem dX7_signsFrom_1 : decode cX7_signsFrom 1 = .ok (.getfield 21, 3) := by decide +kernel
theorem dX7_signsFrom_4 : decode cX7_signsFrom 4 = .ok (.aload_n 0, 1) := by decide +kernel
theorem dX7_signsFrom_5 : decode cX7_signsFrom 5 = .ok (.getfield 15, 3) := by decide +kernel
theorem dX7_signsFrom_8 : decode cX7_signsFrom 8 = .ok (.iload_n 1, 1) := by decide +kernel
theorem dX7_signsFrom_9 : decode cX7_signsFrom 9 = .ok (.iaload, 1) := by decide +kernel
theorem dX7_signsFrom_10 : decode cX7_signsFrom 10 = .ok (.iaload, 1) := by decide +kernel
theorem dX7_signsFrom_11 : decode cX7_signsFrom 11 = .ok (.iload_n 1, 1) := by decide +kernel
theorem dX7_signsFrom_12 : decode cX7_signsFrom 12 = .ok (.isub, 1) := by decide +kernel
theorem dX7_signsFrom_13 : decode cX7_signsFrom 13 = .ok (.ireturn, 1) := by decide +kernel
theorem dX7_previous_0 : decode cX7_previous 0 = .ok (.iload_n 1, 1) := by decide +kernel
theorem dX7_previous_1 : decode cX7_previous 1 = .ok (.ifCond .ne 12, 3) := by decide +kernel
theorem dX7_previous_4 : decode cX7_previous 4 = .ok (.aload_n 0, 1) := by decide +kernel
theorem dX7_previous_5 : decode cX7_previous 5 = .ok (.getfield 24, 3) := by decide +kernel
theorem dX7_previous_8 : decode cX7_previous 8 = .ok (.iconst 1, 1) := by decide +kernel
theorem dX7_previous_9 : decode cX7_previous 9 = .ok (.isub, 1) := by decide +kernel
theorem dX7_previous_10 : decode cX7_previous 10 = .ok (.goto 6, 3) := by decide +kernel
theorem dX7_previous_13 : decode cX7_previous 13 = .ok (.iload_n 1, 1) := by decide +kernel
theorem dX7_previous_14 : decode cX7_previous 14 = .ok (.iconst 1, 1) := by decide +kernel
theorem dX7_previous_15 : decode cX7_previous 15 = .ok (.isub, 1) := by decide +kernel
theorem dX7_previous_16 : decode cX7_previous 16 = .ok (.ireturn, 1) := by decide +kernel
theorem dX7_alikeFrom_0 : decode cX7_alikeFrom 0 = .ok (.iload_n 3, 1) := by decide +kernel
theorem dX7_alikeFrom_1 : decode cX7_alikeFrom 1 = .ok (.istore 4, 2) := by decide +kernel
theorem dX7_alikeFrom_3 : decode cX7_alikeFrom 3 = .ok (.iload_n 1, 1) := by decide +kernel
theorem dX7_alikeFrom_4 : decode cX7_alikeFrom 4 = .ok (.iload 4, 2) := by decide +kernel
theorem dX7_alikeFrom_6 : decode cX7_alikeFrom 6 = .ok (.iadd, 1) := by decide +kernel
theorem dX7_alikeFrom_7 : decode cX7_alikeFrom 7 = .ok (.aload_n 0, 1) := by decide +kernel
theorem dX7_alikeFrom_8 : decode cX7_alikeFrom 8 = .ok (.getfield 24, 3) := by decide +kernel
theorem dX7_alikeFrom_11 : decode cX7_alikeFrom 11 = .ok (.if_icmp .ge 41, 3) := by decide +kernel
theorem dX7_alikeFrom_14 : decode cX7_alikeFrom 14 = .ok (.iload_n 2, 1) := by decide +kernel
theorem dX7_alikeFrom_15 : decode cX7_alikeFrom 15 = .ok (.iload 4, 2) := by decide +kernel
theorem dX7_alikeFrom_17 : decode cX7_alikeFrom 17 = .ok (.iadd, 1) := by decide +kernel
theorem dX7_alikeFrom_18 : decode cX7_alikeFrom 18 = .ok (.aload_n 0, 1) := by decide +kernel
theorem dX7_alikeFrom_19 : decode cX7_alikeFrom 19 = .ok (.getfield 24, 3) := by decide +kernel
theorem dX7_alikeFrom_22 : decode cX7_alikeFrom 22 = .ok (.if_icmp .ge 30, 3) := by decide +kernel
theorem dX7_alikeFrom_25 : decode cX7_alikeFrom 25 = .ok (.aload_n 0, 1) := by decide +kernel
theorem dX7_alikeFrom_26 : decode cX7_alikeFrom 26 = .ok (.getfield 9, 3) := by decide +kernel
theorem dX7_alikeFrom_29 : decode cX7_alikeFrom 29 = .ok (.iload_n 1, 1) := by decide +kernel
theorem dX7_alikeFrom_30 : decode cX7_alikeFrom 30 = .ok (.iload 4, 2) := by decide +kernel
theorem dX7_alikeFrom_32 : decode cX7_alikeFrom 32 = .ok (.iadd, 1) := by decide +kernel
theorem dX7_alikeFrom_33 : decode cX7_alikeFrom 33 = .ok (.iaload, 1) := by decide +kernel
theorem dX7_alikeFrom_34 : decode cX7_alikeFrom 34 = .ok (.aload_n 0, 1) := by decide +kernel
theorem dX7_alikeFrom_35 : decode cX7_alikeFrom 35 = .ok (.getfield 9, 3) := by decide +kernel
theorem dX7_alikeFrom_38 : decode cX7_alikeFrom 38 = .ok (.iload_n 2, 1) := by decide +kernel
theorem dX7_alikeFrom_39 : decode cX7_alikeFrom 39 = .ok (.iload 4, 2) := by decide +kernel
theorem dX7_alikeFrom_41 : decode cX7_alikeFrom 41 = .ok (.iadd, 1) := by decide +kernel
theorem dX7_alikeFrom_42 : decode cX7_alikeFrom 42 = .ok (.iaload, 1) := by decide +kernel
theorem dX7_alikeFrom_43 : decode cX7_alikeFrom 43 = .ok (.if_icmp .ne 9, 3) := by decide +kernel
theorem dX7_alikeFrom_46 : decode cX7_alikeFrom 46 = .ok (.iinc 4 1, 3) := by decide +kernel
theorem dX7_alikeFrom_49 : decode cX7_alikeFrom 49 = .ok (.goto (-46), 3) := by decide +kernel
theorem dX7_alikeFrom_52 : decode cX7_alikeFrom 52 = .ok (.iload 4, 2) := by decide +kernel
theorem dX7_alikeFrom_54 : decode cX7_alikeFrom 54 = .ok (.ireturn, 1) := by decide +kernel
theorem dJ6_bitCount_0f7a4_0 : decode cJ6_bitCount_0f7a4 0 = .ok (.iload_n 0, 1) := by decide +kernel
theorem dJ6_bitCount_0f7a4_1 : decode cJ6_bitCount_0f7a4 1 = .ok (.iload_n 0, 1) := by decide +kernel
theorem dJ6_bitCount_0f7a4_2 : decode cJ6_bitCount_0f7a4 2 = .ok (.iconst 1, 1) := by decide +kernel
theorem dJ6_bitCount_0f7a4_3 : decode cJ6_bitCount_0f7a4 3 = .ok (.iushr, 1) := by decide +kernel
theorem dJ6_bitCount_0f7a4_4 : decode cJ6_bitCount_0f7a4 4 = .ok (.ldc_w 265, 3) := by decide +kernel
theorem dJ6_bitCount_0f7a4_7 : decode cJ6_bitCount_0f7a4 7 = .ok (.iand, 1) := by decide +kernel
theorem dJ6_bitCount_0f7a4_8 : decode cJ6_bitCount_0f7a4 8 = .ok (.isub, 1) := by decide +kernel
theorem dJ6_bitCount_0f7a4_9 : decode cJ6_bitCount_0f7a4 9 = .ok (.istore_n 0, 1) := by decide +kernel
theorem dJ6_bitCount_0f7a4_10 : decode cJ6_bitCount_0f7a4 10 = .ok (.iload_n 0, 1) := by decide +kernel
theorem dJ6_bitCount_0f7a4_11 : decode cJ6_bitCount_0f7a4 11 = .ok (.ldc_w 266, 3) := by decide +kernel
theorem dJ6_bitCount_0f7a4_14 : decode cJ6_bitCount_0f7a4 14 = .ok (.iand, 1) := by decide +kernel
theorem dJ6_bitCount_0f7a4_15 : decode cJ6_bitCount_0f7a4 15 = .ok (.iload_n 0, 1) := by decide +kernel
theorem dJ6_bitCount_0f7a4_16 : decode cJ6_bitCount_0f7a4 16 = .ok (.iconst 2, 1) := by decide +kernel
theorem dJ6_bitCount_0f7a4_17 : decode cJ6_bitCount_0f7a4 17 = .ok (.iushr, 1) := by decide +kernel
theorem dJ6_bitCount_0f7a4_18 : decode cJ6_bitCount_0f7a4 18 = .ok (.ldc_w 266, 3) := by decide +kernel
theorem dJ6_bitCount_0f7a4_21 : decode cJ6_bitCount_0f7a4 21 = .ok (.iand, 1) := by decide +kernel
theorem dJ6_bitCount_0f7a4_22 : decode cJ6_bitCount_0f7a4 22 = .ok (.iadd, 1) := by decide +kernel
theorem dJ6_bitCount_0f7a4_23 : decode cJ6_bitCount_0f7a4 23 = .ok (.istore_n 0, 1) := by decide +kernel
theorem dJ6_bitCount_0f7a4_24 : decode cJ6_bitCount_0f7a4 24 = .ok (.iload_n 0, 1) := by decide +kernel
theorem dJ6_bitCount_0f7a4_25 : decode cJ6_bitCount_0f7a4 25 = .ok (.iload_n 0, 1) := by decide +kernel
theorem dJ6_bitCount_0f7a4_26 : decode cJ6_bitCount_0f7a4 26 = .ok (.iconst 4, 1) := by decide +kernel
theorem dJ6_bitCount_0f7a4_27 : decode cJ6_bitCount_0f7a4 27 = .ok (.iushr, 1) := by decide +kernel
theorem dJ6_bitCount_0f7a4_28 : decode cJ6_bitCount_0f7a4 28 = .ok (.iadd, 1) := by decide +kernel
theorem dJ6_bitCount_0f7a4_29 : decode cJ6_bitCount_0f7a4 29 = .ok (.ldc_w 267, 3) := by decide +kernel
theorem dJ6_bitCount_0f7a4_32 : decode cJ6_bitCount_0f7a4 32 = .ok (.iand, 1) := by decide +kernel
theorem dJ6_bitCount_0f7a4_33 : decode cJ6_bitCount_0f7a4 33 = .ok (.istore_n 0, 1) := by decide +kernel
theorem dJ6_bitCount_0f7a4_34 : decode cJ6_bitCount_0f7a4 34 = .ok (.iload_n 0, 1) := by decide +kernel
theorem dJ6_bitCount_0f7a4_35 : decode cJ6_bitCount_0f7a4 35 = .ok (.iload_n 0, 1) := by decide +kernel
theorem dJ6_bitCount_0f7a4_36 : decode cJ6_bitCount_0f7a4 36 = .ok (.bipush 8, 2) := by decide +kernel
theorem dJ6_bitCount_0f7a4_38 : decode cJ6_bitCount_0f7a4 38 = .ok (.iushr, 1) := by decide +kernel
theorem dJ6_bitCount_0f7a4_39 : decode cJ6_bitCount_0f7a4 39 = .ok (.iadd, 1) := by decide +kernel
theorem dJ6_bitCount_0f7a4_40 : decode cJ6_bitCount_0f7a4 40 = .ok (.istore_n 0, 1) := by decide +kernel
theorem dJ6_bitCount_0f7a4_41 : decode cJ6_bitCount_0f7a4 41 = .ok (.iload_n 0, 1) := by decide +kernel
theorem dJ6_bitCount_0f7a4_42 : decode cJ6_bitCount_0f7a4 42 = .ok (.iload_n 0, 1) := by decide +kernel
theorem dJ6_bitCount_0f7a4_43 : decode cJ6_bitCount_0f7a4 43 = .ok (.bipush 16, 2) := by decide +kernel
theorem dJ6_bitCount_0f7a4_45 : decode cJ6_bitCount_0f7a4 45 = .ok (.iushr, 1) := by decide +kernel
theorem dJ6_bitCount_0f7a4_46 : decode cJ6_bitCount_0f7a4 46 = .ok (.iadd, 1) := by decide +kernel
theorem dJ6_bitCount_0f7a4_47 : decode cJ6_bitCount_0f7a4 47 = .ok (.istore_n 0, 1) := by decide +kernel
theorem dJ6_bitCount_0f7a4_48 : decode cJ6_bitCount_0f7a4 48 = .ok (.iload_n 0, 1) := by decide +kernel
theorem dJ6_bitCount_0f7a4_49 : decode cJ6_bitCount_0f7a4 49 = .ok (.bipush 63, 2) := by decide +kernel
theorem dJ6_bitCount_0f7a4_51 : decode cJ6_bitCount_0f7a4 51 = .ok (.iand, 1) := by decide +kernel
theorem dJ6_bitCount_0f7a4_52 : decode cJ6_bitCount_0f7a4 52 = .ok (.ireturn, 1) := by decide +kernel
theorem dJ7_rangeCheck_23922_0 : decode cJ7_rangeCheck_23922 0 = .ok (.iload_n 1, 1) := by decide +kernel
theorem dJ7_rangeCheck_23922_1 : decode cJ7_rangeCheck_23922 1 = .ok (.iload_n 2, 1) := by decide +kernel
theorem dJ7_rangeCheck_23922_2 : decode cJ7_rangeCheck_23922 2 = .ok (.if_icmp .le 44, 3) := by decide +kernel
theorem dJ7_rangeCheck_23922_5 : decode cJ7_rangeCheck_23922 5 = .ok (.new 43, 3) := by decide +kernel
theorem dJ7_rangeCheck_23922_8 : decode cJ7_rangeCheck_23922 8 = .ok (.dup, 1) := by decide +kernel
theorem dJ7_rangeCheck_23922_9 : decode cJ7_rangeCheck_23922 9 = .ok (.new 45, 3) := by decide +kernel
theorem dJ7_rangeCheck_23922_12 : decode cJ7_rangeCheck_23922 12 = .ok (.dup, 1) := by decide +kernel
theorem dJ7_rangeCheck_23922_13 : decode cJ7_rangeCheck_23922 13 = .ok (.invokespecial 47, 3) := by decide +kernel
theorem dJ7_rangeCheck_23922_16 : decode cJ7_rangeCheck_23922 16 = .ok (.ldc 48, 2) := by decide +kernel
theorem dJ7_rangeCheck_23922_18 : decode cJ7_rangeCheck_23922 18 = .ok (.invokevirtual 50, 3) := by decide +kernel
theorem dJ7_rangeCheck_23922_21 : decode cJ7_rangeCheck_23922 21 = .ok (.iload_n 1, 1) := by decide +kernel
theorem dJ7_rangeCheck_23922_22 : decode cJ7_rangeCheck_23922 22 = .ok (.invokevirtual 54, 3) := by decide +kernel
theorem dJ7_rangeCheck_23922_25 : decode cJ7_rangeCheck_23922 25 = .ok (.ldc 57, 2) := by decide +kernel
theorem dJ7_rangeCheck_23922_27 : decode cJ7_rangeCheck_23922 27 = .ok (.invokevirtual 50, 3) := by decide +kernel
theorem dJ7_rangeCheck_23922_30 : decode cJ7_rangeCheck_23922 30 = .ok (.iload_n 2, 1) := by decide +kernel
theorem dJ7_rangeCheck_23922_31 : decode cJ7_rangeCheck_23922 31 = .ok (.invokevirtual 54, 3) := by decide +kernel
theorem dJ7_rangeCheck_23922_34 : decode cJ7_rangeCheck_23922 34 = .ok (.ldc 59, 2) := by decide +kernel
theorem dJ7_rangeCheck_23922_36 : decode cJ7_rangeCheck_23922 36 = .ok (.invokevirtual 50, 3) := by decide +kernel
theorem dJ7_rangeCheck_23922_39 : decode cJ7_rangeCheck_23922 39 = .ok (.invokevirtual 61, 3) := by decide +kernel
theorem dJ7_rangeCheck_23922_42 : decode cJ7_rangeCheck_23922 42 = .ok (.invokespecial 65, 3) := by decide +kernel
theorem dJ7_rangeCheck_23922_45 : decode cJ7_rangeCheck_23922 45 = .ok (.athrow, 1) := by decide +kernel
theorem dJ7_rangeCheck_23922_46 : decode cJ7_rangeCheck_23922 46 = .ok (.iload_n 1, 1) := by decide +kernel
theorem dJ7_rangeCheck_23922_47 : decode cJ7_rangeCheck_23922 47 = .ok (.ifCond .ge 12, 3) := by decide +kernel
theorem dJ7_rangeCheck_23922_50 : decode cJ7_rangeCheck_23922 50 = .ok (.new 68, 3) := by decide +kernel
theorem dJ7_rangeCheck_23922_53 : decode cJ7_rangeCheck_23922 53 = .ok (.dup, 1) := by decide +kernel
theorem dJ7_rangeCheck_23922_54 : decode cJ7_rangeCheck_23922 54 = .ok (.iload_n 1, 1) := by decide +kernel
theorem dJ7_rangeCheck_23922_55 : decode cJ7_rangeCheck_23922 55 = .ok (.invokespecial 70, 3) := by decide +kernel
theorem dJ7_rangeCheck_23922_58 : decode cJ7_rangeCheck_23922 58 = .ok (.athrow, 1) := by decide +kernel
theorem dJ7_rangeCheck_23922_59 : decode cJ7_rangeCheck_23922 59 = .ok (.iload_n 2, 1) := by decide +kernel
theorem dJ7_rangeCheck_23922_60 : decode cJ7_rangeCheck_23922 60 = .ok (.iload_n 0, 1) := by decide +kernel
theorem dJ7_rangeCheck_23922_61 : decode cJ7_rangeCheck_23922 61 = .ok (.if_icmp .le 12, 3) := by decide +kernel
theorem dJ7_rangeCheck_23922_64 : decode cJ7_rangeCheck_23922 64 = .ok (.new 68, 3) := by decide +kernel
theorem dJ7_rangeCheck_23922_67 : decode cJ7_rangeCheck_23922 67 = .ok (.dup, 1) := by decide +kernel
theorem dJ7_rangeCheck_23922_68 : decode cJ7_rangeCheck_23922 68 = .ok (.iload_n 2, 1) := by decide +kernel
theorem dJ7_rangeCheck_23922_69 : decode cJ7_rangeCheck_23922 69 = .ok (.invokespecial 70, 3) := by decide +kernel
theorem dJ7_rangeCheck_23922_72 : decode cJ7_rangeCheck_23922 72 = .ok (.athrow, 1) := by decide +kernel
theorem dJ7_rangeCheck_23922_73 : decode cJ7_rangeCheck_23922 73 = .ok (.return_, 1) := by decide +kernel
theorem dJ7_fill_fda19_0 : decode cJ7_fill_fda19 0 = .ok (.aload_n 0, 1) := by decide +kernel
theorem dJ7_fill_fda19_1 : decode cJ7_fill_fda19 1 = .ok (.arraylength, 1) := by decide +kernel
theorem dJ7_fill_fda19_2 : decode cJ7_fill_fda19 2 = .ok (.iload_n 1, 1) := by decide +kernel
theorem dJ7_fill_fda19_3 : decode cJ7_fill_fda19 3 = .ok (.iload_n 2, 1) := by decide +kernel
theorem dJ7_fill_fda19_4 : decode cJ7_fill_fda19 4 = .ok (.invokestatic 13, 3) := by decide +kernel
theorem dJ7_fill_fda19_7 : decode cJ7_fill_fda19 7 = .ok (.iload_n 1, 1) := by decide +kernel
theorem dJ7_fill_fda19_8 : decode cJ7_fill_fda19 8 = .ok (.istore 4, 2) := by decide +kernel
theorem dJ7_fill_fda19_10 : decode cJ7_fill_fda19 10 = .ok (.iload 4, 2) := by decide +kernel
theorem dJ7_fill_fda19_12 : decode cJ7_fill_fda19 12 = .ok (.iload_n 2, 1) := by decide +kernel
theorem dJ7_fill_fda19_13 : decode cJ7_fill_fda19 13 = .ok (.if_icmp .ge 14, 3) := by decide +kernel
theorem dJ7_fill_fda19_16 : decode cJ7_fill_fda19 16 = .ok (.aload_n 0, 1) := by decide +kernel
theorem dJ7_fill_fda19_17 : decode cJ7_fill_fda19 17 = .ok (.iload 4, 2) := by decide +kernel
theorem dJ7_fill_fda19_19 : decode cJ7_fill_fda19 19 = .ok (.iload_n 3, 1) := by decide +kernel
theorem dJ7_fill_fda19_20 : decode cJ7_fill_fda19 20 = .ok (.iastore, 1) := by decide +kernel
theorem dJ7_fill_fda19_21 : decode cJ7_fill_fda19 21 = .ok (.iinc 4 1, 3) := by decide +kernel
theorem dJ7_fill_fda19_24 : decode cJ7_fill_fda19 24 = .ok (.goto (-14), 3) := by decide +kernel
theorem dJ7_fill_fda19_27 : decode cJ7_fill_fda19 27 = .ok (.return_, 1) := by decide +kernel
theorem dJ9_max_7cf53_0 : decode cJ9_max_7cf53 0 = .ok (.iload_n 0, 1) := by decide +kernel
theorem dJ9_max_7cf53_1 : decode cJ9_max_7cf53 1 = .ok (.iload_n 1, 1) := by decide +kernel
theorem dJ9_max_7cf53_2 : decode cJ9_max_7cf53 2 = .ok (.if_icmp .lt 7, 3) := by decide +kernel
theorem dJ9_max_7cf53_5 : decode cJ9_max_7cf53 5 = .ok (.iload_n 0, 1) := by decide +kernel
theorem dJ9_max_7cf53_6 : decode cJ9_max_7cf53 6 = .ok (.goto 4, 3) := by decide +kernel
theorem dJ9_max_7cf53_9 : decode cJ9_max_7cf53 9 = .ok (.iload_n 1, 1) := by decide +kernel
theorem dJ9_max_7cf53_10 : decode cJ9_max_7cf53 10 = .ok (.ireturn, 1) := by decide +kernel
theorem dJ9_min_7cf53_0 : decode cJ9_min_7cf53 0 = .ok (.iload_n 0, 1) := by decide +kernel
theorem dJ9_min_7cf53_1 : decode cJ9_min_7cf53 1 = .ok (.iload_n 1, 1) := by decide +kernel
theorem dJ9_min_7cf53_2 : decode cJ9_min_7cf53 2 = .ok (.if_icmp .gt 7, 3) := by decide +kernel
theorem dJ9_min_7cf53_5 : decode cJ9_min_7cf53 5 = .ok (.iload_n 0, 1) := by decide +kernel
theorem dJ9_min_7cf53_6 : decode cJ9_min_7cf53 6 = .ok (.goto 4, 3) := by decide +kernel
theorem dJ9_min_7cf53_9 : decode cJ9_min_7cf53 9 = .ok (.iload_n 1, 1) := by decide +kernel
theorem dJ9_min_7cf53_10 : decode cJ9_min_7cf53 10 = .ok (.ireturn, 1) := by decide +kernel
