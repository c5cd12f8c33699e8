theorem dX0_init_0 : decode cX0_init 0 = .ok (.aload_n 0, 1) := by decide +kernel
theorem dX0_init_1 : decode cX0_init 1 = .ok (.invokespecial 3, 3) := by decide +kernel
theorem dX0_init_4 : decode cX0_init 4 = .ok (.aload_n 0, 1) := by decide +kernel
theorem dX0_init_5 : decode cX0_init 5 = .ok (.bipush 6, 2) := by decide +kernel
theorem dX0_init_7 : decode cX0_init 7 = .ok (.anewarray 9, 3) := by decide +kernel
theorem dX0_init_10 : decode cX0_init 10 = .ok (.putfield 11, 3) := by decide +kernel
theorem dX0_init_13 : decode cX0_init 13 = .ok (.aload_n 0, 1) := by decide +kernel
theorem dX0_init_14 : decode cX0_init 14 = .ok (.bipush 6, 2) := by decide +kernel
theorem dX0_init_16 : decode cX0_init 16 = .ok (.anewarray 17, 3) := by decide +kernel
theorem dX0_init_19 : decode cX0_init 19 = .ok (.putfield 19, 3) := by decide +kernel
theorem dX0_init_22 : decode cX0_init 22 = .ok (.aload_n 0, 1) := by decide +kernel
theorem dX0_init_23 : decode cX0_init 23 = .ok (.bipush 8, 2) := by decide +kernel
theorem dX0_init_25 : decode cX0_init 25 = .ok (.anewarray 23, 3) := by decide +kernel
theorem dX0_init_28 : decode cX0_init 28 = .ok (.putfield 25, 3) := by decide +kernel
theorem dX0_init_31 : decode cX0_init 31 = .ok (.aload_n 0, 1) := by decide +kernel
theorem dX0_init_32 : decode cX0_init 32 = .ok (.new 23, 3) := by decide +kernel
theorem dX0_init_35 : decode cX0_init 35 = .ok (.dup, 1) := by decide +kernel
theorem dX0_init_36 : decode cX0_init 36 = .ok (.invokespecial 29, 3) := by decide +kernel
theorem dX0_init_39 : decode cX0_init 39 = .ok (.putfield 30, 3) := by decide +kernel
theorem dX0_init_42 : decode cX0_init 42 = .ok (.aload_n 0, 1) := by decide +kernel
theorem dX0_init_43 : decode cX0_init 43 = .ok (.iconst 0, 1) := by decide +kernel
theorem dX0_init_44 : decode cX0_init 44 = .ok (.putfield 34, 3) := by decide +kernel
theorem dX0_init_47 : decode cX0_init 47 = .ok (.aload_n 0, 1) := by decide +kernel
theorem dX0_init_48 : decode cX0_init 48 = .ok (.iconst 0, 1) := by decide +kernel
theorem dX0_init_49 : decode cX0_init 49 = .ok (.putfield 38, 3) := by decide +kernel
theorem dX0_init_52 : decode cX0_init 52 = .ok (.aload_n 0, 1) := by decide +kernel
theorem dX0_init_53 : decode cX0_init 53 = .ok (.iconst 0, 1) := by decide +kernel
theorem dX0_init_54 : decode cX0_init 54 = .ok (.putfield 41, 3) := by decide +kernel
theorem dX0_init_57 : decode cX0_init 57 = .ok (.aload_n 0, 1) := by decide +kernel
theorem dX0_init_58 : decode cX0_init 58 = .ok (.aload_n 1, 1) := by decide +kernel
theorem dX0_init_59 : decode cX0_init 59 = .ok (.putfield 44, 3) := by decide +kernel
theorem dX0_init_62 : decode cX0_init 62 = .ok (.iconst 0, 1) := by decide +kernel
theorem dX0_init_63 : decode cX0_init 63 = .ok (.istore_n 2, 1) := by decide +kernel
theorem dX0_init_64 : decode cX0_init 64 = .ok (.iload_n 2, 1) := by decide +kernel
theorem dX0_init_65 : decode cX0_init 65 = .ok (.bipush 6, 2) := by decide +kernel
theorem dX0_init_67 : decode cX0_init 67 = .ok (.if_icmp .ge 22, 3) := by decide +kernel
theorem dX0_init_70 : decode cX0_init 70 = .ok (.aload_n 0, 1) := by decide +kernel
theorem dX0_init_71 : decode cX0_init 71 = .ok (.getfield 11, 3) := by decide +kernel
theorem dX0_init_74 : decode cX0_init 74 = .ok (.iload_n 2, 1) := by decide +kernel
theorem dX0_init_75 : decode cX0_init 75 = .ok (.new 9, 3) := by decide +kernel
theorem dX0_init_78 : decode cX0_init 78 = .ok (.dup, 1) := by decide +kernel
theorem dX0_init_79 : decode cX0_init 79 = .ok (.invokespecial 48, 3) := by decide +kernel
theorem dX0_init_82 : decode cX0_init 82 = .ok (.aastore, 1) := by decide +kernel
theorem dX0_init_83 : decode cX0_init 83 = .ok (.iinc 2 1, 3) := by decide +kernel
theorem dX0_init_86 : decode cX0_init 86 = .ok (.goto (-22), 3) := by decide +kernel
theorem dX0_init_89 : decode cX0_init 89 = .ok (.iconst 0, 1) := by decide +kernel
theorem dX0_init_90 : decode cX0_init 90 = .ok (.istore_n 2, 1) := by decide +kernel
theorem dX0_init_91 : decode cX0_init 91 = .ok (.iload_n 2, 1) := by decide +kernel
theorem dX0_init_92 : decode cX0_init 92 = .ok (.bipush 6, 2) := by decide +kernel
theorem dX0_init_94 : decode cX0_init 94 = .ok (.if_icmp .ge 22, 3) := by decide +kernel
theorem dX0_init_97 : decode cX0_init 97 = .ok (.aload_n 0, 1) := by decide +kernel
theorem dX0_init_98 : decode cX0_init 98 = .ok (.getfield 19, 3) := by decide +kernel
theorem dX0_init_101 : decode cX0_init 101 = .ok (.iload_n 2, 1) := by decide +kernel
theorem dX0_init_102 : decode cX0_init 102 = .ok (.new 17, 3) := by decide +kernel
theorem dX0_init_105 : decode cX0_init 105 = .ok (.dup, 1) := by decide +kernel
theorem dX0_init_106 : decode cX0_init 106 = .ok (.invokespecial 49, 3) := by decide +kernel
theorem dX0_init_109 : decode cX0_init 109 = .ok (.aastore, 1) := by decide +kernel
theorem dX0_init_110 : decode cX0_init 110 = .ok (.iinc 2 1, 3) := by decide +kernel
theorem dX0_init_113 : decode cX0_init 113 = .ok (.goto (-22), 3) := by decide +kernel
theorem dX0_init_116 : decode cX0_init 116 = .ok (.iconst 0, 1) := by decide +kernel
theorem dX0_init_117 : decode cX0_init 117 = .ok (.istore_n 2, 1) := by decide +kernel
theorem dX0_init_118 : decode cX0_init 118 = .ok (.iload_n 2, 1) := by decide +kernel
theorem dX0_init_119 : decode cX0_init 119 = .ok (.bipush 8, 2) := by decide +kernel
theorem dX0_init_121 : decode cX0_init 121 = .ok (.if_icmp .ge 22, 3) := by decide +kernel
theorem dX0_init_124 : decode cX0_init 124 = .ok (.aload_n 0, 1) := by decide +kernel
theorem dX0_init_125 : decode cX0_init 125 = .ok (.getfield 25, 3) := by decide +kernel
theorem dX0_init_128 : decode cX0_init 128 = .ok (.iload_n 2, 1) := by decide +kernel
theorem dX0_init_129 : decode cX0_init 129 = .ok (.new 23, 3) := by decide +kernel
theorem dX0_init_132 : decode cX0_init 132 = .ok (.dup, 1) := by decide +kernel
theorem dX0_init_133 : decode cX0_init 133 = .ok (.invokespecial 29, 3) := by decide +kernel
theorem dX0_init_136 : decode cX0_init 136 = .ok (.aastore, 1) := by decide +kernel
theorem dX0_init_137 : decode cX0_init 137 = .ok (.iinc 2 1, 3) := by decide +kernel
theorem dX0_init_140 : decode cX0_init 140 = .ok (.goto (-22), 3) := by decide +kernel
theorem dX0_init_143 : decode cX0_init 143 = .ok (.return_, 1) := by decide +kernel
theorem dX0_begin_0 : decode cX0_begin 0 = .ok (.aload_n 0, 1) := by decide +kernel
theorem dX0_begin_1 : decode cX0_begin 1 = .ok (.getfield 30, 3) := by decide +kernel
theorem dX0_begin_4 : decode cX0_begin 4 = .ok (.iload_n 1, 1) := by decide +kernel
theorem dX0_begin_5 : decode cX0_begin 5 = .ok (.invokevirtual 50, 3) := by decide +kernel
theorem dX0_begin_8 : decode cX0_begin 8 = .ok (.aload_n 0, 1) := by decide +kernel
theorem dX0_begin_9 : decode cX0_begin 9 = .ok (.iconst 0, 1) := by decide +kernel
theorem dX0_begin_10 : decode cX0_begin 10 = .ok (.putfield 34, 3) := by decide +kernel
theorem dX0_begin_13 : decode cX0_begin 13 = .ok (.aload_n 0, 1) := by decide +kernel
theorem dX0_begin_14 : decode cX0_begin 14 = .ok (.iconst 0, 1) := by decide +kernel
theorem dX0_begin_15 : decode cX0_begin 15 = .ok (.putfield 38, 3) := by decide +kernel
theorem dX0_begin_18 : decode cX0_begin 18 = .ok (.aload_n 0, 1) := by decide +kernel
theorem dX0_begin_19 : decode cX0_begin 19 = .ok (.iconst 0, 1) := by decide +kernel
theorem dX0_begin_20 : decode cX0_begin 20 = .ok (.putfield 41, 3) := by decide +kernel
theorem dX0_begin_23 : decode cX0_begin 23 = .ok (.return_, 1) := by decide +kernel
theorem dX0_become_0 : decode cX0_become 0 = .ok (.aload_n 0, 1) := by decide +kernel
theorem dX0_become_1 : decode cX0_become 1 = .ok (.getfield 30, 3) := by decide +kernel
theorem dX0_become_4 : decode cX0_become 4 = .ok (.aload_n 1, 1) := by decide +kernel
theorem dX0_become_5 : decode cX0_become 5 = .ok (.getfield 30, 3) := by decide +kernel
theorem dX0_become_8 : decode cX0_become 8 = .ok (.invokevirtual 54, 3) := by decide +kernel
theorem dX0_become_11 : decode cX0_become 11 = .ok (.aload_n 0, 1) := by decide +kernel
theorem dX0_become_12 : decode cX0_become 12 = .ok (.aload_n 1, 1) := by decide +kernel
theorem dX0_become_13 : decode cX0_become 13 = .ok (.getfield 34, 3) := by decide +kernel
theorem dX0_become_16 : decode cX0_become 16 = .ok (.putfield 34, 3) := by decide +kernel
theorem dX0_become_19 : decode cX0_become 19 = .ok (.aload_n 0, 1) := by decide +kernel
theorem dX0_become_20 : decode cX0_become 20 = .ok (.aload_n 1, 1) := by decide +kernel
theorem dX0_become_21 : decode cX0_become 21 = .ok (.getfield 38, 3) := by decide +kernel
theorem dX0_become_24 : decode cX0_become 24 = .ok (.putfield 38, 3) := by decide +kernel
theorem dX0_become_27 : decode cX0_become 27 = .ok (.aload_n 0, 1) := by decide +kernel
theorem dX0_become_28 : decode cX0_become 28 = .ok (.aload_n 1, 1) := by decide +kernel
theorem dX0_become_29 : decode cX0_become 29 = .ok (.getfield 41, 3) := by decide +kernel
theorem dX0_become_32 : decode cX0_become 32 = .ok (.putfield 41, 3) := by decide +kernel
theorem dX0_become_35 : decode cX0_become 35 = .ok (.iconst 0, 1) := by decide +kernel
theorem dX0_become_36 : decode cX0_become 36 = .ok (.istore_n 2, 1) := by decide +kernel
theorem dX0_become_37 : decode cX0_become 37 = .ok (.iload_n 2, 1) := by decide +kernel
theorem dX0_become_38 : decode cX0_become 38 = .ok (.aload_n 0, 1) := by decide +kernel
theorem dX0_become_39 : decode cX0_become 39 = .ok (.getfield 34, 3) := by decide +kernel
theorem dX0_become_42 : decode cX0_become 42 = .ok (.if_icmp .ge 24, 3) := by decide +kernel
theorem dX0_become_45 : decode cX0_become 45 = .ok (.aload_n 0, 1) := by decide +kernel
theorem dX0_become_46 : decode cX0_become 46 = .ok (.getfield 11, 3) := by decide +kernel
theorem dX0_become_49 : decode cX0_become 49 = .ok (.iload_n 2, 1) := by decide +kernel
theorem dX0_become_50 : decode cX0_become 50 = .ok (.aaload, 1) := by decide +kernel
theorem dX0_become_51 : decode cX0_become 51 = .ok (.aload_n 1, 1) := by decide +kernel
theorem dX0_become_52 : decode cX0_become 52 = .ok (.getfield 11, 3) := by decide +kernel
theorem dX0_become_55 : decode cX0_become 55 = .ok (.iload_n 2, 1) := by decide +kernel
theorem dX0_become_56 : decode cX0_become 56 = .ok (.aaload, 1) := by decide +kernel
theorem dX0_become_57 : decode cX0_become 57 = .ok (.invokevirtual 58, 3) := by decide +kernel
theorem dX0_become_60 : decode cX0_become 60 = .ok (.iinc 2 1, 3) := by decide +kernel
theorem dX0_become_63 : decode cX0_become 63 = .ok (.goto (-26), 3) := by decide +kernel
theorem dX0_become_66 : decode cX0_become 66 = .ok (.iconst 0, 1) := by decide +kernel
theorem dX0_become_67 : decode cX0_become 67 = .ok (.istore_n 2, 1) := by decide +kernel
theorem dX0_become_68 : decode cX0_become 68 = .ok (.iload_n 2, 1) := by decide +kernel
theorem dX0_become_69 : decode cX0_become 69 = .ok (.aload_n 0, 1) := by decide +kernel
theorem dX0_become_70 : decode cX0_become 70 = .ok (.getfield 38, 3) := by decide +kernel
theorem dX0_become_73 : decode cX0_become 73 = .ok (.if_icmp .ge 24, 3) := by decide +kernel
theorem dX0_become_76 : decode cX0_become 76 = .ok (.aload_n 0, 1) := by decide +kernel
theorem dX0_become_77 : decode cX0_become 77 = .ok (.getfield 19, 3) := by decide +kernel
theorem dX0_become_80 : decode cX0_become 80 = .ok (.iload_n 2, 1) := by decide +kernel
theorem dX0_become_81 : decode cX0_become 81 = .ok (.aaload, 1) := by decide +kernel
theorem dX0_become_82 : decode cX0_become 82 = .ok (.aload_n 1, 1) := by decide +kernel
theorem dX0_become_83 : decode cX0_become 83 = .ok (.getfield 19, 3) := by decide +kernel
theorem dX0_become_86 : decode cX0_become 86 = .ok (.iload_n 2, 1) := by decide +kernel
theorem dX0_become_87 : decode cX0_become 87 = .ok (.aaload, 1) := by decide +kernel
theorem dX0_become_88 : decode cX0_become 88 = .ok (.invokevirtual 61, 3) := by decide +kernel
theorem dX0_become_91 : decode cX0_become 91 = .ok (.iinc 2 1, 3) := by decide +kernel
theorem dX0_become_94 : decode cX0_become 94 = .ok (.goto (-26), 3) := by decide +kernel
theorem dX0_become_97 : decode cX0_become 97 = .ok (.iconst 0, 1) := by decide +kernel
theorem dX0_become_98 : decode cX0_become 98 = .ok (.istore_n 2, 1) := by decide +kernel
theorem dX0_become_99 : decode cX0_become 99 = .ok (.iload_n 2, 1) := by decide +kernel
theorem dX0_become_100 : decode cX0_become 100 = .ok (.aload_n 0, 1) := by decide +kernel
theorem dX0_become_101 : decode cX0_become 101 = .ok (.getfield 41, 3) := by decide +kernel
theorem dX0_become_104 : decode cX0_become 104 = .ok (.if_icmp .ge 24, 3) := by decide +kernel
theorem dX0_become_107 : decode cX0_become 107 = .ok (.aload_n 0, 1) := by decide +kernel
theorem dX0_become_108 : decode cX0_become 108 = .ok (.getfield 25, 3) := by decide +kernel
theorem dX0_become_111 : decode cX0_become 111 = .ok (.iload_n 2, 1) := by decide +kernel
theorem dX0_become_112 : decode cX0_become 112 = .ok (.aaload, 1) := by decide +kernel
theorem dX0_become_113 : decode cX0_become 113 = .ok (.aload_n 1, 1) := by decide +kernel
theorem dX0_become_114 : decode cX0_become 114 = .ok (.getfield 25, 3) := by decide +kernel
theorem dX0_become_117 : decode cX0_become 117 = .ok (.iload_n 2, 1) := by decide +kernel
theorem dX0_become_118 : decode cX0_become 118 = .ok (.aaload, 1) := by decide +kernel
theorem dX0_become_119 : decode cX0_become 119 = .ok (.invokevirtual 54, 3) := by decide +kernel
theorem dX0_become_122 : decode cX0_become 122 = .ok (.iinc 2 1, 3) := by decide +kernel
theorem dX0_become_125 : decode cX0_become 125 = .ok (.goto (-26), 3) := by decide +kernel
theorem dX0_become_128 : decode cX0_become 128 = .ok (.return_, 1) := by decide +kernel
theorem dX0_has_0 : decode cX0_has 0 = .ok (.iload_n 1, 1) := by decide +kernel
theorem dX0_has_1 : decode cX0_has 1 = .ok (.ifCond .lt 15, 3) := by decide +kernel
theorem dX0_has_4 : decode cX0_has 4 = .ok (.iload_n 1, 1) := by decide +kernel
theorem dX0_has_5 : decode cX0_has 5 = .ok (.aload_n 0, 1) := by decide +kernel
theorem dX0_has_6 : decode cX0_has 6 = .ok (.getfield 34, 3) := by decide +kernel
theorem dX0_has_9 : decode cX0_has 9 = .ok (.if_icmp .ge 7, 3) := by decide +kernel
theorem dX0_has_12 : decode cX0_has 12 = .ok (.iconst 1, 1) := by decide +kernel
theorem dX0_has_13 : decode cX0_has 13 = .ok (.goto 4, 3) := by decide +kernel
theorem dX0_has_16 : decode cX0_has 16 = .ok (.iconst 0, 1) := by decide +kernel
theorem dX0_has_17 : decode cX0_has 17 = .ok (.ireturn, 1) := by decide +kernel
theorem dX0_hasTwo_0 : decode cX0_hasTwo 0 = .ok (.aload_n 0, 1) := by decide +kernel
theorem dX0_hasTwo_1 : decode cX0_hasTwo 1 = .ok (.iload_n 1, 1) := by decide +kernel
theorem dX0_hasTwo_2 : decode cX0_hasTwo 2 = .ok (.invokevirtual 64, 3) := by decide +kernel
theorem dX0_hasTwo_5 : decode cX0_hasTwo 5 = .ok (.ifCond .eq 20, 3) := by decide +kernel
theorem dX0_hasTwo_8 : decode cX0_hasTwo 8 = .ok (.aload_n 0, 1) := by decide +kernel
theorem dX0_hasTwo_9 : decode cX0_hasTwo 9 = .ok (.iload_n 2, 1) := by decide +kernel
theorem dX0_hasTwo_10 : decode cX0_hasTwo 10 = .ok (.invokevirtual 64, 3) := by decide +kernel
theorem dX0_hasTwo_13 : decode cX0_hasTwo 13 = .ok (.ifCond .eq 12, 3) := by decide +kernel
theorem dX0_hasTwo_16 : decode cX0_hasTwo 16 = .ok (.iload_n 1, 1) := by decide +kernel
theorem dX0_hasTwo_17 : decode cX0_hasTwo 17 = .ok (.iload_n 2, 1) := by decide +kernel
theorem dX0_hasTwo_18 : decode cX0_hasTwo 18 = .ok (.if_icmp .eq 7, 3) := by decide +kernel
theorem dX0_hasTwo_21 : decode cX0_hasTwo 21 = .ok (.iconst 1, 1) := by decide +kernel
theorem dX0_hasTwo_22 : decode cX0_hasTwo 22 = .ok (.goto 4, 3) := by decide +kernel
theorem dX0_hasTwo_25 : decode cX0_hasTwo 25 = .ok (.iconst 0, 1) := by decide +kernel
theorem dX0_hasTwo_26 : decode cX0_hasTwo 26 = .ok (.ireturn, 1) := by decide +kernel
theorem dX0_paired_0 : decode cX0_paired 0 = .ok (.aload_n 0, 1) := by decide +kernel
theorem dX0_paired_1 : decode cX0_paired 1 = .ok (.aload_n 1, 1) := by decide +kernel
theorem dX0_paired_2 : decode cX0_paired 2 = .ok (.getfield 68, 3) := by decide +kernel
theorem dX0_paired_5 : decode cX0_paired 5 = .ok (.aload_n 1, 1) := by decide +kernel
theorem dX0_paired_6 : decode cX0_paired 6 = .ok (.getfield 71, 3) := by decide +kernel
theorem dX0_paired_9 : decode cX0_paired 9 = .ok (.invokevirtual 74, 3) := by decide +kernel
theorem dX0_paired_12 : decode cX0_paired 12 = .ok (.ireturn, 1) := by decide +kernel
theorem dX0_admit_0 : decode cX0_admit 0 = .ok (.aload_n 0, 1) := by decide +kernel
theorem dX0_admit_1 : decode cX0_admit 1 = .ok (.getfield 34, 3) := by decide +kernel
theorem dX0_admit_4 : decode cX0_admit 4 = .ok (.bipush 6, 2) := by decide +kernel
theorem dX0_admit_6 : decode cX0_admit 6 = .ok (.if_icmp .lt 6, 3) := by decide +kernel
theorem dX0_admit_9 : decode cX0_admit 9 = .ok (.bipush (-4), 2) := by decide +kernel
theorem dX0_admit_11 : decode cX0_admit 11 = .ok (.ireturn, 1) := by decide +kernel
theorem dX0_admit_12 : decode cX0_admit 12 = .ok (.aload_n 0, 1) := by decide +kernel
theorem dX0_admit_13 : decode cX0_admit 13 = .ok (.getfield 11, 3) := by decide +kernel
theorem dX0_admit_16 : decode cX0_admit 16 = .ok (.aload_n 0, 1) := by decide +kernel
theorem dX0_admit_17 : decode cX0_admit 17 = .ok (.getfield 34, 3) := by decide +kernel
theorem dX0_admit_20 : decode cX0_admit 20 = .ok (.aaload, 1) := by decide +kernel
theorem dX0_admit_21 : decode cX0_admit 21 = .ok (.iload_n 1, 1) := by decide +kernel
theorem dX0_admit_22 : decode cX0_admit 22 = .ok (.iload_n 2, 1) := by decide +kernel
theorem dX0_admit_23 : decode cX0_admit 23 = .ok (.iload_n 3, 1) := by decide +kernel
theorem dX0_admit_24 : decode cX0_admit 24 = .ok (.iload 4, 2) := by decide +kernel
theorem dX0_admit_26 : decode cX0_admit 26 = .ok (.invokevirtual 78, 3) := by decide +kernel
theorem dX0_admit_29 : decode cX0_admit 29 = .ok (.aload_n 0, 1) := by decide +kernel
theorem dX0_admit_30 : decode cX0_admit 30 = .ok (.iconst 0, 1) := by decide +kernel
theorem dX0_admit_31 : decode cX0_admit 31 = .ok (.putfield 41, 3) := by decide +kernel
theorem dX0_admit_34 : decode cX0_admit 34 = .ok (.aload_n 0, 1) := by decide +kernel
theorem dX0_admit_35 : decode cX0_admit 35 = .ok (.dup, 1) := by decide +kernel
theorem dX0_admit_36 : decode cX0_admit 36 = .ok (.getfield 34, 3) := by decide +kernel
theorem dX0_admit_39 : decode cX0_admit 39 = .ok (.iconst 1, 1) := by decide +kernel
theorem dX0_admit_40 : decode cX0_admit 40 = .ok (.iadd, 1) := by decide +kernel
theorem dX0_admit_41 : decode cX0_admit 41 = .ok (.putfield 34, 3) := by decide +kernel
theorem dX0_admit_44 : decode cX0_admit 44 = .ok (.aload_n 0, 1) := by decide +kernel
theorem dX0_admit_45 : decode cX0_admit 45 = .ok (.getfield 34, 3) := by decide +kernel
theorem dX0_admit_48 : decode cX0_admit 48 = .ok (.iconst 1, 1) := by decide +kernel
theorem dX0_admit_49 : decode cX0_admit 49 = .ok (.isub, 1) := by decide +kernel
theorem dX0_admit_50 : decode cX0_admit 50 = .ok (.ireturn, 1) := by decide +kernel
theorem dX0_remember_0 : decode cX0_remember 0 = .ok (.aload_n 0, 1) := by decide +kernel
theorem dX0_remember_1 : decode cX0_remember 1 = .ok (.getfield 41, 3) := by decide +kernel
theorem dX0_remember_4 : decode cX0_remember 4 = .ok (.bipush 8, 2) := by decide +kernel
theorem dX0_remember_6 : decode cX0_remember 6 = .ok (.if_icmp .lt 7, 3) := by decide +kernel
theorem dX0_remember_9 : decode cX0_remember 9 = .ok (.aload_n 0, 1) := by decide +kernel
theorem dX0_remember_10 : decode cX0_remember 10 = .ok (.invokevirtual 82, 3) := by decide +kernel
theorem dX0_remember_13 : decode cX0_remember 13 = .ok (.aload_n 0, 1) := by decide +kernel
theorem dX0_remember_14 : decode cX0_remember 14 = .ok (.getfield 25, 3) := by decide +kernel
theorem dX0_remember_17 : decode cX0_remember 17 = .ok (.aload_n 0, 1) := by decide +kernel
theorem dX0_remember_18 : decode cX0_remember 18 = .ok (.getfield 41, 3) := by decide +kernel
theorem dX0_remember_21 : decode cX0_remember 21 = .ok (.aaload, 1) := by decide +kernel
theorem dX0_remember_22 : decode cX0_remember 22 = .ok (.aload_n 0, 1) := by decide +kernel
theorem dX0_remember_23 : decode cX0_remember 23 = .ok (.getfield 30, 3) := by decide +kernel
theorem dX0_remember_26 : decode cX0_remember 26 = .ok (.invokevirtual 54, 3) := by decide +kernel
theorem dX0_remember_29 : decode cX0_remember 29 = .ok (.aload_n 0, 1) := by decide +kernel
theorem dX0_remember_30 : decode cX0_remember 30 = .ok (.dup, 1) := by decide +kernel
theorem dX0_remember_31 : decode cX0_remember 31 = .ok (.getfield 41, 3) := by decide +kernel
theorem dX0_remember_34 : decode cX0_remember 34 = .ok (.iconst 1, 1) := by decide +kernel
theorem dX0_remember_35 : decode cX0_remember 35 = .ok (.iadd, 1) := by decide +kernel
theorem dX0_remember_36 : decode cX0_remember 36 = .ok (.putfield 41, 3) := by decide +kernel
theorem dX0_remember_39 : decode cX0_remember 39 = .ok (.return_, 1) := by decide +kernel
theorem dX0_forgetOldest_0 : decode cX0_forgetOldest 0 = .ok (.iconst 1, 1) := by decide +kernel
theorem dX0_forgetOldest_1 : decode cX0_forgetOldest 1 = .ok (.istore_n 1, 1) := by decide +kernel
theorem dX0_forgetOldest_2 : decode cX0_forgetOldest 2 = .ok (.iload_n 1, 1) := by decide +kernel
theorem dX0_forgetOldest_3 : decode cX0_forgetOldest 3 = .ok (.bipush 8, 2) := by decide +kernel
theorem dX0_forgetOldest_5 : decode cX0_forgetOldest 5 = .ok (.if_icmp .ge 26, 3) := by decide +kernel
theorem dX0_forgetOldest_8 : decode cX0_forgetOldest 8 = .ok (.aload_n 0, 1) := by decide +kernel
theorem dX0_forgetOldest_9 : decode cX0_forgetOldest 9 = .ok (.getfield 25, 3) := by decide +kernel
theorem dX0_forgetOldest_12 : decode cX0_forgetOldest 12 = .ok (.iload_n 1, 1) := by decide +kernel
theorem dX0_forgetOldest_13 : decode cX0_forgetOldest 13 = .ok (.iconst 1, 1) := by decide +kernel
theorem dX0_forgetOldest_14 : decode cX0_forgetOldest 14 = .ok (.isub, 1) := by decide +kernel
theorem dX0_forgetOldest_15 : decode cX0_forgetOldest 15 = .ok (.aaload, 1) := by decide +kernel
theorem dX0_forgetOldest_16 : decode cX0_forgetOldest 16 = .ok (.aload_n 0, 1) := by decide +kernel
theorem dX0_forgetOldest_17 : decode cX0_forgetOldest 17 = .ok (.getfield 25, 3) := by decide +kernel
theorem dX0_forgetOldest_20 : decode cX0_forgetOldest 20 = .ok (.iload_n 1, 1) := by decide +kernel
theorem dX0_forgetOldest_21 : decode cX0_forgetOldest 21 = .ok (.aaload, 1) := by decide +kernel
theorem dX0_forgetOldest_22 : decode cX0_forgetOldest 22 = .ok (.invokevirtual 54, 3) := by decide +kernel
theorem dX0_forgetOldest_25 : decode cX0_forgetOldest 25 = .ok (.iinc 1 1, 3) := by decide +kernel
theorem dX0_forgetOldest_28 : decode cX0_forgetOldest 28 = .ok (.goto (-26), 3) := by decide +kernel
theorem dX0_forgetOldest_31 : decode cX0_forgetOldest 31 = .ok (.aload_n 0, 1) := by decide +kernel
theorem dX0_forgetOldest_32 : decode cX0_forgetOldest 32 = .ok (.bipush 7, 2) := by decide +kernel
theorem dX0_forgetOldest_34 : decode cX0_forgetOldest 34 = .ok (.putfield 41, 3) := by decide +kernel
theorem dX0_forgetOldest_37 : decode cX0_forgetOldest 37 = .ok (.return_, 1) := by decide +kernel
theorem dX0_goBack_0 : decode cX0_goBack 0 = .ok (.aload_n 0, 1) := by decide +kernel
theorem dX0_goBack_1 : decode cX0_goBack 1 = .ok (.getfield 41, 3) := by decide +kernel
theorem dX0_goBack_4 : decode cX0_goBack 4 = .ok (.ifCond .gt 4, 3) := by decide +kernel
theorem dX0_goBack_7 : decode cX0_goBack 7 = .ok (.return_, 1) := by decide +kernel
theorem dX0_goBack_8 : decode cX0_goBack 8 = .ok (.aload_n 0, 1) := by decide +kernel
theorem dX0_goBack_9 : decode cX0_goBack 9 = .ok (.dup, 1) := by decide +kernel
theorem dX0_goBack_10 : decode cX0_goBack 10 = .ok (.getfield 41, 3) := by decide +kernel
theorem dX0_goBack_13 : decode cX0_goBack 13 = .ok (.iconst 1, 1) := by decide +kernel
theorem dX0_goBack_14 : decode cX0_goBack 14 = .ok (.isub, 1) := by decide +kernel
theorem dX0_goBack_15 : decode cX0_goBack 15 = .ok (.putfield 41, 3) := by decide +kernel
theorem dX0_goBack_18 : decode cX0_goBack 18 = .ok (.aload_n 0, 1) := by decide +kernel
theorem dX0_goBack_19 : decode cX0_goBack 19 = .ok (.getfield 30, 3) := by decide +kernel
theorem dX0_goBack_22 : decode cX0_goBack 22 = .ok (.aload_n 0, 1) := by decide +kernel
theorem dX0_goBack_23 : decode cX0_goBack 23 = .ok (.getfield 25, 3) := by decide +kernel
theorem dX0_goBack_26 : decode cX0_goBack 26 = .ok (.aload_n 0, 1) := by decide +kernel
theorem dX0_goBack_27 : decode cX0_goBack 27 = .ok (.getfield 41, 3) := by decide +kernel
theorem dX0_goBack_30 : decode cX0_goBack 30 = .ok (.aaload, 1) := by decide +kernel
theorem dX0_goBack_31 : decode cX0_goBack 31 = .ok (.invokevirtual 54, 3) := by decide +kernel
theorem dX0_goBack_34 : decode cX0_goBack 34 = .ok (.return_, 1) := by decide +kernel
theorem dX0_addedBy_0 : decode cX0_addedBy 0 = .ok (.aload_n 0, 1) := by decide +kernel
theorem dX0_addedBy_1 : decode cX0_addedBy 1 = .ok (.getfield 11, 3) := by decide +kernel
theorem dX0_addedBy_4 : decode cX0_addedBy 4 = .ok (.iload_n 1, 1) := by decide +kernel
theorem dX0_addedBy_5 : decode cX0_addedBy 5 = .ok (.aaload, 1) := by decide +kernel
theorem dX0_addedBy_6 : decode cX0_addedBy 6 = .ok (.astore_n 2, 1) := by decide +kernel
theorem dX0_addedBy_7 : decode cX0_addedBy 7 = .ok (.aload_n 0, 1) := by decide +kernel
theorem dX0_addedBy_8 : decode cX0_addedBy 8 = .ok (.getfield 44, 3) := by decide +kernel
theorem dX0_addedBy_11 : decode cX0_addedBy 11 = .ok (.aload_n 2, 1) := by decide +kernel
theorem dX0_addedBy_12 : decode cX0_addedBy 12 = .ok (.getfield 85, 3) := by decide +kernel
theorem dX0_addedBy_15 : decode cX0_addedBy 15 = .ok (.aaload, 1) := by decide +kernel
theorem dX0_addedBy_16 : decode cX0_addedBy 16 = .ok (.aload_n 2, 1) := by decide +kernel
theorem dX0_addedBy_17 : decode cX0_addedBy 17 = .ok (.getfield 88, 3) := by decide +kernel
theorem dX0_addedBy_20 : decode cX0_addedBy 20 = .ok (.invokevirtual 91, 3) := by decide +kernel
theorem dX0_addedBy_23 : decode cX0_addedBy 23 = .ok (.ireturn, 1) := by decide +kernel
theorem dX0_changeBy_0 : decode cX0_changeBy 0 = .ok (.aload_n 0, 1) := by decide +kernel
theorem dX0_changeBy_1 : decode cX0_changeBy 1 = .ok (.iload_n 1, 1) := by decide +kernel
theorem dX0_changeBy_2 : decode cX0_changeBy 2 = .ok (.invokevirtual 97, 3) := by decide +kernel
theorem dX0_changeBy_5 : decode cX0_changeBy 5 = .ok (.aload_n 0, 1) := by decide +kernel
theorem dX0_changeBy_6 : decode cX0_changeBy 6 = .ok (.iload_n 2, 1) := by decide +kernel
theorem dX0_changeBy_7 : decode cX0_changeBy 7 = .ok (.invokevirtual 97, 3) := by decide +kernel
theorem dX0_changeBy_10 : decode cX0_changeBy 10 = .ok (.iadd, 1) := by decide +kernel
theorem dX0_changeBy_11 : decode cX0_changeBy 11 = .ok (.iconst 2, 1) := by decide +kernel
theorem dX0_changeBy_12 : decode cX0_changeBy 12 = .ok (.isub, 1) := by decide +kernel
theorem dX0_changeBy_13 : decode cX0_changeBy 13 = .ok (.ireturn, 1) := by decide +kernel
theorem dX0_changeInADay_0 : decode cX0_changeInADay 0 = .ok (.aload_n 0, 1) := by decide +kernel
theorem dX0_changeInADay_1 : decode cX0_changeInADay 1 = .ok (.aload_n 1, 1) := by decide +kernel
theorem dX0_changeInADay_2 : decode cX0_changeInADay 2 = .ok (.invokevirtual 100, 3) := by decide +kernel
theorem dX0_changeInADay_5 : decode cX0_changeInADay 5 = .ok (.ifCond .eq 18, 3) := by decide +kernel
theorem dX0_changeInADay_8 : decode cX0_changeInADay 8 = .ok (.aload_n 0, 1) := by decide +kernel
theorem dX0_changeInADay_9 : decode cX0_changeInADay 9 = .ok (.aload_n 1, 1) := by decide +kernel
theorem dX0_changeInADay_10 : decode cX0_changeInADay 10 = .ok (.getfield 68, 3) := by decide +kernel
theorem dX0_changeInADay_13 : decode cX0_changeInADay 13 = .ok (.aload_n 1, 1) := by decide +kernel
theorem dX0_changeInADay_14 : decode cX0_changeInADay 14 = .ok (.getfield 71, 3) := by decide +kernel
theorem dX0_changeInADay_17 : decode cX0_changeInADay 17 = .ok (.invokevirtual 104, 3) := by decide +kernel
theorem dX0_changeInADay_20 : decode cX0_changeInADay 20 = .ok (.goto 5, 3) := by decide +kernel
theorem dX0_changeInADay_23 : decode cX0_changeInADay 23 = .ok (.bipush (-2), 2) := by decide +kernel
theorem dX0_changeInADay_25 : decode cX0_changeInADay 25 = .ok (.ireturn, 1) := by decide +kernel
theorem dX0_passDays_0 : decode cX0_passDays 0 = .ok (.aload_n 1, 1) := by decide +kernel
theorem dX0_passDays_1 : decode cX0_passDays 1 = .ok (.iload_n 2, 1) := by decide +kernel
theorem dX0_passDays_2 : decode cX0_passDays 2 = .ok (.aload_n 0, 1) := by decide +kernel
theorem dX0_passDays_3 : decode cX0_passDays 3 = .ok (.aload_n 1, 1) := by decide +kernel
theorem dX0_passDays_4 : decode cX0_passDays 4 = .ok (.invokevirtual 108, 3) := by decide +kernel
theorem dX0_passDays_7 : decode cX0_passDays 7 = .ok (.invokevirtual 112, 3) := by decide +kernel
theorem dX0_passDays_10 : decode cX0_passDays 10 = .ok (.return_, 1) := by decide +kernel
theorem dX0_lifts_0 : decode cX0_lifts 0 = .ok (.aload_n 0, 1) := by decide +kernel
theorem dX0_lifts_1 : decode cX0_lifts 1 = .ok (.getfield 11, 3) := by decide +kernel
theorem dX0_lifts_4 : decode cX0_lifts 4 = .ok (.iload_n 1, 1) := by decide +kernel
theorem dX0_lifts_5 : decode cX0_lifts 5 = .ok (.aaload, 1) := by decide +kernel
theorem dX0_lifts_6 : decode cX0_lifts 6 = .ok (.astore 6, 2) := by decide +kernel
theorem dX0_lifts_8 : decode cX0_lifts 8 = .ok (.aload_n 0, 1) := by decide +kernel
theorem dX0_lifts_9 : decode cX0_lifts 9 = .ok (.getfield 44, 3) := by decide +kernel
theorem dX0_lifts_12 : decode cX0_lifts 12 = .ok (.iload_n 2, 1) := by decide +kernel
theorem dX0_lifts_13 : decode cX0_lifts 13 = .ok (.aaload, 1) := by decide +kernel
theorem dX0_lifts_14 : decode cX0_lifts 14 = .ok (.aload 6, 2) := by decide +kernel
theorem dX0_lifts_16 : decode cX0_lifts 16 = .ok (.iload_n 3, 1) := by decide +kernel
theorem dX0_lifts_17 : decode cX0_lifts 17 = .ok (.invokevirtual 116, 3) := by decide +kernel
theorem dX0_lifts_20 : decode cX0_lifts 20 = .ok (.aload 6, 2) := by decide +kernel
theorem dX0_lifts_22 : decode cX0_lifts 22 = .ok (.iload_n 3, 1) := by decide +kernel
theorem dX0_lifts_23 : decode cX0_lifts 23 = .ok (.invokevirtual 119, 3) := by decide +kernel
theorem dX0_lifts_26 : decode cX0_lifts 26 = .ok (.iload 4, 2) := by decide +kernel
theorem dX0_lifts_28 : decode cX0_lifts 28 = .ok (.iload 5, 2) := by decide +kernel
theorem dX0_lifts_30 : decode cX0_lifts 30 = .ok (.invokevirtual 122, 3) := by decide +kernel
theorem dX0_lifts_33 : decode cX0_lifts 33 = .ok (.ireturn, 1) := by decide +kernel
theorem dX0_liftersIn_0 : decode cX0_liftersIn 0 = .ok (.aload_n 1, 1) := by decide +kernel
theorem dX0_liftersIn_1 : decode cX0_liftersIn 1 = .ok (.getfield 68, 3) := by decide +kernel
theorem dX0_liftersIn_4 : decode cX0_liftersIn 4 = .ok (.istore_n 3, 1) := by decide +kernel
theorem dX0_liftersIn_5 : decode cX0_liftersIn 5 = .ok (.aload_n 1, 1) := by decide +kernel
theorem dX0_liftersIn_6 : decode cX0_liftersIn 6 = .ok (.getfield 71, 3) := by decide +kernel
theorem dX0_liftersIn_9 : decode cX0_liftersIn 9 = .ok (.istore 4, 2) := by decide +kernel
theorem dX0_liftersIn_11 : decode cX0_liftersIn 11 = .ok (.iconst 0, 1) := by decide +kernel
theorem dX0_liftersIn_12 : decode cX0_liftersIn 12 = .ok (.istore 5, 2) := by decide +kernel
theorem dX0_liftersIn_14 : decode cX0_liftersIn 14 = .ok (.aload_n 0, 1) := by decide +kernel
theorem dX0_liftersIn_15 : decode cX0_liftersIn 15 = .ok (.iload_n 3, 1) := by decide +kernel
theorem dX0_liftersIn_16 : decode cX0_liftersIn 16 = .ok (.aload_n 0, 1) := by decide +kernel
theorem dX0_liftersIn_17 : decode cX0_liftersIn 17 = .ok (.getfield 11, 3) := by decide +kernel
theorem dX0_liftersIn_20 : decode cX0_liftersIn 20 = .ok (.iload_n 3, 1) := by decide +kernel
theorem dX0_liftersIn_21 : decode cX0_liftersIn 21 = .ok (.aaload, 1) := by decide +kernel
theorem dX0_liftersIn_22 : decode cX0_liftersIn 22 = .ok (.getfield 85, 3) := by decide +kernel
theorem dX0_liftersIn_25 : decode cX0_liftersIn 25 = .ok (.iload_n 2, 1) := by decide +kernel
theorem dX0_liftersIn_26 : decode cX0_liftersIn 26 = .ok (.aload_n 1, 1) := by decide +kernel
theorem dX0_liftersIn_27 : decode cX0_liftersIn 27 = .ok (.getfield 126, 3) := by decide +kernel
theorem dX0_liftersIn_30 : decode cX0_liftersIn 30 = .ok (.aload_n 1, 1) := by decide +kernel
theorem dX0_liftersIn_31 : decode cX0_liftersIn 31 = .ok (.getfield 129, 3) := by decide +kernel
theorem dX0_liftersIn_34 : decode cX0_liftersIn 34 = .ok (.invokevirtual 132, 3) := by decide +kernel
theorem dX0_liftersIn_37 : decode cX0_liftersIn 37 = .ok (.ifCond .eq 9, 3) := by decide +kernel
theorem dX0_liftersIn_40 : decode cX0_liftersIn 40 = .ok (.iload 5, 2) := by decide +kernel
theorem dX0_liftersIn_42 : decode cX0_liftersIn 42 = .ok (.iconst 1, 1) := by decide +kernel
theorem dX0_liftersIn_43 : decode cX0_liftersIn 43 = .ok (.ior, 1) := by decide +kernel
theorem dX0_liftersIn_44 : decode cX0_liftersIn 44 = .ok (.istore 5, 2) := by decide +kernel
theorem dX0_liftersIn_46 : decode cX0_liftersIn 46 = .ok (.aload_n 0, 1) := by decide +kernel
theorem dX0_liftersIn_47 : decode cX0_liftersIn 47 = .ok (.iload 4, 2) := by decide +kernel
theorem dX0_liftersIn_49 : decode cX0_liftersIn 49 = .ok (.aload_n 0, 1) := by decide +kernel
theorem dX0_liftersIn_50 : decode cX0_liftersIn 50 = .ok (.getfield 11, 3) := by decide +kernel
theorem dX0_liftersIn_53 : decode cX0_liftersIn 53 = .ok (.iload 4, 2) := by decide +kernel
theorem dX0_liftersIn_55 : decode cX0_liftersIn 55 = .ok (.aaload, 1) := by decide +kernel
theorem dX0_liftersIn_56 : decode cX0_liftersIn 56 = .ok (.getfield 85, 3) := by decide +kernel
theorem dX0_liftersIn_59 : decode cX0_liftersIn 59 = .ok (.iload_n 2, 1) := by decide +kernel
theorem dX0_liftersIn_60 : decode cX0_liftersIn 60 = .ok (.aload_n 1, 1) := by decide +kernel
theorem dX0_liftersIn_61 : decode cX0_liftersIn 61 = .ok (.getfield 126, 3) := by decide +kernel
theorem dX0_liftersIn_64 : decode cX0_liftersIn 64 = .ok (.aload_n 1, 1) := by decide +kernel
theorem dX0_liftersIn_65 : decode cX0_liftersIn 65 = .ok (.getfield 129, 3) := by decide +kernel
theorem dX0_liftersIn_68 : decode cX0_liftersIn 68 = .ok (.invokevirtual 132, 3) := by decide +kernel
theorem dX0_liftersIn_71 : decode cX0_liftersIn 71 = .ok (.ifCond .eq 9, 3) := by decide +kernel
theorem dX0_liftersIn_74 : decode cX0_liftersIn 74 = .ok (.iload 5, 2) := by decide +kernel
theorem dX0_liftersIn_76 : decode cX0_liftersIn 76 = .ok (.iconst 2, 1) := by decide +kernel
theorem dX0_liftersIn_77 : decode cX0_liftersIn 77 = .ok (.ior, 1) := by decide +kernel
theorem dX0_liftersIn_78 : decode cX0_liftersIn 78 = .ok (.istore 5, 2) := by decide +kernel
theorem dX0_liftersIn_80 : decode cX0_liftersIn 80 = .ok (.iload 5, 2) := by decide +kernel
theorem dX0_liftersIn_82 : decode cX0_liftersIn 82 = .ok (.ireturn, 1) := by decide +kernel
theorem dX0_actsOfBoth_0 : decode cX0_actsOfBoth 0 = .ok (.iconst 0, 1) := by decide +kernel
theorem dX0_actsOfBoth_1 : decode cX0_actsOfBoth 1 = .ok (.istore_n 2, 1) := by decide +kernel
theorem dX0_actsOfBoth_2 : decode cX0_actsOfBoth 2 = .ok (.iconst 0, 1) := by decide +kernel
theorem dX0_actsOfBoth_3 : decode cX0_actsOfBoth 3 = .ok (.istore_n 3, 1) := by decide +kernel
theorem dX0_actsOfBoth_4 : decode cX0_actsOfBoth 4 = .ok (.iload_n 3, 1) := by decide +kernel
theorem dX0_actsOfBoth_5 : decode cX0_actsOfBoth 5 = .ok (.bipush 8, 2) := by decide +kernel
theorem dX0_actsOfBoth_7 : decode cX0_actsOfBoth 7 = .ok (.if_icmp .ge 25, 3) := by decide +kernel
theorem dX0_actsOfBoth_10 : decode cX0_actsOfBoth 10 = .ok (.aload_n 0, 1) := by decide +kernel
theorem dX0_actsOfBoth_11 : decode cX0_actsOfBoth 11 = .ok (.aload_n 1, 1) := by decide +kernel
theorem dX0_actsOfBoth_12 : decode cX0_actsOfBoth 12 = .ok (.iload_n 3, 1) := by decide +kernel
theorem dX0_actsOfBoth_13 : decode cX0_actsOfBoth 13 = .ok (.invokevirtual 135, 3) := by decide +kernel
theorem dX0_actsOfBoth_16 : decode cX0_actsOfBoth 16 = .ok (.iconst 3, 1) := by decide +kernel
theorem dX0_actsOfBoth_17 : decode cX0_actsOfBoth 17 = .ok (.if_icmp .ne 9, 3) := by decide +kernel
theorem dX0_actsOfBoth_20 : decode cX0_actsOfBoth 20 = .ok (.iload_n 2, 1) := by decide +kernel
theorem dX0_actsOfBoth_21 : decode cX0_actsOfBoth 21 = .ok (.iconst 1, 1) := by decide +kernel
theorem dX0_actsOfBoth_22 : decode cX0_actsOfBoth 22 = .ok (.iload_n 3, 1) := by decide +kernel
theorem dX0_actsOfBoth_23 : decode cX0_actsOfBoth 23 = .ok (.ishl, 1) := by decide +kernel
theorem dX0_actsOfBoth_24 : decode cX0_actsOfBoth 24 = .ok (.ior, 1) := by decide +kernel
theorem dX0_actsOfBoth_25 : decode cX0_actsOfBoth 25 = .ok (.istore_n 2, 1) := by decide +kernel
theorem dX0_actsOfBoth_26 : decode cX0_actsOfBoth 26 = .ok (.iinc 3 1, 3) := by decide +kernel
theorem dX0_actsOfBoth_29 : decode cX0_actsOfBoth 29 = .ok (.goto (-25), 3) := by decide +kernel
theorem dX0_actsOfBoth_32 : decode cX0_actsOfBoth 32 = .ok (.iload_n 2, 1) := by decide +kernel
theorem dX0_actsOfBoth_33 : decode cX0_actsOfBoth 33 = .ok (.ireturn, 1) := by decide +kernel
theorem dX0_askIn_0 : decode cX0_askIn 0 = .ok (.aload_n 0, 1) := by decide +kernel
theorem dX0_askIn_1 : decode cX0_askIn 1 = .ok (.aload_n 1, 1) := by decide +kernel
theorem dX0_askIn_2 : decode cX0_askIn 2 = .ok (.iload_n 2, 1) := by decide +kernel
theorem dX0_askIn_3 : decode cX0_askIn 3 = .ok (.invokevirtual 135, 3) := by decide +kernel
theorem dX0_askIn_6 : decode cX0_askIn 6 = .ok (.istore_n 3, 1) := by decide +kernel
theorem dX0_askIn_7 : decode cX0_askIn 7 = .ok (.iload_n 3, 1) := by decide +kernel
theorem dX0_askIn_8 : decode cX0_askIn 8 = .ok (.iconst 3, 1) := by decide +kernel
theorem dX0_askIn_9 : decode cX0_askIn 9 = .ok (.if_icmp .ne 24, 3) := by decide +kernel
theorem dX0_askIn_12 : decode cX0_askIn 12 = .ok (.aload_n 1, 1) := by decide +kernel
theorem dX0_askIn_13 : decode cX0_askIn 13 = .ok (.dup, 1) := by decide +kernel
theorem dX0_askIn_14 : decode cX0_askIn 14 = .ok (.getfield 139, 3) := by decide +kernel
theorem dX0_askIn_17 : decode cX0_askIn 17 = .ok (.iconst 1, 1) := by decide +kernel
theorem dX0_askIn_18 : decode cX0_askIn 18 = .ok (.iload_n 2, 1) := by decide +kernel
theorem dX0_askIn_19 : decode cX0_askIn 19 = .ok (.ishl, 1) := by decide +kernel
theorem dX0_askIn_20 : decode cX0_askIn 20 = .ok (.ior, 1) := by decide +kernel
theorem dX0_askIn_21 : decode cX0_askIn 21 = .ok (.putfield 139, 3) := by decide +kernel
theorem dX0_askIn_24 : decode cX0_askIn 24 = .ok (.aload_n 1, 1) := by decide +kernel
theorem dX0_askIn_25 : decode cX0_askIn 25 = .ok (.bipush (-2), 2) := by decide +kernel
theorem dX0_askIn_27 : decode cX0_askIn 27 = .ok (.invokevirtual 142, 3) := by decide +kernel
theorem dX0_askIn_30 : decode cX0_askIn 30 = .ok (.goto 16, 3) := by decide +kernel
theorem dX0_askIn_33 : decode cX0_askIn 33 = .ok (.aload_n 1, 1) := by decide +kernel
theorem dX0_askIn_34 : decode cX0_askIn 34 = .ok (.iload_n 3, 1) := by decide +kernel
theorem dX0_askIn_35 : decode cX0_askIn 35 = .ok (.ifCond .ne 7, 3) := by decide +kernel
theorem dX0_askIn_38 : decode cX0_askIn 38 = .ok (.iconst 1, 1) := by decide +kernel
theorem dX0_askIn_39 : decode cX0_askIn 39 = .ok (.goto 4, 3) := by decide +kernel
theorem dX0_askIn_42 : decode cX0_askIn 42 = .ok (.iconst 5, 1) := by decide +kernel
theorem dX0_askIn_43 : decode cX0_askIn 43 = .ok (.invokevirtual 142, 3) := by decide +kernel
theorem dX0_askIn_46 : decode cX0_askIn 46 = .ok (.iload_n 3, 1) := by decide +kernel
theorem dX0_askIn_47 : decode cX0_askIn 47 = .ok (.ireturn, 1) := by decide +kernel
theorem dX0_kindsThatLift_0 : decode cX0_kindsThatLift 0 = .ok (.iconst 0, 1) := by decide +kernel
theorem dX0_kindsThatLift_1 : decode cX0_kindsThatLift 1 = .ok (.istore_n 3, 1) := by decide +kernel
theorem dX0_kindsThatLift_2 : decode cX0_kindsThatLift 2 = .ok (.iconst 0, 1) := by decide +kernel
theorem dX0_kindsThatLift_3 : decode cX0_kindsThatLift 3 = .ok (.istore 4, 2) := by decide +kernel
theorem dX0_kindsThatLift_5 : decode cX0_kindsThatLift 5 = .ok (.iload 4, 2) := by decide +kernel
theorem dX0_kindsThatLift_7 : decode cX0_kindsThatLift 7 = .ok (.bipush 6, 2) := by decide +kernel
theorem dX0_kindsThatLift_9 : decode cX0_kindsThatLift 9 = .ok (.if_icmp .ge 41, 3) := by decide +kernel
theorem dX0_kindsThatLift_12 : decode cX0_kindsThatLift 12 = .ok (.aload_n 0, 1) := by decide +kernel
theorem dX0_kindsThatLift_13 : decode cX0_kindsThatLift 13 = .ok (.iload_n 1, 1) := by decide +kernel
theorem dX0_kindsThatLift_14 : decode cX0_kindsThatLift 14 = .ok (.iload 4, 2) := by decide +kernel
theorem dX0_kindsThatLift_16 : decode cX0_kindsThatLift 16 = .ok (.iload_n 2, 1) := by decide +kernel
theorem dX0_kindsThatLift_17 : decode cX0_kindsThatLift 17 = .ok (.aload_n 0, 1) := by decide +kernel
theorem dX0_kindsThatLift_18 : decode cX0_kindsThatLift 18 = .ok (.getfield 30, 3) := by decide +kernel
theorem dX0_kindsThatLift_21 : decode cX0_kindsThatLift 21 = .ok (.getfield 126, 3) := by decide +kernel
theorem dX0_kindsThatLift_24 : decode cX0_kindsThatLift 24 = .ok (.aload_n 0, 1) := by decide +kernel
theorem dX0_kindsThatLift_25 : decode cX0_kindsThatLift 25 = .ok (.getfield 30, 3) := by decide +kernel
theorem dX0_kindsThatLift_28 : decode cX0_kindsThatLift 28 = .ok (.getfield 129, 3) := by decide +kernel
theorem dX0_kindsThatLift_31 : decode cX0_kindsThatLift 31 = .ok (.invokevirtual 132, 3) := by decide +kernel
theorem dX0_kindsThatLift_34 : decode cX0_kindsThatLift 34 = .ok (.ifCond .eq 10, 3) := by decide +kernel
theorem dX0_kindsThatLift_37 : decode cX0_kindsThatLift 37 = .ok (.iload_n 3, 1) := by decide +kernel
theorem dX0_kindsThatLift_38 : decode cX0_kindsThatLift 38 = .ok (.iconst 1, 1) := by decide +kernel
theorem dX0_kindsThatLift_39 : decode cX0_kindsThatLift 39 = .ok (.iload 4, 2) := by decide +kernel
theorem dX0_kindsThatLift_41 : decode cX0_kindsThatLift 41 = .ok (.ishl, 1) := by decide +kernel
theorem dX0_kindsThatLift_42 : decode cX0_kindsThatLift 42 = .ok (.ior, 1) := by decide +kernel
theorem dX0_kindsThatLift_43 : decode cX0_kindsThatLift 43 = .ok (.istore_n 3, 1) := by decide +kernel
theorem dX0_kindsThatLift_44 : decode cX0_kindsThatLift 44 = .ok (.iinc 4 1, 3) := by decide +kernel
theorem dX0_kindsThatLift_47 : decode cX0_kindsThatLift 47 = .ok (.goto (-42), 3) := by decide +kernel
theorem dX0_kindsThatLift_50 : decode cX0_kindsThatLift 50 = .ok (.iload_n 3, 1) := by decide +kernel
theorem dX0_kindsThatLift_51 : decode cX0_kindsThatLift 51 = .ok (.ireturn, 1) := by decide +kernel
theorem dX0_fits_0 : decode cX0_fits 0 = .ok (.iconst 0, 1) := by decide +kernel
theorem dX0_fits_1 : decode cX0_fits 1 = .ok (.istore_n 3, 1) := by decide +kernel
theorem dX0_fits_2 : decode cX0_fits 2 = .ok (.iload_n 3, 1) := by decide +kernel
theorem dX0_fits_3 : decode cX0_fits 3 = .ok (.aload_n 0, 1) := by decide +kernel
theorem dX0_fits_4 : decode cX0_fits 4 = .ok (.getfield 38, 3) := by decide +kernel
theorem dX0_fits_7 : decode cX0_fits 7 = .ok (.if_icmp .ge 73, 3) := by decide +kernel
theorem dX0_fits_10 : decode cX0_fits 10 = .ok (.aload_n 0, 1) := by decide +kernel
theorem dX0_fits_11 : decode cX0_fits 11 = .ok (.getfield 19, 3) := by decide +kernel
theorem dX0_fits_14 : decode cX0_fits 14 = .ok (.iload_n 3, 1) := by decide +kernel
theorem dX0_fits_15 : decode cX0_fits 15 = .ok (.aaload, 1) := by decide +kernel
theorem dX0_fits_16 : decode cX0_fits 16 = .ok (.astore 4, 2) := by decide +kernel
theorem dX0_fits_18 : decode cX0_fits 18 = .ok (.aload 4, 2) := by decide +kernel
theorem dX0_fits_20 : decode cX0_fits 20 = .ok (.getfield 145, 3) := by decide +kernel
theorem dX0_fits_23 : decode cX0_fits 23 = .ok (.iload_n 1, 1) := by decide +kernel
theorem dX0_fits_24 : decode cX0_fits 24 = .ok (.if_icmp .eq 6, 3) := by decide +kernel
theorem dX0_fits_27 : decode cX0_fits 27 = .ok (.goto 47, 3) := by decide +kernel
theorem dX0_fits_30 : decode cX0_fits 30 = .ok (.aload_n 0, 1) := by decide +kernel
theorem dX0_fits_31 : decode cX0_fits 31 = .ok (.iload_n 1, 1) := by decide +kernel
theorem dX0_fits_32 : decode cX0_fits 32 = .ok (.iload_n 2, 1) := by decide +kernel
theorem dX0_fits_33 : decode cX0_fits 33 = .ok (.aload 4, 2) := by decide +kernel
theorem dX0_fits_35 : decode cX0_fits 35 = .ok (.getfield 148, 3) := by decide +kernel
theorem dX0_fits_38 : decode cX0_fits 38 = .ok (.aload 4, 2) := by decide +kernel
theorem dX0_fits_40 : decode cX0_fits 40 = .ok (.getfield 151, 3) := by decide +kernel
theorem dX0_fits_43 : decode cX0_fits 43 = .ok (.aload 4, 2) := by decide +kernel
theorem dX0_fits_45 : decode cX0_fits 45 = .ok (.getfield 152, 3) := by decide +kernel
theorem dX0_fits_48 : decode cX0_fits 48 = .ok (.invokevirtual 132, 3) := by decide +kernel
theorem dX0_fits_51 : decode cX0_fits 51 = .ok (.istore 5, 2) := by decide +kernel
theorem dX0_fits_53 : decode cX0_fits 53 = .ok (.iload 5, 2) := by decide +kernel
theorem dX0_fits_55 : decode cX0_fits 55 = .ok (.aload 4, 2) := by decide +kernel
theorem dX0_fits_57 : decode cX0_fits 57 = .ok (.getfield 153, 3) := by decide +kernel
theorem dX0_fits_60 : decode cX0_fits 60 = .ok (.iconst 1, 1) := by decide +kernel
theorem dX0_fits_61 : decode cX0_fits 61 = .ok (.if_icmp .ne 7, 3) := by decide +kernel
theorem dX0_fits_64 : decode cX0_fits 64 = .ok (.iconst 1, 1) := by decide +kernel
theorem dX0_fits_65 : decode cX0_fits 65 = .ok (.goto 4, 3) := by decide +kernel
theorem dX0_fits_68 : decode cX0_fits 68 = .ok (.iconst 0, 1) := by decide +kernel
theorem dX0_fits_69 : decode cX0_fits 69 = .ok (.if_icmp .eq 5, 3) := by decide +kernel
theorem dX0_fits_72 : decode cX0_fits 72 = .ok (.iconst 0, 1) := by decide +kernel
theorem dX0_fits_73 : decode cX0_fits 73 = .ok (.ireturn, 1) := by decide +kernel
theorem dX0_fits_74 : decode cX0_fits 74 = .ok (.iinc 3 1, 3) := by decide +kernel
theorem dX0_fits_77 : decode cX0_fits 77 = .ok (.goto (-75), 3) := by decide +kernel
theorem dX0_fits_80 : decode cX0_fits 80 = .ok (.iconst 1, 1) := by decide +kernel
theorem dX0_fits_81 : decode cX0_fits 81 = .ok (.ireturn, 1) := by decide +kernel
theorem dX1_init_0 : decode cX1_init 0 = .ok (.aload_n 0, 1) := by decide +kernel
theorem dX1_init_1 : decode cX1_init 1 = .ok (.invokespecial 3, 3) := by decide +kernel
theorem dX1_init_4 : decode cX1_init 4 = .ok (.aload_n 0, 1) := by decide +kernel
theorem dX1_init_5 : decode cX1_init 5 = .ok (.sipush 150, 3) := by decide +kernel
theorem dX1_init_8 : decode cX1_init 8 = .ok (.newarray .int, 2) := by decide +kernel
theorem dX1_init_10 : decode cX1_init 10 = .ok (.putfield 9, 3) := by decide +kernel
theorem dX1_init_13 : decode cX1_init 13 = .ok (.aload_n 0, 1) := by decide +kernel
theorem dX1_init_14 : decode cX1_init 14 = .ok (.iconst 0, 1) := by decide +kernel
theorem dX1_init_15 : decode cX1_init 15 = .ok (.putfield 15, 3) := by decide +kernel
theorem dX1_init_18 : decode cX1_init 18 = .ok (.aload_n 0, 1) := by decide +kernel
theorem dX1_init_19 : decode cX1_init 19 = .ok (.iconst 0, 1) := by decide +kernel
theorem dX1_init_20 : decode cX1_init 20 = .ok (.putfield 19, 3) := by decide +kernel
theorem dX1_init_23 : decode cX1_init 23 = .ok (.aload_n 0, 1) := by decide +kernel
theorem dX1_init_24 : decode cX1_init 24 = .ok (.iconst 0, 1) := by decide +kernel
theorem dX1_init_25 : decode cX1_init 25 = .ok (.putfield 22, 3) := by decide +kernel
theorem dX1_init_28 : decode cX1_init 28 = .ok (.aload_n 0, 1) := by decide +kernel
theorem dX1_init_29 : decode cX1_init 29 = .ok (.iconst 0, 1) := by decide +kernel
theorem dX1_init_30 : decode cX1_init 30 = .ok (.putfield 25, 3) := by decide +kernel
theorem dX1_init_33 : decode cX1_init 33 = .ok (.aload_n 0, 1) := by decide +kernel
theorem dX1_init_34 : decode cX1_init 34 = .ok (.iconst 0, 1) := by decide +kernel
theorem dX1_init_35 : decode cX1_init 35 = .ok (.putfield 28, 3) := by decide +kernel
theorem dX1_init_38 : decode cX1_init 38 = .ok (.return_, 1) := by decide +kernel
theorem dX1_append_0 : decode cX1_append 0 = .ok (.aload_n 0, 1) := by decide +kernel
theorem dX1_append_1 : decode cX1_append 1 = .ok (.getfield 15, 3) := by decide +kernel
theorem dX1_append_4 : decode cX1_append 4 = .ok (.sipush 150, 3) := by decide +kernel
theorem dX1_append_7 : decode cX1_append 7 = .ok (.if_icmp .lt 4, 3) := by decide +kernel
theorem dX1_append_10 : decode cX1_append 10 = .ok (.return_, 1) := by decide +kernel
theorem dX1_append_11 : decode cX1_append 11 = .ok (.aload_n 0, 1) := by decide +kernel
theorem dX1_append_12 : decode cX1_append 12 = .ok (.getfield 9, 3) := by decide +kernel
theorem dX1_append_15 : decode cX1_append 15 = .ok (.aload_n 0, 1) := by decide +kernel
theorem dX1_append_16 : decode cX1_append 16 = .ok (.getfield 15, 3) := by decide +kernel
theorem dX1_append_19 : decode cX1_append 19 = .ok (.iload_n 1, 1) := by decide +kernel
theorem dX1_append_20 : decode cX1_append 20 = .ok (.iastore, 1) := by decide +kernel
theorem dX1_append_21 : decode cX1_append 21 = .ok (.aload_n 0, 1) := by decide +kernel
theorem dX1_append_22 : decode cX1_append 22 = .ok (.dup, 1) := by decide +kernel
theorem dX1_append_23 : decode cX1_append 23 = .ok (.getfield 15, 3) := by decide +kernel
theorem dX1_append_26 : decode cX1_append 26 = .ok (.iconst 1, 1) := by decide +kernel
theorem dX1_append_27 : decode cX1_append 27 = .ok (.iadd, 1) := by decide +kernel
theorem dX1_append_28 : decode cX1_append 28 = .ok (.putfield 15, 3) := by decide +kernel
theorem dX1_append_31 : decode cX1_append 31 = .ok (.return_, 1) := by decide +kernel
theorem dX1_parseInto_0 : decode cX1_parseInto 0 = .ok (.aload_n 0, 1) := by decide +kernel
theorem dX1_parseInto_1 : decode cX1_parseInto 1 = .ok (.iconst 0, 1) := by decide +kernel
theorem dX1_parseInto_2 : decode cX1_parseInto 2 = .ok (.putfield 22, 3) := by decide +kernel
theorem dX1_parseInto_5 : decode cX1_parseInto 5 = .ok (.aload_n 0, 1) := by decide +kernel
theorem dX1_parseInto_6 : decode cX1_parseInto 6 = .ok (.invokevirtual 31, 3) := by decide +kernel
theorem dX1_parseInto_9 : decode cX1_parseInto 9 = .ok (.aload_n 0, 1) := by decide +kernel
theorem dX1_parseInto_10 : decode cX1_parseInto 10 = .ok (.aload_n 1, 1) := by decide +kernel
theorem dX1_parseInto_11 : decode cX1_parseInto 11 = .ok (.invokevirtual 34, 3) := by decide +kernel
theorem dX1_parseInto_14 : decode cX1_parseInto 14 = .ok (.ifCond .ne 5, 3) := by decide +kernel
theorem dX1_parseInto_17 : decode cX1_parseInto 17 = .ok (.iconst (-1), 1) := by decide +kernel
theorem dX1_parseInto_18 : decode cX1_parseInto 18 = .ok (.ireturn, 1) := by decide +kernel
theorem dX1_parseInto_19 : decode cX1_parseInto 19 = .ok (.iconst 1, 1) := by decide +kernel
theorem dX1_parseInto_20 : decode cX1_parseInto 20 = .ok (.istore_n 2, 1) := by decide +kernel
theorem dX1_parseInto_21 : decode cX1_parseInto 21 = .ok (.iload_n 2, 1) := by decide +kernel
theorem dX1_parseInto_22 : decode cX1_parseInto 22 = .ok (.sipush 150, 3) := by decide +kernel
theorem dX1_parseInto_25 : decode cX1_parseInto 25 = .ok (.if_icmp .ge 26, 3) := by decide +kernel
theorem dX1_parseInto_28 : decode cX1_parseInto 28 = .ok (.aload_n 0, 1) := by decide +kernel
theorem dX1_parseInto_29 : decode cX1_parseInto 29 = .ok (.getfield 25, 3) := by decide +kernel
theorem dX1_parseInto_32 : decode cX1_parseInto 32 = .ok (.ifCond .eq 19, 3) := by decide +kernel
theorem dX1_parseInto_35 : decode cX1_parseInto 35 = .ok (.aload_n 0, 1) := by decide +kernel
theorem dX1_parseInto_36 : decode cX1_parseInto 36 = .ok (.aload_n 1, 1) := by decide +kernel
theorem dX1_parseInto_37 : decode cX1_parseInto 37 = .ok (.invokevirtual 38, 3) := by decide +kernel
theorem dX1_parseInto_40 : decode cX1_parseInto 40 = .ok (.ifCond .ne 5, 3) := by decide +kernel
theorem dX1_parseInto_43 : decode cX1_parseInto 43 = .ok (.iconst (-1), 1) := by decide +kernel
theorem dX1_parseInto_44 : decode cX1_parseInto 44 = .ok (.ireturn, 1) := by decide +kernel
theorem dX1_parseInto_45 : decode cX1_parseInto 45 = .ok (.iinc 2 1, 3) := by decide +kernel
theorem dX1_parseInto_48 : decode cX1_parseInto 48 = .ok (.goto (-27), 3) := by decide +kernel
theorem dX1_parseInto_51 : decode cX1_parseInto 51 = .ok (.iload_n 2, 1) := by decide +kernel
theorem dX1_parseInto_52 : decode cX1_parseInto 52 = .ok (.ireturn, 1) := by decide +kernel
theorem dX1_courtItem_0 : decode cX1_courtItem 0 = .ok (.aload_n 0, 1) := by decide +kernel
theorem dX1_courtItem_1 : decode cX1_courtItem 1 = .ok (.ldc 41, 2) := by decide +kernel
theorem dX1_courtItem_3 : decode cX1_courtItem 3 = .ok (.invokevirtual 43, 3) := by decide +kernel
theorem dX1_courtItem_6 : decode cX1_courtItem 6 = .ok (.ifCond .ne 5, 3) := by decide +kernel
theorem dX1_courtItem_9 : decode cX1_courtItem 9 = .ok (.iconst 0, 1) := by decide +kernel
theorem dX1_courtItem_10 : decode cX1_courtItem 10 = .ok (.ireturn, 1) := by decide +kernel
theorem dX1_courtItem_11 : decode cX1_courtItem 11 = .ok (.aload_n 0, 1) := by decide +kernel
theorem dX1_courtItem_12 : decode cX1_courtItem 12 = .ok (.invokevirtual 31, 3) := by decide +kernel
theorem dX1_courtItem_15 : decode cX1_courtItem 15 = .ok (.aload_n 0, 1) := by decide +kernel
theorem dX1_courtItem_16 : decode cX1_courtItem 16 = .ok (.bipush 99, 2) := by decide +kernel
theorem dX1_courtItem_18 : decode cX1_courtItem 18 = .ok (.iconst (-1), 1) := by decide +kernel
theorem dX1_courtItem_19 : decode cX1_courtItem 19 = .ok (.invokevirtual 47, 3) := by decide +kernel
theorem dX1_courtItem_22 : decode cX1_courtItem 22 = .ok (.istore_n 2, 1) := by decide +kernel
theorem dX1_courtItem_23 : decode cX1_courtItem 23 = .ok (.iload_n 2, 1) := by decide +kernel
theorem dX1_courtItem_24 : decode cX1_courtItem 24 = .ok (.iconst (-1), 1) := by decide +kernel
theorem dX1_courtItem_25 : decode cX1_courtItem 25 = .ok (.if_icmp .ne 5, 3) := by decide +kernel
theorem dX1_courtItem_28 : decode cX1_courtItem 28 = .ok (.iconst 0, 1) := by decide +kernel
theorem dX1_courtItem_29 : decode cX1_courtItem 29 = .ok (.ireturn, 1) := by decide +kernel
theorem dX1_courtItem_30 : decode cX1_courtItem 30 = .ok (.aload_n 1, 1) := by decide +kernel
theorem dX1_courtItem_31 : decode cX1_courtItem 31 = .ok (.iload_n 2, 1) := by decide +kernel
theorem dX1_courtItem_32 : decode cX1_courtItem 32 = .ok (.invokevirtual 51, 3) := by decide +kernel
theorem dX1_courtItem_35 : decode cX1_courtItem 35 = .ok (.aload_n 0, 1) := by decide +kernel
theorem dX1_courtItem_36 : decode cX1_courtItem 36 = .ok (.invokevirtual 57, 3) := by decide +kernel
theorem dX1_courtItem_39 : decode cX1_courtItem 39 = .ok (.ireturn, 1) := by decide +kernel
theorem dX1_laterItem_0 : decode cX1_laterItem 0 = .ok (.aload_n 0, 1) := by decide +kernel
theorem dX1_laterItem_1 : decode cX1_laterItem 1 = .ok (.ldc 61, 2) := by decide +kernel
theorem dX1_laterItem_3 : decode cX1_laterItem 3 = .ok (.invokevirtual 43, 3) := by decide +kernel
theorem dX1_laterItem_6 : decode cX1_laterItem 6 = .ok (.ifCond .eq 9, 3) := by decide +kernel
theorem dX1_laterItem_9 : decode cX1_laterItem 9 = .ok (.aload_n 0, 1) := by decide +kernel
theorem dX1_laterItem_10 : decode cX1_laterItem 10 = .ok (.aload_n 1, 1) := by decide +kernel
theorem dX1_laterItem_11 : decode cX1_laterItem 11 = .ok (.invokevirtual 63, 3) := by decide +kernel
theorem dX1_laterItem_14 : decode cX1_laterItem 14 = .ok (.ireturn, 1) := by decide +kernel
theorem dX1_laterItem_15 : decode cX1_laterItem 15 = .ok (.aload_n 0, 1) := by decide +kernel
theorem dX1_laterItem_16 : decode cX1_laterItem 16 = .ok (.ldc 66, 2) := by decide +kernel
theorem dX1_laterItem_18 : decode cX1_laterItem 18 = .ok (.invokevirtual 43, 3) := by decide +kernel
theorem dX1_laterItem_21 : decode cX1_laterItem 21 = .ok (.ifCond .eq 10, 3) := by decide +kernel
theorem dX1_laterItem_24 : decode cX1_laterItem 24 = .ok (.aload_n 0, 1) := by decide +kernel
theorem dX1_laterItem_25 : decode cX1_laterItem 25 = .ok (.aload_n 1, 1) := by decide +kernel
theorem dX1_laterItem_26 : decode cX1_laterItem 26 = .ok (.iconst 1, 1) := by decide +kernel
theorem dX1_laterItem_27 : decode cX1_laterItem 27 = .ok (.invokevirtual 68, 3) := by decide +kernel
theorem dX1_laterItem_30 : decode cX1_laterItem 30 = .ok (.ireturn, 1) := by decide +kernel
theorem dX1_laterItem_31 : decode cX1_laterItem 31 = .ok (.aload_n 0, 1) := by decide +kernel
theorem dX1_laterItem_32 : decode cX1_laterItem 32 = .ok (.ldc 72, 2) := by decide +kernel
theorem dX1_laterItem_34 : decode cX1_laterItem 34 = .ok (.invokevirtual 43, 3) := by decide +kernel
theorem dX1_laterItem_37 : decode cX1_laterItem 37 = .ok (.ifCond .eq 10, 3) := by decide +kernel
theorem dX1_laterItem_40 : decode cX1_laterItem 40 = .ok (.aload_n 0, 1) := by decide +kernel
theorem dX1_laterItem_41 : decode cX1_laterItem 41 = .ok (.aload_n 1, 1) := by decide +kernel
theorem dX1_laterItem_42 : decode cX1_laterItem 42 = .ok (.iconst 0, 1) := by decide +kernel
theorem dX1_laterItem_43 : decode cX1_laterItem 43 = .ok (.invokevirtual 68, 3) := by decide +kernel
theorem dX1_laterItem_46 : decode cX1_laterItem 46 = .ok (.ireturn, 1) := by decide +kernel
theorem dX1_laterItem_47 : decode cX1_laterItem 47 = .ok (.aload_n 0, 1) := by decide +kernel
theorem dX1_laterItem_48 : decode cX1_laterItem 48 = .ok (.ldc 74, 2) := by decide +kernel
theorem dX1_laterItem_50 : decode cX1_laterItem 50 = .ok (.invokevirtual 43, 3) := by decide +kernel
theorem dX1_laterItem_53 : decode cX1_laterItem 53 = .ok (.ifCond .eq 9, 3) := by decide +kernel
theorem dX1_laterItem_56 : decode cX1_laterItem 56 = .ok (.aload_n 0, 1) := by decide +kernel
theorem dX1_laterItem_57 : decode cX1_laterItem 57 = .ok (.aload_n 1, 1) := by decide +kernel
theorem dX1_laterItem_58 : decode cX1_laterItem 58 = .ok (.invokevirtual 76, 3) := by decide +kernel
theorem dX1_laterItem_61 : decode cX1_laterItem 61 = .ok (.ireturn, 1) := by decide +kernel
theorem dX1_laterItem_62 : decode cX1_laterItem 62 = .ok (.iconst 0, 1) := by decide +kernel
theorem dX1_laterItem_63 : decode cX1_laterItem 63 = .ok (.ireturn, 1) := by decide +kernel
theorem dX1_heirItem_0 : decode cX1_heirItem 0 = .ok (.aload_n 1, 1) := by decide +kernel
theorem dX1_heirItem_1 : decode cX1_heirItem 1 = .ok (.getfield 79, 3) := by decide +kernel
theorem dX1_heirItem_4 : decode cX1_heirItem 4 = .ok (.bipush 6, 2) := by decide +kernel
theorem dX1_heirItem_6 : decode cX1_heirItem 6 = .ok (.if_icmp .lt 5, 3) := by decide +kernel
theorem dX1_heirItem_9 : decode cX1_heirItem 9 = .ok (.iconst 0, 1) := by decide +kernel
theorem dX1_heirItem_10 : decode cX1_heirItem 10 = .ok (.ireturn, 1) := by decide +kernel
theorem dX1_heirItem_11 : decode cX1_heirItem 11 = .ok (.aload_n 0, 1) := by decide +kernel
theorem dX1_heirItem_12 : decode cX1_heirItem 12 = .ok (.invokevirtual 31, 3) := by decide +kernel
theorem dX1_heirItem_15 : decode cX1_heirItem 15 = .ok (.aload_n 0, 1) := by decide +kernel
theorem dX1_heirItem_16 : decode cX1_heirItem 16 = .ok (.iconst 5, 1) := by decide +kernel
theorem dX1_heirItem_17 : decode cX1_heirItem 17 = .ok (.iconst (-1), 1) := by decide +kernel
theorem dX1_heirItem_18 : decode cX1_heirItem 18 = .ok (.invokevirtual 47, 3) := by decide +kernel
theorem dX1_heirItem_21 : decode cX1_heirItem 21 = .ok (.istore_n 2, 1) := by decide +kernel
theorem dX1_heirItem_22 : decode cX1_heirItem 22 = .ok (.iload_n 2, 1) := by decide +kernel
theorem dX1_heirItem_23 : decode cX1_heirItem 23 = .ok (.iconst (-1), 1) := by decide +kernel
theorem dX1_heirItem_24 : decode cX1_heirItem 24 = .ok (.if_icmp .ne 5, 3) := by decide +kernel
theorem dX1_heirItem_27 : decode cX1_heirItem 27 = .ok (.iconst 0, 1) := by decide +kernel
theorem dX1_heirItem_28 : decode cX1_heirItem 28 = .ok (.ireturn, 1) := by decide +kernel
theorem dX1_heirItem_29 : decode cX1_heirItem 29 = .ok (.aload_n 0, 1) := by decide +kernel
theorem dX1_heirItem_30 : decode cX1_heirItem 30 = .ok (.bipush 20, 2) := by decide +kernel
theorem dX1_heirItem_32 : decode cX1_heirItem 32 = .ok (.iconst (-1), 1) := by decide +kernel
theorem dX1_heirItem_33 : decode cX1_heirItem 33 = .ok (.invokevirtual 47, 3) := by decide +kernel
theorem dX1_heirItem_36 : decode cX1_heirItem 36 = .ok (.istore_n 3, 1) := by decide +kernel
theorem dX1_heirItem_37 : decode cX1_heirItem 37 = .ok (.iload_n 3, 1) := by decide +kernel
theorem dX1_heirItem_38 : decode cX1_heirItem 38 = .ok (.iconst (-1), 1) := by decide +kernel
theorem dX1_heirItem_39 : decode cX1_heirItem 39 = .ok (.if_icmp .ne 5, 3) := by decide +kernel
theorem dX1_heirItem_42 : decode cX1_heirItem 42 = .ok (.iconst 0, 1) := by decide +kernel
theorem dX1_heirItem_43 : decode cX1_heirItem 43 = .ok (.ireturn, 1) := by decide +kernel
theorem dX1_heirItem_44 : decode cX1_heirItem 44 = .ok (.aload_n 1, 1) := by decide +kernel
theorem dX1_heirItem_45 : decode cX1_heirItem 45 = .ok (.iload_n 2, 1) := by decide +kernel
theorem dX1_heirItem_46 : decode cX1_heirItem 46 = .ok (.iconst 0, 1) := by decide +kernel
theorem dX1_heirItem_47 : decode cX1_heirItem 47 = .ok (.iconst 0, 1) := by decide +kernel
theorem dX1_heirItem_48 : decode cX1_heirItem 48 = .ok (.iload_n 3, 1) := by decide +kernel
theorem dX1_heirItem_49 : decode cX1_heirItem 49 = .ok (.invokevirtual 82, 3) := by decide +kernel
theorem dX1_heirItem_52 : decode cX1_heirItem 52 = .ok (.pop, 1) := by decide +kernel
theorem dX1_heirItem_53 : decode cX1_heirItem 53 = .ok (.aload_n 0, 1) := by decide +kernel
theorem dX1_heirItem_54 : decode cX1_heirItem 54 = .ok (.invokevirtual 57, 3) := by decide +kernel
theorem dX1_heirItem_57 : decode cX1_heirItem 57 = .ok (.ireturn, 1) := by decide +kernel
theorem dX1_heartItem_0 : decode cX1_heartItem 0 = .ok (.aload_n 0, 1) := by decide +kernel
theorem dX1_heartItem_1 : decode cX1_heartItem 1 = .ok (.invokevirtual 31, 3) := by decide +kernel
theorem dX1_heartItem_4 : decode cX1_heartItem 4 = .ok (.aload_n 0, 1) := by decide +kernel
theorem dX1_heartItem_5 : decode cX1_heartItem 5 = .ok (.aload_n 1, 1) := by decide +kernel
theorem dX1_heartItem_6 : decode cX1_heartItem 6 = .ok (.getfield 79, 3) := by decide +kernel
theorem dX1_heartItem_9 : decode cX1_heartItem 9 = .ok (.iconst 1, 1) := by decide +kernel
theorem dX1_heartItem_10 : decode cX1_heartItem 10 = .ok (.isub, 1) := by decide +kernel
theorem dX1_heartItem_11 : decode cX1_heartItem 11 = .ok (.iconst (-1), 1) := by decide +kernel
theorem dX1_heartItem_12 : decode cX1_heartItem 12 = .ok (.invokevirtual 47, 3) := by decide +kernel
theorem dX1_heartItem_15 : decode cX1_heartItem 15 = .ok (.istore_n 3, 1) := by decide +kernel
theorem dX1_heartItem_16 : decode cX1_heartItem 16 = .ok (.iload_n 3, 1) := by decide +kernel
theorem dX1_heartItem_17 : decode cX1_heartItem 17 = .ok (.iconst (-1), 1) := by decide +kernel
theorem dX1_heartItem_18 : decode cX1_heartItem 18 = .ok (.if_icmp .ne 5, 3) := by decide +kernel
theorem dX1_heartItem_21 : decode cX1_heartItem 21 = .ok (.iconst 0, 1) := by decide +kernel
theorem dX1_heartItem_22 : decode cX1_heartItem 22 = .ok (.ireturn, 1) := by decide +kernel
theorem dX1_heartItem_23 : decode cX1_heartItem 23 = .ok (.iconst 0, 1) := by decide +kernel
theorem dX1_heartItem_24 : decode cX1_heartItem 24 = .ok (.istore 4, 2) := by decide +kernel
theorem dX1_heartItem_26 : decode cX1_heartItem 26 = .ok (.iconst 0, 1) := by decide +kernel
theorem dX1_heartItem_27 : decode cX1_heartItem 27 = .ok (.istore 5, 2) := by decide +kernel
theorem dX1_heartItem_29 : decode cX1_heartItem 29 = .ok (.iload 5, 2) := by decide +kernel
theorem dX1_heartItem_31 : decode cX1_heartItem 31 = .ok (.sipush 150, 3) := by decide +kernel
theorem dX1_heartItem_34 : decode cX1_heartItem 34 = .ok (.if_icmp .ge 43, 3) := by decide +kernel
theorem dX1_heartItem_37 : decode cX1_heartItem 37 = .ok (.aload_n 0, 1) := by decide +kernel
theorem dX1_heartItem_38 : decode cX1_heartItem 38 = .ok (.getfield 25, 3) := by decide +kernel
theorem dX1_heartItem_41 : decode cX1_heartItem 41 = .ok (.iconst 2, 1) := by decide +kernel
theorem dX1_heartItem_42 : decode cX1_heartItem 42 = .ok (.if_icmp .ne 35, 3) := by decide +kernel
theorem dX1_heartItem_45 : decode cX1_heartItem 45 = .ok (.aload_n 0, 1) := by decide +kernel
theorem dX1_heartItem_46 : decode cX1_heartItem 46 = .ok (.bipush 7, 2) := by decide +kernel
theorem dX1_heartItem_48 : decode cX1_heartItem 48 = .ok (.iconst (-1), 1) := by decide +kernel
theorem dX1_heartItem_49 : decode cX1_heartItem 49 = .ok (.invokevirtual 47, 3) := by decide +kernel
theorem dX1_heartItem_52 : decode cX1_heartItem 52 = .ok (.istore 6, 2) := by decide +kernel
theorem dX1_heartItem_54 : decode cX1_heartItem 54 = .ok (.iload 6, 2) := by decide +kernel
theorem dX1_heartItem_56 : decode cX1_heartItem 56 = .ok (.iconst (-1), 1) := by decide +kernel
theorem dX1_heartItem_57 : decode cX1_heartItem 57 = .ok (.if_icmp .ne 5, 3) := by decide +kernel
theorem dX1_heartItem_60 : decode cX1_heartItem 60 = .ok (.iconst 0, 1) := by decide +kernel
theorem dX1_heartItem_61 : decode cX1_heartItem 61 = .ok (.ireturn, 1) := by decide +kernel
theorem dX1_heartItem_62 : decode cX1_heartItem 62 = .ok (.iload 4, 2) := by decide +kernel
theorem dX1_heartItem_64 : decode cX1_heartItem 64 = .ok (.iconst 1, 1) := by decide +kernel
theorem dX1_heartItem_65 : decode cX1_heartItem 65 = .ok (.iload 6, 2) := by decide +kernel
theorem dX1_heartItem_67 : decode cX1_heartItem 67 = .ok (.ishl, 1) := by decide +kernel
theorem dX1_heartItem_68 : decode cX1_heartItem 68 = .ok (.ior, 1) := by decide +kernel
theorem dX1_heartItem_69 : decode cX1_heartItem 69 = .ok (.istore 4, 2) := by decide +kernel
theorem dX1_heartItem_71 : decode cX1_heartItem 71 = .ok (.iinc 5 1, 3) := by decide +kernel
theorem dX1_heartItem_74 : decode cX1_heartItem 74 = .ok (.goto (-45), 3) := by decide +kernel
theorem dX1_heartItem_77 : decode cX1_heartItem 77 = .ok (.aload_n 1, 1) := by decide +kernel
theorem dX1_heartItem_78 : decode cX1_heartItem 78 = .ok (.getfield 86, 3) := by decide +kernel
theorem dX1_heartItem_81 : decode cX1_heartItem 81 = .ok (.iload_n 3, 1) := by decide +kernel
theorem dX1_heartItem_82 : decode cX1_heartItem 82 = .ok (.aaload, 1) := by decide +kernel
theorem dX1_heartItem_83 : decode cX1_heartItem 83 = .ok (.astore 5, 2) := by decide +kernel
theorem dX1_heartItem_85 : decode cX1_heartItem 85 = .ok (.aload 5, 2) := by decide +kernel
theorem dX1_heartItem_87 : decode cX1_heartItem 87 = .ok (.iload_n 2, 1) := by decide +kernel
theorem dX1_heartItem_88 : decode cX1_heartItem 88 = .ok (.ifCond .eq 8, 3) := by decide +kernel
theorem dX1_heartItem_91 : decode cX1_heartItem 91 = .ok (.iload 4, 2) := by decide +kernel
theorem dX1_heartItem_93 : decode cX1_heartItem 93 = .ok (.goto 8, 3) := by decide +kernel
theorem dX1_heartItem_96 : decode cX1_heartItem 96 = .ok (.aload 5, 2) := by decide +kernel
theorem dX1_heartItem_98 : decode cX1_heartItem 98 = .ok (.getfield 90, 3) := by decide +kernel
theorem dX1_heartItem_101 : decode cX1_heartItem 101 = .ok (.iload_n 2, 1) := by decide +kernel
theorem dX1_heartItem_102 : decode cX1_heartItem 102 = .ok (.ifCond .eq 11, 3) := by decide +kernel
theorem dX1_heartItem_105 : decode cX1_heartItem 105 = .ok (.aload 5, 2) := by decide +kernel
theorem dX1_heartItem_107 : decode cX1_heartItem 107 = .ok (.getfield 95, 3) := by decide +kernel
theorem dX1_heartItem_110 : decode cX1_heartItem 110 = .ok (.goto 5, 3) := by decide +kernel
theorem dX1_heartItem_113 : decode cX1_heartItem 113 = .ok (.iload 4, 2) := by decide +kernel
theorem dX1_heartItem_115 : decode cX1_heartItem 115 = .ok (.invokevirtual 98, 3) := by decide +kernel
theorem dX1_heartItem_118 : decode cX1_heartItem 118 = .ok (.aload_n 0, 1) := by decide +kernel
theorem dX1_heartItem_119 : decode cX1_heartItem 119 = .ok (.invokevirtual 57, 3) := by decide +kernel
theorem dX1_heartItem_122 : decode cX1_heartItem 122 = .ok (.ireturn, 1) := by decide +kernel
theorem dX1_pairItem_0 : decode cX1_pairItem 0 = .ok (.aload_n 0, 1) := by decide +kernel
theorem dX1_pairItem_1 : decode cX1_pairItem 1 = .ok (.invokevirtual 31, 3) := by decide +kernel
theorem dX1_pairItem_4 : decode cX1_pairItem 4 = .ok (.aload_n 0, 1) := by decide +kernel
theorem dX1_pairItem_5 : decode cX1_pairItem 5 = .ok (.aload_n 1, 1) := by decide +kernel
theorem dX1_pairItem_6 : decode cX1_pairItem 6 = .ok (.getfield 79, 3) := by decide +kernel
theorem dX1_pairItem_9 : decode cX1_pairItem 9 = .ok (.iconst 1, 1) := by decide +kernel
theorem dX1_pairItem_10 : decode cX1_pairItem 10 = .ok (.isub, 1) := by decide +kernel
theorem dX1_pairItem_11 : decode cX1_pairItem 11 = .ok (.iconst (-1), 1) := by decide +kernel
theorem dX1_pairItem_12 : decode cX1_pairItem 12 = .ok (.invokevirtual 47, 3) := by decide +kernel
theorem dX1_pairItem_15 : decode cX1_pairItem 15 = .ok (.istore_n 2, 1) := by decide +kernel
theorem dX1_pairItem_16 : decode cX1_pairItem 16 = .ok (.iload_n 2, 1) := by decide +kernel
theorem dX1_pairItem_17 : decode cX1_pairItem 17 = .ok (.iconst (-1), 1) := by decide +kernel
theorem dX1_pairItem_18 : decode cX1_pairItem 18 = .ok (.if_icmp .ne 5, 3) := by decide +kernel
theorem dX1_pairItem_21 : decode cX1_pairItem 21 = .ok (.iconst 0, 1) := by decide +kernel
theorem dX1_pairItem_22 : decode cX1_pairItem 22 = .ok (.ireturn, 1) := by decide +kernel
theorem dX1_pairItem_23 : decode cX1_pairItem 23 = .ok (.aload_n 0, 1) := by decide +kernel
theorem dX1_pairItem_24 : decode cX1_pairItem 24 = .ok (.aload_n 1, 1) := by decide +kernel
theorem dX1_pairItem_25 : decode cX1_pairItem 25 = .ok (.getfield 79, 3) := by decide +kernel
theorem dX1_pairItem_28 : decode cX1_pairItem 28 = .ok (.iconst 1, 1) := by decide +kernel
theorem dX1_pairItem_29 : decode cX1_pairItem 29 = .ok (.isub, 1) := by decide +kernel
theorem dX1_pairItem_30 : decode cX1_pairItem 30 = .ok (.iload_n 2, 1) := by decide +kernel
theorem dX1_pairItem_31 : decode cX1_pairItem 31 = .ok (.invokevirtual 47, 3) := by decide +kernel
theorem dX1_pairItem_34 : decode cX1_pairItem 34 = .ok (.istore_n 3, 1) := by decide +kernel
theorem dX1_pairItem_35 : decode cX1_pairItem 35 = .ok (.iload_n 3, 1) := by decide +kernel
theorem dX1_pairItem_36 : decode cX1_pairItem 36 = .ok (.iconst (-1), 1) := by decide +kernel
theorem dX1_pairItem_37 : decode cX1_pairItem 37 = .ok (.if_icmp .ne 5, 3) := by decide +kernel
theorem dX1_pairItem_40 : decode cX1_pairItem 40 = .ok (.iconst 0, 1) := by decide +kernel
theorem dX1_pairItem_41 : decode cX1_pairItem 41 = .ok (.ireturn, 1) := by decide +kernel
theorem dX1_pairItem_42 : decode cX1_pairItem 42 = .ok (.aload_n 1, 1) := by decide +kernel
theorem dX1_pairItem_43 : decode cX1_pairItem 43 = .ok (.getfield 102, 3) := by decide +kernel
theorem dX1_pairItem_46 : decode cX1_pairItem 46 = .ok (.iload_n 2, 1) := by decide +kernel
theorem dX1_pairItem_47 : decode cX1_pairItem 47 = .ok (.putfield 106, 3) := by decide +kernel
theorem dX1_pairItem_50 : decode cX1_pairItem 50 = .ok (.aload_n 1, 1) := by decide +kernel
theorem dX1_pairItem_51 : decode cX1_pairItem 51 = .ok (.getfield 102, 3) := by decide +kernel
theorem dX1_pairItem_54 : decode cX1_pairItem 54 = .ok (.iload_n 3, 1) := by decide +kernel
theorem dX1_pairItem_55 : decode cX1_pairItem 55 = .ok (.putfield 111, 3) := by decide +kernel
theorem dX1_pairItem_58 : decode cX1_pairItem 58 = .ok (.aload_n 0, 1) := by decide +kernel
theorem dX1_pairItem_59 : decode cX1_pairItem 59 = .ok (.invokevirtual 57, 3) := by decide +kernel
theorem dX1_pairItem_62 : decode cX1_pairItem 62 = .ok (.ireturn, 1) := by decide +kernel
theorem dX1_takeNumber_0 : decode cX1_takeNumber 0 = .ok (.aload_n 0, 1) := by decide +kernel
theorem dX1_takeNumber_1 : decode cX1_takeNumber 1 = .ok (.getfield 25, 3) := by decide +kernel
theorem dX1_takeNumber_4 : decode cX1_takeNumber 4 = .ok (.iconst 2, 1) := by decide +kernel
theorem dX1_takeNumber_5 : decode cX1_takeNumber 5 = .ok (.if_icmp .ne 19, 3) := by decide +kernel
theorem dX1_takeNumber_8 : decode cX1_takeNumber 8 = .ok (.aload_n 0, 1) := by decide +kernel
theorem dX1_takeNumber_9 : decode cX1_takeNumber 9 = .ok (.getfield 28, 3) := by decide +kernel
theorem dX1_takeNumber_12 : decode cX1_takeNumber 12 = .ok (.iload_n 1, 1) := by decide +kernel
theorem dX1_takeNumber_13 : decode cX1_takeNumber 13 = .ok (.if_icmp .gt 11, 3) := by decide +kernel
theorem dX1_takeNumber_16 : decode cX1_takeNumber 16 = .ok (.aload_n 0, 1) := by decide +kernel
theorem dX1_takeNumber_17 : decode cX1_takeNumber 17 = .ok (.getfield 28, 3) := by decide +kernel
theorem dX1_takeNumber_20 : decode cX1_takeNumber 20 = .ok (.iload_n 2, 1) := by decide +kernel
theorem dX1_takeNumber_21 : decode cX1_takeNumber 21 = .ok (.if_icmp .ne 5, 3) := by decide +kernel
theorem dX1_takeNumber_24 : decode cX1_takeNumber 24 = .ok (.iconst (-1), 1) := by decide +kernel
theorem dX1_takeNumber_25 : decode cX1_takeNumber 25 = .ok (.ireturn, 1) := by decide +kernel
theorem dX1_takeNumber_26 : decode cX1_takeNumber 26 = .ok (.aload_n 0, 1) := by decide +kernel
theorem dX1_takeNumber_27 : decode cX1_takeNumber 27 = .ok (.getfield 28, 3) := by decide +kernel
theorem dX1_takeNumber_30 : decode cX1_takeNumber 30 = .ok (.istore_n 3, 1) := by decide +kernel
theorem dX1_takeNumber_31 : decode cX1_takeNumber 31 = .ok (.aload_n 0, 1) := by decide +kernel
theorem dX1_takeNumber_32 : decode cX1_takeNumber 32 = .ok (.invokevirtual 31, 3) := by decide +kernel
theorem dX1_takeNumber_35 : decode cX1_takeNumber 35 = .ok (.iload_n 3, 1) := by decide +kernel
theorem dX1_takeNumber_36 : decode cX1_takeNumber 36 = .ok (.ireturn, 1) := by decide +kernel
theorem dX1_takeEnding_0 : decode cX1_takeEnding 0 = .ok (.aload_n 0, 1) := by decide +kernel
theorem dX1_takeEnding_1 : decode cX1_takeEnding 1 = .ok (.getfield 25, 3) := by decide +kernel
theorem dX1_takeEnding_4 : decode cX1_takeEnding 4 = .ok (.iconst 3, 1) := by decide +kernel
theorem dX1_takeEnding_5 : decode cX1_takeEnding 5 = .ok (.if_icmp .eq 5, 3) := by decide +kernel
theorem dX1_takeEnding_8 : decode cX1_takeEnding 8 = .ok (.iconst 0, 1) := by decide +kernel
theorem dX1_takeEnding_9 : decode cX1_takeEnding 9 = .ok (.ireturn, 1) := by decide +kernel
theorem dX1_takeEnding_10 : decode cX1_takeEnding 10 = .ok (.aload_n 0, 1) := by decide +kernel
theorem dX1_takeEnding_11 : decode cX1_takeEnding 11 = .ok (.invokevirtual 31, 3) := by decide +kernel
theorem dX1_takeEnding_14 : decode cX1_takeEnding 14 = .ok (.iconst 1, 1) := by decide +kernel
theorem dX1_takeEnding_15 : decode cX1_takeEnding 15 = .ok (.ireturn, 1) := by decide +kernel
theorem dX1_isWord_0 : decode cX1_isWord 0 = .ok (.aload_n 0, 1) := by decide +kernel
theorem dX1_isWord_1 : decode cX1_isWord 1 = .ok (.getfield 25, 3) := by decide +kernel
theorem dX1_isWord_4 : decode cX1_isWord 4 = .ok (.iconst 1, 1) := by decide +kernel
theorem dX1_isWord_5 : decode cX1_isWord 5 = .ok (.if_icmp .ne 19, 3) := by decide +kernel
theorem dX1_isWord_8 : decode cX1_isWord 8 = .ok (.aload_n 0, 1) := by decide +kernel
theorem dX1_isWord_9 : decode cX1_isWord 9 = .ok (.getfield 22, 3) := by decide +kernel
theorem dX1_isWord_12 : decode cX1_isWord 12 = .ok (.aload_n 0, 1) := by decide +kernel
theorem dX1_isWord_13 : decode cX1_isWord 13 = .ok (.getfield 19, 3) := by decide +kernel
theorem dX1_isWord_16 : decode cX1_isWord 16 = .ok (.isub, 1) := by decide +kernel
theorem dX1_isWord_17 : decode cX1_isWord 17 = .ok (.aload_n 1, 1) := by decide +kernel
theorem dX1_isWord_18 : decode cX1_isWord 18 = .ok (.invokevirtual 114, 3) := by decide +kernel
theorem dX1_isWord_21 : decode cX1_isWord 21 = .ok (.if_icmp .eq 5, 3) := by decide +kernel
theorem dX1_isWord_24 : decode cX1_isWord 24 = .ok (.iconst 0, 1) := by decide +kernel
theorem dX1_isWord_25 : decode cX1_isWord 25 = .ok (.ireturn, 1) := by decide +kernel
theorem dX1_isWord_26 : decode cX1_isWord 26 = .ok (.iconst 0, 1) := by decide +kernel
theorem dX1_isWord_27 : decode cX1_isWord 27 = .ok (.istore_n 2, 1) := by decide +kernel
theorem dX1_isWord_28 : decode cX1_isWord 28 = .ok (.iload_n 2, 1) := by decide +kernel
theorem dX1_isWord_29 : decode cX1_isWord 29 = .ok (.aload_n 1, 1) := by decide +kernel
theorem dX1_isWord_30 : decode cX1_isWord 30 = .ok (.invokevirtual 114, 3) := by decide +kernel
theorem dX1_isWord_33 : decode cX1_isWord 33 = .ok (.if_icmp .ge 30, 3) := by decide +kernel
theorem dX1_isWord_36 : decode cX1_isWord 36 = .ok (.aload_n 0, 1) := by decide +kernel
theorem dX1_isWord_37 : decode cX1_isWord 37 = .ok (.getfield 9, 3) := by decide +kernel
theorem dX1_isWord_40 : decode cX1_isWord 40 = .ok (.aload_n 0, 1) := by decide +kernel
theorem dX1_isWord_41 : decode cX1_isWord 41 = .ok (.getfield 19, 3) := by decide +kernel
theorem dX1_isWord_44 : decode cX1_isWord 44 = .ok (.iload_n 2, 1) := by decide +kernel
theorem dX1_isWord_45 : decode cX1_isWord 45 = .ok (.iadd, 1) := by decide +kernel
theorem dX1_isWord_46 : decode cX1_isWord 46 = .ok (.iaload, 1) := by decide +kernel
theorem dX1_isWord_47 : decode cX1_isWord 47 = .ok (.aload_n 1, 1) := by decide +kernel
theorem dX1_isWord_48 : decode cX1_isWord 48 = .ok (.iload_n 2, 1) := by decide +kernel
theorem dX1_isWord_49 : decode cX1_isWord 49 = .ok (.invokevirtual 119, 3) := by decide +kernel
theorem dX1_isWord_52 : decode cX1_isWord 52 = .ok (.if_icmp .eq 5, 3) := by decide +kernel
theorem dX1_isWord_55 : decode cX1_isWord 55 = .ok (.iconst 0, 1) := by decide +kernel
theorem dX1_isWord_56 : decode cX1_isWord 56 = .ok (.ireturn, 1) := by decide +kernel
theorem dX1_isWord_57 : decode cX1_isWord 57 = .ok (.iinc 2 1, 3) := by decide +kernel
theorem dX1_isWord_60 : decode cX1_isWord 60 = .ok (.goto (-32), 3) := by decide +kernel
theorem dX1_isWord_63 : decode cX1_isWord 63 = .ok (.iconst 1, 1) := by decide +kernel
theorem dX1_isWord_64 : decode cX1_isWord 64 = .ok (.ireturn, 1) := by decide +kernel
theorem dX1_advance_0 : decode cX1_advance 0 = .ok (.aload_n 0, 1) := by decide +kernel
theorem dX1_advance_1 : decode cX1_advance 1 = .ok (.getfield 22, 3) := by decide +kernel
theorem dX1_advance_4 : decode cX1_advance 4 = .ok (.aload_n 0, 1) := by decide +kernel
theorem dX1_advance_5 : decode cX1_advance 5 = .ok (.getfield 15, 3) := by decide +kernel
theorem dX1_advance_8 : decode cX1_advance 8 = .ok (.if_icmp .ge 30, 3) := by decide +kernel
theorem dX1_advance_11 : decode cX1_advance 11 = .ok (.aload_n 0, 1) := by decide +kernel
theorem dX1_advance_12 : decode cX1_advance 12 = .ok (.getfield 9, 3) := by decide +kernel
theorem dX1_advance_15 : decode cX1_advance 15 = .ok (.aload_n 0, 1) := by decide +kernel
theorem dX1_advance_16 : decode cX1_advance 16 = .ok (.getfield 22, 3) := by decide +kernel
theorem dX1_advance_19 : decode cX1_advance 19 = .ok (.iaload, 1) := by decide +kernel
theorem dX1_advance_20 : decode cX1_advance 20 = .ok (.bipush 32, 2) := by decide +kernel
theorem dX1_advance_22 : decode cX1_advance 22 = .ok (.if_icmp .ne 16, 3) := by decide +kernel
theorem dX1_advance_25 : decode cX1_advance 25 = .ok (.aload_n 0, 1) := by decide +kernel
theorem dX1_advance_26 : decode cX1_advance 26 = .ok (.dup, 1) := by decide +kernel
theorem dX1_advance_27 : decode cX1_advance 27 = .ok (.getfield 22, 3) := by decide +kernel
theorem dX1_advance_30 : decode cX1_advance 30 = .ok (.iconst 1, 1) := by decide +kernel
theorem dX1_advance_31 : decode cX1_advance 31 = .ok (.iadd, 1) := by decide +kernel
theorem dX1_advance_32 : decode cX1_advance 32 = .ok (.putfield 22, 3) := by decide +kernel
theorem dX1_advance_35 : decode cX1_advance 35 = .ok (.goto (-35), 3) := by decide +kernel
theorem dX1_advance_38 : decode cX1_advance 38 = .ok (.aload_n 0, 1) := by decide +kernel
theorem dX1_advance_39 : decode cX1_advance 39 = .ok (.aload_n 0, 1) := by decide +kernel
theorem dX1_advance_40 : decode cX1_advance 40 = .ok (.getfield 22, 3) := by decide +kernel
theorem dX1_advance_43 : decode cX1_advance 43 = .ok (.putfield 19, 3) := by decide +kernel
theorem dX1_advance_46 : decode cX1_advance 46 = .ok (.aload_n 0, 1) := by decide +kernel
theorem dX1_advance_47 : decode cX1_advance 47 = .ok (.aload_n 0, 1) := by decide +kernel
theorem dX1_advance_48 : decode cX1_advance 48 = .ok (.aload_n 0, 1) := by decide +kernel
theorem dX1_advance_49 : decode cX1_advance 49 = .ok (.getfield 19, 3) := by decide +kernel
theorem dX1_advance_52 : decode cX1_advance 52 = .ok (.invokevirtual 123, 3) := by decide +kernel
theorem dX1_advance_55 : decode cX1_advance 55 = .ok (.putfield 25, 3) := by decide +kernel
theorem dX1_advance_58 : decode cX1_advance 58 = .ok (.aload_n 0, 1) := by decide +kernel
theorem dX1_advance_59 : decode cX1_advance 59 = .ok (.iconst 0, 1) := by decide +kernel
theorem dX1_advance_60 : decode cX1_advance 60 = .ok (.putfield 28, 3) := by decide +kernel
theorem dX1_advance_63 : decode cX1_advance 63 = .ok (.aload_n 0, 1) := by decide +kernel
theorem dX1_advance_64 : decode cX1_advance 64 = .ok (.getfield 25, 3) := by decide +kernel
theorem dX1_advance_67 : decode cX1_advance 67 = .ok (.iconst 1, 1) := by decide +kernel
theorem dX1_advance_68 : decode cX1_advance 68 = .ok (.if_icmp .ne 39, 3) := by decide +kernel
theorem dX1_advance_71 : decode cX1_advance 71 = .ok (.aload_n 0, 1) := by decide +kernel
theorem dX1_advance_72 : decode cX1_advance 72 = .ok (.getfield 22, 3) := by decide +kernel
theorem dX1_advance_75 : decode cX1_advance 75 = .ok (.aload_n 0, 1) := by decide +kernel
theorem dX1_advance_76 : decode cX1_advance 76 = .ok (.getfield 15, 3) := by decide +kernel
theorem dX1_advance_79 : decode cX1_advance 79 = .ok (.if_icmp .ge 134, 3) := by decide +kernel
theorem dX1_advance_82 : decode cX1_advance 82 = .ok (.aload_n 0, 1) := by decide +kernel
theorem dX1_advance_83 : decode cX1_advance 83 = .ok (.aload_n 0, 1) := by decide +kernel
theorem dX1_advance_84 : decode cX1_advance 84 = .ok (.getfield 22, 3) := by decide +kernel
theorem dX1_advance_87 : decode cX1_advance 87 = .ok (.invokevirtual 123, 3) := by decide +kernel
theorem dX1_advance_90 : decode cX1_advance 90 = .ok (.iconst 1, 1) := by decide +kernel
theorem dX1_advance_91 : decode cX1_advance 91 = .ok (.if_icmp .ne 122, 3) := by decide +kernel
theorem dX1_advance_94 : decode cX1_advance 94 = .ok (.aload_n 0, 1) := by decide +kernel
theorem dX1_advance_95 : decode cX1_advance 95 = .ok (.dup, 1) := by decide +kernel
theorem dX1_advance_96 : decode cX1_advance 96 = .ok (.getfield 22, 3) := by decide +kernel
theorem dX1_advance_99 : decode cX1_advance 99 = .ok (.iconst 1, 1) := by decide +kernel
theorem dX1_advance_100 : decode cX1_advance 100 = .ok (.iadd, 1) := by decide +kernel
theorem dX1_advance_101 : decode cX1_advance 101 = .ok (.putfield 22, 3) := by decide +kernel
theorem dX1_advance_104 : decode cX1_advance 104 = .ok (.goto (-33), 3) := by decide +kernel
theorem dX1_advance_107 : decode cX1_advance 107 = .ok (.aload_n 0, 1) := by decide +kernel
theorem dX1_advance_108 : decode cX1_advance 108 = .ok (.getfield 25, 3) := by decide +kernel
theorem dX1_advance_111 : decode cX1_advance 111 = .ok (.iconst 2, 1) := by decide +kernel
theorem dX1_advance_112 : decode cX1_advance 112 = .ok (.if_icmp .ne 84, 3) := by decide +kernel
theorem dX1_advance_115 : decode cX1_advance 115 = .ok (.aload_n 0, 1) := by decide +kernel
theorem dX1_advance_116 : decode cX1_advance 116 = .ok (.getfield 22, 3) := by decide +kernel
theorem dX1_advance_119 : decode cX1_advance 119 = .ok (.aload_n 0, 1) := by decide +kernel
theorem dX1_advance_120 : decode cX1_advance 120 = .ok (.getfield 15, 3) := by decide +kernel
theorem dX1_advance_123 : decode cX1_advance 123 = .ok (.if_icmp .ge 52, 3) := by decide +kernel
theorem dX1_advance_126 : decode cX1_advance 126 = .ok (.aload_n 0, 1) := by decide +kernel
theorem dX1_advance_127 : decode cX1_advance 127 = .ok (.aload_n 0, 1) := by decide +kernel
theorem dX1_advance_128 : decode cX1_advance 128 = .ok (.getfield 22, 3) := by decide +kernel
theorem dX1_advance_131 : decode cX1_advance 131 = .ok (.invokevirtual 123, 3) := by decide +kernel
theorem dX1_advance_134 : decode cX1_advance 134 = .ok (.iconst 2, 1) := by decide +kernel
theorem dX1_advance_135 : decode cX1_advance 135 = .ok (.if_icmp .ne 40, 3) := by decide +kernel
theorem dX1_advance_138 : decode cX1_advance 138 = .ok (.aload_n 0, 1) := by decide +kernel
theorem dX1_advance_139 : decode cX1_advance 139 = .ok (.bipush 10, 2) := by decide +kernel
theorem dX1_advance_141 : decode cX1_advance 141 = .ok (.aload_n 0, 1) := by decide +kernel
theorem dX1_advance_142 : decode cX1_advance 142 = .ok (.getfield 28, 3) := by decide +kernel
theorem dX1_advance_145 : decode cX1_advance 145 = .ok (.imul, 1) := by decide +kernel
theorem dX1_advance_146 : decode cX1_advance 146 = .ok (.aload_n 0, 1) := by decide +kernel
theorem dX1_advance_147 : decode cX1_advance 147 = .ok (.getfield 9, 3) := by decide +kernel
theorem dX1_advance_150 : decode cX1_advance 150 = .ok (.aload_n 0, 1) := by decide +kernel
theorem dX1_advance_151 : decode cX1_advance 151 = .ok (.getfield 22, 3) := by decide +kernel
theorem dX1_advance_154 : decode cX1_advance 154 = .ok (.iaload, 1) := by decide +kernel
theorem dX1_advance_155 : decode cX1_advance 155 = .ok (.iadd, 1) := by decide +kernel
theorem dX1_advance_156 : decode cX1_advance 156 = .ok (.bipush 48, 2) := by decide +kernel
theorem dX1_advance_158 : decode cX1_advance 158 = .ok (.isub, 1) := by decide +kernel
theorem dX1_advance_159 : decode cX1_advance 159 = .ok (.putfield 28, 3) := by decide +kernel
theorem dX1_advance_162 : decode cX1_advance 162 = .ok (.aload_n 0, 1) := by decide +kernel
theorem dX1_advance_163 : decode cX1_advance 163 = .ok (.dup, 1) := by decide +kernel
theorem dX1_advance_164 : decode cX1_advance 164 = .ok (.getfield 22, 3) := by decide +kernel
theorem dX1_advance_167 : decode cX1_advance 167 = .ok (.iconst 1, 1) := by decide +kernel
theorem dX1_advance_168 : decode cX1_advance 168 = .ok (.iadd, 1) := by decide +kernel
theorem dX1_advance_169 : decode cX1_advance 169 = .ok (.putfield 22, 3) := by decide +kernel
theorem dX1_advance_172 : decode cX1_advance 172 = .ok (.goto (-57), 3) := by decide +kernel
theorem dX1_advance_175 : decode cX1_advance 175 = .ok (.aload_n 0, 1) := by decide +kernel
theorem dX1_advance_176 : decode cX1_advance 176 = .ok (.getfield 22, 3) := by decide +kernel
theorem dX1_advance_179 : decode cX1_advance 179 = .ok (.aload_n 0, 1) := by decide +kernel
theorem dX1_advance_180 : decode cX1_advance 180 = .ok (.getfield 19, 3) := by decide +kernel
theorem dX1_advance_183 : decode cX1_advance 183 = .ok (.isub, 1) := by decide +kernel
theorem dX1_advance_184 : decode cX1_advance 184 = .ok (.iconst 2, 1) := by decide +kernel
theorem dX1_advance_185 : decode cX1_advance 185 = .ok (.if_icmp .le 28, 3) := by decide +kernel
theorem dX1_advance_188 : decode cX1_advance 188 = .ok (.aload_n 0, 1) := by decide +kernel
theorem dX1_advance_189 : decode cX1_advance 189 = .ok (.iconst 4, 1) := by decide +kernel
theorem dX1_advance_190 : decode cX1_advance 190 = .ok (.putfield 25, 3) := by decide +kernel
theorem dX1_advance_193 : decode cX1_advance 193 = .ok (.goto 20, 3) := by decide +kernel
theorem dX1_advance_196 : decode cX1_advance 196 = .ok (.aload_n 0, 1) := by decide +kernel
theorem dX1_advance_197 : decode cX1_advance 197 = .ok (.getfield 25, 3) := by decide +kernel
theorem dX1_advance_200 : decode cX1_advance 200 = .ok (.ifCond .eq 13, 3) := by decide +kernel
theorem dX1_advance_203 : decode cX1_advance 203 = .ok (.aload_n 0, 1) := by decide +kernel
theorem dX1_advance_204 : decode cX1_advance 204 = .ok (.dup, 1) := by decide +kernel
theorem dX1_advance_205 : decode cX1_advance 205 = .ok (.getfield 22, 3) := by decide +kernel
theorem dX1_advance_208 : decode cX1_advance 208 = .ok (.iconst 1, 1) := by decide +kernel
theorem dX1_advance_209 : decode cX1_advance 209 = .ok (.iadd, 1) := by decide +kernel
theorem dX1_advance_210 : decode cX1_advance 210 = .ok (.putfield 22, 3) := by decide +kernel
theorem dX1_advance_213 : decode cX1_advance 213 = .ok (.return_, 1) := by decide +kernel
theorem dX1_sortAt_0 : decode cX1_sortAt 0 = .ok (.iload_n 1, 1) := by decide +kernel
theorem dX1_sortAt_1 : decode cX1_sortAt 1 = .ok (.aload_n 0, 1) := by decide +kernel
theorem dX1_sortAt_2 : decode cX1_sortAt 2 = .ok (.getfield 15, 3) := by decide +kernel
theorem dX1_sortAt_5 : decode cX1_sortAt 5 = .ok (.if_icmp .lt 5, 3) := by decide +kernel
theorem dX1_sortAt_8 : decode cX1_sortAt 8 = .ok (.iconst 0, 1) := by decide +kernel
theorem dX1_sortAt_9 : decode cX1_sortAt 9 = .ok (.ireturn, 1) := by decide +kernel
theorem dX1_sortAt_10 : decode cX1_sortAt 10 = .ok (.aload_n 0, 1) := by decide +kernel
theorem dX1_sortAt_11 : decode cX1_sortAt 11 = .ok (.getfield 9, 3) := by decide +kernel
theorem dX1_sortAt_14 : decode cX1_sortAt 14 = .ok (.iload_n 1, 1) := by decide +kernel
theorem dX1_sortAt_15 : decode cX1_sortAt 15 = .ok (.iaload, 1) := by decide +kernel
theorem dX1_sortAt_16 : decode cX1_sortAt 16 = .ok (.istore_n 2, 1) := by decide +kernel
theorem dX1_sortAt_17 : decode cX1_sortAt 17 = .ok (.iload_n 2, 1) := by decide +kernel
theorem dX1_sortAt_18 : decode cX1_sortAt 18 = .ok (.bipush 97, 2) := by decide +kernel
theorem dX1_sortAt_20 : decode cX1_sortAt 20 = .ok (.if_icmp .lt 11, 3) := by decide +kernel
theorem dX1_sortAt_23 : decode cX1_sortAt 23 = .ok (.iload_n 2, 1) := by decide +kernel
theorem dX1_sortAt_24 : decode cX1_sortAt 24 = .ok (.bipush 122, 2) := by decide +kernel
theorem dX1_sortAt_26 : decode cX1_sortAt 26 = .ok (.if_icmp .gt 5, 3) := by decide +kernel
theorem dX1_sortAt_29 : decode cX1_sortAt 29 = .ok (.iconst 1, 1) := by decide +kernel
theorem dX1_sortAt_30 : decode cX1_sortAt 30 = .ok (.ireturn, 1) := by decide +kernel
theorem dX1_sortAt_31 : decode cX1_sortAt 31 = .ok (.iload_n 2, 1) := by decide +kernel
theorem dX1_sortAt_32 : decode cX1_sortAt 32 = .ok (.bipush 48, 2) := by decide +kernel
theorem dX1_sortAt_34 : decode cX1_sortAt 34 = .ok (.if_icmp .lt 11, 3) := by decide +kernel
theorem dX1_sortAt_37 : decode cX1_sortAt 37 = .ok (.iload_n 2, 1) := by decide +kernel
theorem dX1_sortAt_38 : decode cX1_sortAt 38 = .ok (.bipush 57, 2) := by decide +kernel
theorem dX1_sortAt_40 : decode cX1_sortAt 40 = .ok (.if_icmp .gt 5, 3) := by decide +kernel
theorem dX1_sortAt_43 : decode cX1_sortAt 43 = .ok (.iconst 2, 1) := by decide +kernel
theorem dX1_sortAt_44 : decode cX1_sortAt 44 = .ok (.ireturn, 1) := by decide +kernel
theorem dX1_sortAt_45 : decode cX1_sortAt 45 = .ok (.iload_n 2, 1) := by decide +kernel
theorem dX1_sortAt_46 : decode cX1_sortAt 46 = .ok (.bipush 59, 2) := by decide +kernel
theorem dX1_sortAt_48 : decode cX1_sortAt 48 = .ok (.if_icmp .ne 7, 3) := by decide +kernel
theorem dX1_sortAt_51 : decode cX1_sortAt 51 = .ok (.iconst 3, 1) := by decide +kernel
theorem dX1_sortAt_52 : decode cX1_sortAt 52 = .ok (.goto 4, 3) := by decide +kernel
theorem dX1_sortAt_55 : decode cX1_sortAt 55 = .ok (.iconst 4, 1) := by decide +kernel
theorem dX1_sortAt_56 : decode cX1_sortAt 56 = .ok (.ireturn, 1) := by decide +kernel
theorem dX2_init_0 : decode cX2_init 0 = .ok (.aload_n 0, 1) := by decide +kernel
theorem dX2_init_1 : decode cX2_init 1 = .ok (.invokespecial 1, 3) := by decide +kernel
theorem dX2_init_4 : decode cX2_init 4 = .ok (.return_, 1) := by decide +kernel
theorem dX2_lifts_0 : decode cX2_lifts 0 = .ok (.aload_n 0, 1) := by decide +kernel
theorem dX2_lifts_1 : decode cX2_lifts 1 = .ok (.iload_n 1, 1) := by decide +kernel
theorem dX2_lifts_2 : decode cX2_lifts 2 = .ok (.iload_n 2, 1) := by decide +kernel
theorem dX2_lifts_3 : decode cX2_lifts 3 = .ok (.iload_n 3, 1) := by decide +kernel
theorem dX2_lifts_4 : decode cX2_lifts 4 = .ok (.iload 4, 2) := by decide +kernel
theorem dX2_lifts_6 : decode cX2_lifts 6 = .ok (.invokespecial 7, 3) := by decide +kernel
theorem dX2_lifts_9 : decode cX2_lifts 9 = .ok (.ifCond .ne 9, 3) := by decide +kernel
theorem dX2_lifts_12 : decode cX2_lifts 12 = .ok (.iload_n 3, 1) := by decide +kernel
theorem dX2_lifts_13 : decode cX2_lifts 13 = .ok (.bipush 30, 2) := by decide +kernel
theorem dX2_lifts_15 : decode cX2_lifts 15 = .ok (.if_icmp .ge 7, 3) := by decide +kernel
theorem dX2_lifts_18 : decode cX2_lifts 18 = .ok (.iconst 1, 1) := by decide +kernel
theorem dX2_lifts_19 : decode cX2_lifts 19 = .ok (.goto 4, 3) := by decide +kernel
theorem dX2_lifts_22 : decode cX2_lifts 22 = .ok (.iconst 0, 1) := by decide +kernel
theorem dX2_lifts_23 : decode cX2_lifts 23 = .ok (.ireturn, 1) := by decide +kernel
theorem dX2_adds_0 : decode cX2_adds 0 = .ok (.iconst 2, 1) := by decide +kernel
theorem dX2_adds_1 : decode cX2_adds 1 = .ok (.aload_n 0, 1) := by decide +kernel
theorem dX2_adds_2 : decode cX2_adds 2 = .ok (.iload_n 1, 1) := by decide +kernel
theorem dX2_adds_3 : decode cX2_adds 3 = .ok (.invokespecial 11, 3) := by decide +kernel
theorem dX2_adds_6 : decode cX2_adds 6 = .ok (.imul, 1) := by decide +kernel
theorem dX2_adds_7 : decode cX2_adds 7 = .ok (.ireturn, 1) := by decide +kernel
theorem dX3_init_0 : decode cX3_init 0 = .ok (.aload_n 0, 1) := by decide +kernel
theorem dX3_init_1 : decode cX3_init 1 = .ok (.invokespecial 1, 3) := by decide +kernel
theorem dX3_init_4 : decode cX3_init 4 = .ok (.return_, 1) := by decide +kernel
theorem dX3_put_0 : decode cX3_put 0 = .ok (.aload_n 0, 1) := by decide +kernel
theorem dX3_put_1 : decode cX3_put 1 = .ok (.iload_n 1, 1) := by decide +kernel
theorem dX3_put_2 : decode cX3_put 2 = .ok (.putfield 7, 3) := by decide +kernel
theorem dX3_put_5 : decode cX3_put 5 = .ok (.aload_n 0, 1) := by decide +kernel
theorem dX3_put_6 : decode cX3_put 6 = .ok (.iload_n 2, 1) := by decide +kernel
theorem dX3_put_7 : decode cX3_put 7 = .ok (.putfield 13, 3) := by decide +kernel
theorem dX3_put_10 : decode cX3_put 10 = .ok (.aload_n 0, 1) := by decide +kernel
theorem dX3_put_11 : decode cX3_put 11 = .ok (.iload_n 3, 1) := by decide +kernel
theorem dX3_put_12 : decode cX3_put 12 = .ok (.putfield 16, 3) := by decide +kernel
theorem dX3_put_15 : decode cX3_put 15 = .ok (.aload_n 0, 1) := by decide +kernel
theorem dX3_put_16 : decode cX3_put 16 = .ok (.iload 4, 2) := by decide +kernel
theorem dX3_put_18 : decode cX3_put 18 = .ok (.putfield 19, 3) := by decide +kernel
theorem dX3_put_21 : decode cX3_put 21 = .ok (.return_, 1) := by decide +kernel
theorem dX3_feel_0 : decode cX3_feel 0 = .ok (.aload_n 0, 1) := by decide +kernel
theorem dX3_feel_1 : decode cX3_feel 1 = .ok (.iload_n 1, 1) := by decide +kernel
theorem dX3_feel_2 : decode cX3_feel 2 = .ok (.putfield 13, 3) := by decide +kernel
theorem dX3_feel_5 : decode cX3_feel 5 = .ok (.aload_n 0, 1) := by decide +kernel
theorem dX3_feel_6 : decode cX3_feel 6 = .ok (.iload_n 2, 1) := by decide +kernel
theorem dX3_feel_7 : decode cX3_feel 7 = .ok (.putfield 16, 3) := by decide +kernel
theorem dX3_feel_10 : decode cX3_feel 10 = .ok (.return_, 1) := by decide +kernel
theorem dX3_become_0 : decode cX3_become 0 = .ok (.aload_n 0, 1) := by decide +kernel
theorem dX3_become_1 : decode cX3_become 1 = .ok (.aload_n 1, 1) := by decide +kernel
theorem dX3_become_2 : decode cX3_become 2 = .ok (.getfield 7, 3) := by decide +kernel
theorem dX3_become_5 : decode cX3_become 5 = .ok (.aload_n 1, 1) := by decide +kernel
theorem dX3_become_6 : decode cX3_become 6 = .ok (.getfield 13, 3) := by decide +kernel
theorem dX3_become_9 : decode cX3_become 9 = .ok (.aload_n 1, 1) := by decide +kernel
theorem dX3_become_10 : decode cX3_become 10 = .ok (.getfield 16, 3) := by decide +kernel
theorem dX3_become_13 : decode cX3_become 13 = .ok (.aload_n 1, 1) := by decide +kernel
theorem dX3_become_14 : decode cX3_become 14 = .ok (.getfield 19, 3) := by decide +kernel
theorem dX3_become_17 : decode cX3_become 17 = .ok (.invokevirtual 22, 3) := by decide +kernel
theorem dX3_become_20 : decode cX3_become 20 = .ok (.return_, 1) := by decide +kernel
theorem dX3_likesAlone_0 : decode cX3_likesAlone 0 = .ok (.aload_n 0, 1) := by decide +kernel
theorem dX3_likesAlone_1 : decode cX3_likesAlone 1 = .ok (.getfield 13, 3) := by decide +kernel
theorem dX3_likesAlone_4 : decode cX3_likesAlone 4 = .ok (.aload_n 0, 1) := by decide +kernel
theorem dX3_likesAlone_5 : decode cX3_likesAlone 5 = .ok (.getfield 16, 3) := by decide +kernel
theorem dX3_likesAlone_8 : decode cX3_likesAlone 8 = .ok (.iconst (-1), 1) := by decide +kernel
theorem dX3_likesAlone_9 : decode cX3_likesAlone 9 = .ok (.ixor, 1) := by decide +kernel
theorem dX3_likesAlone_10 : decode cX3_likesAlone 10 = .ok (.iand, 1) := by decide +kernel
theorem dX3_likesAlone_11 : decode cX3_likesAlone 11 = .ok (.iconst 1, 1) := by decide +kernel
theorem dX3_likesAlone_12 : decode cX3_likesAlone 12 = .ok (.iload_n 1, 1) := by decide +kernel
theorem dX3_likesAlone_13 : decode cX3_likesAlone 13 = .ok (.ishl, 1) := by decide +kernel
theorem dX3_likesAlone_14 : decode cX3_likesAlone 14 = .ok (.iand, 1) := by decide +kernel
theorem dX3_likesAlone_15 : decode cX3_likesAlone 15 = .ok (.ifCond .eq 7, 3) := by decide +kernel
theorem dX3_likesAlone_18 : decode cX3_likesAlone 18 = .ok (.iconst 1, 1) := by decide +kernel
theorem dX3_likesAlone_19 : decode cX3_likesAlone 19 = .ok (.goto 4, 3) := by decide +kernel
theorem dX3_likesAlone_22 : decode cX3_likesAlone 22 = .ok (.iconst 0, 1) := by decide +kernel
theorem dX3_likesAlone_23 : decode cX3_likesAlone 23 = .ok (.ireturn, 1) := by decide +kernel
theorem dX3_hatesAlone_0 : decode cX3_hatesAlone 0 = .ok (.aload_n 0, 1) := by decide +kernel
theorem dX3_hatesAlone_1 : decode cX3_hatesAlone 1 = .ok (.getfield 16, 3) := by decide +kernel
theorem dX3_hatesAlone_4 : decode cX3_hatesAlone 4 = .ok (.aload_n 0, 1) := by decide +kernel
theorem dX3_hatesAlone_5 : decode cX3_hatesAlone 5 = .ok (.getfield 13, 3) := by decide +kernel
theorem dX3_hatesAlone_8 : decode cX3_hatesAlone 8 = .ok (.iconst (-1), 1) := by decide +kernel
theorem dX3_hatesAlone_9 : decode cX3_hatesAlone 9 = .ok (.ixor, 1) := by decide +kernel
theorem dX3_hatesAlone_10 : decode cX3_hatesAlone 10 = .ok (.iand, 1) := by decide +kernel
theorem dX3_hatesAlone_11 : decode cX3_hatesAlone 11 = .ok (.iconst 1, 1) := by decide +kernel
theorem dX3_hatesAlone_12 : decode cX3_hatesAlone 12 = .ok (.iload_n 1, 1) := by decide +kernel
theorem dX3_hatesAlone_13 : decode cX3_hatesAlone 13 = .ok (.ishl, 1) := by decide +kernel
theorem dX3_hatesAlone_14 : decode cX3_hatesAlone 14 = .ok (.iand, 1) := by decide +kernel
theorem dX3_hatesAlone_15 : decode cX3_hatesAlone 15 = .ok (.ifCond .eq 7, 3) := by decide +kernel
theorem dX3_hatesAlone_18 : decode cX3_hatesAlone 18 = .ok (.iconst 1, 1) := by decide +kernel
theorem dX3_hatesAlone_19 : decode cX3_hatesAlone 19 = .ok (.goto 4, 3) := by decide +kernel
theorem dX3_hatesAlone_22 : decode cX3_hatesAlone 22 = .ok (.iconst 0, 1) := by decide +kernel
theorem dX3_hatesAlone_23 : decode cX3_hatesAlone 23 = .ok (.ireturn, 1) := by decide +kernel
theorem dX3_addTo_0 : decode cX3_addTo 0 = .ok (.ldc2_w 26, 3) := by decide +kernel
theorem dX3_addTo_3 : decode cX3_addTo 3 = .ok (.lload_n 1, 1) := by decide +kernel
theorem dX3_addTo_4 : decode cX3_addTo 4 = .ok (.lmul, 1) := by decide +kernel
theorem dX3_addTo_5 : decode cX3_addTo 5 = .ok (.aload_n 0, 1) := by decide +kernel
theorem dX3_addTo_6 : decode cX3_addTo 6 = .ok (.getfield 7, 3) := by decide +kernel
theorem dX3_addTo_9 : decode cX3_addTo 9 = .ok (.i2l, 1) := by decide +kernel
theorem dX3_addTo_10 : decode cX3_addTo 10 = .ok (.ladd, 1) := by decide +kernel
theorem dX3_addTo_11 : decode cX3_addTo 11 = .ok (.lstore_n 3, 1) := by decide +kernel
theorem dX3_addTo_12 : decode cX3_addTo 12 = .ok (.ldc2_w 26, 3) := by decide +kernel
theorem dX3_addTo_15 : decode cX3_addTo 15 = .ok (.lload_n 3, 1) := by decide +kernel
theorem dX3_addTo_16 : decode cX3_addTo 16 = .ok (.lmul, 1) := by decide +kernel
theorem dX3_addTo_17 : decode cX3_addTo 17 = .ok (.aload_n 0, 1) := by decide +kernel
theorem dX3_addTo_18 : decode cX3_addTo 18 = .ok (.getfield 13, 3) := by decide +kernel
theorem dX3_addTo_21 : decode cX3_addTo 21 = .ok (.i2l, 1) := by decide +kernel
theorem dX3_addTo_22 : decode cX3_addTo 22 = .ok (.ladd, 1) := by decide +kernel
theorem dX3_addTo_23 : decode cX3_addTo 23 = .ok (.lstore_n 3, 1) := by decide +kernel
theorem dX3_addTo_24 : decode cX3_addTo 24 = .ok (.ldc2_w 26, 3) := by decide +kernel
theorem dX3_addTo_27 : decode cX3_addTo 27 = .ok (.lload_n 3, 1) := by decide +kernel
theorem dX3_addTo_28 : decode cX3_addTo 28 = .ok (.lmul, 1) := by decide +kernel
theorem dX3_addTo_29 : decode cX3_addTo 29 = .ok (.aload_n 0, 1) := by decide +kernel
theorem dX3_addTo_30 : decode cX3_addTo 30 = .ok (.getfield 16, 3) := by decide +kernel
theorem dX3_addTo_33 : decode cX3_addTo 33 = .ok (.i2l, 1) := by decide +kernel
theorem dX3_addTo_34 : decode cX3_addTo 34 = .ok (.ladd, 1) := by decide +kernel
theorem dX3_addTo_35 : decode cX3_addTo 35 = .ok (.lstore_n 3, 1) := by decide +kernel
theorem dX3_addTo_36 : decode cX3_addTo 36 = .ok (.ldc2_w 26, 3) := by decide +kernel
theorem dX3_addTo_39 : decode cX3_addTo 39 = .ok (.lload_n 3, 1) := by decide +kernel
theorem dX3_addTo_40 : decode cX3_addTo 40 = .ok (.lmul, 1) := by decide +kernel
theorem dX3_addTo_41 : decode cX3_addTo 41 = .ok (.aload_n 0, 1) := by decide +kernel
theorem dX3_addTo_42 : decode cX3_addTo 42 = .ok (.getfield 19, 3) := by decide +kernel
theorem dX3_addTo_45 : decode cX3_addTo 45 = .ok (.i2l, 1) := by decide +kernel
theorem dX3_addTo_46 : decode cX3_addTo 46 = .ok (.ladd, 1) := by decide +kernel
theorem dX3_addTo_47 : decode cX3_addTo 47 = .ok (.lreturn, 1) := by decide +kernel
theorem dX4_init_0 : decode cX4_init 0 = .ok (.aload_n 0, 1) := by decide +kernel
theorem dX4_init_1 : decode cX4_init 1 = .ok (.invokespecial 1, 3) := by decide +kernel
theorem dX4_init_4 : decode cX4_init 4 = .ok (.return_, 1) := by decide +kernel
theorem dX4_adds_0 : decode cX4_adds 0 = .ok (.aload_n 0, 1) := by decide +kernel
theorem dX4_adds_1 : decode cX4_adds 1 = .ok (.iload_n 1, 1) := by decide +kernel
theorem dX4_adds_2 : decode cX4_adds 2 = .ok (.invokespecial 7, 3) := by decide +kernel
theorem dX4_adds_5 : decode cX4_adds 5 = .ok (.iconst 3, 1) := by decide +kernel
theorem dX4_adds_6 : decode cX4_adds 6 = .ok (.isub, 1) := by decide +kernel
theorem dX4_adds_7 : decode cX4_adds 7 = .ok (.ireturn, 1) := by decide +kernel
theorem dX5_init_0 : decode cX5_init 0 = .ok (.aload_n 0, 1) := by decide +kernel
theorem dX5_init_1 : decode cX5_init 1 = .ok (.invokespecial 3, 3) := by decide +kernel
theorem dX5_init_4 : decode cX5_init 4 = .ok (.aload_n 0, 1) := by decide +kernel
theorem dX5_init_5 : decode cX5_init 5 = .ok (.bipush 50, 2) := by decide +kernel
theorem dX5_init_7 : decode cX5_init 7 = .ok (.putfield 9, 3) := by decide +kernel
theorem dX5_init_10 : decode cX5_init 10 = .ok (.aload_n 0, 1) := by decide +kernel
theorem dX5_init_11 : decode cX5_init 11 = .ok (.iconst 0, 1) := by decide +kernel
theorem dX5_init_12 : decode cX5_init 12 = .ok (.putfield 15, 3) := by decide +kernel
theorem dX5_init_15 : decode cX5_init 15 = .ok (.aload_n 0, 1) := by decide +kernel
theorem dX5_init_16 : decode cX5_init 16 = .ok (.iconst 0, 1) := by decide +kernel
theorem dX5_init_17 : decode cX5_init 17 = .ok (.putfield 18, 3) := by decide +kernel
theorem dX5_init_20 : decode cX5_init 20 = .ok (.aload_n 0, 1) := by decide +kernel
theorem dX5_init_21 : decode cX5_init 21 = .ok (.iconst (-1), 1) := by decide +kernel
theorem dX5_init_22 : decode cX5_init 22 = .ok (.putfield 21, 3) := by decide +kernel
theorem dX5_init_25 : decode cX5_init 25 = .ok (.aload_n 0, 1) := by decide +kernel
theorem dX5_init_26 : decode cX5_init 26 = .ok (.iconst (-1), 1) := by decide +kernel
theorem dX5_init_27 : decode cX5_init 27 = .ok (.putfield 24, 3) := by decide +kernel
theorem dX5_init_30 : decode cX5_init 30 = .ok (.return_, 1) := by decide +kernel
theorem dX5_begin_0 : decode cX5_begin 0 = .ok (.aload_n 0, 1) := by decide +kernel
theorem dX5_begin_1 : decode cX5_begin 1 = .ok (.iload_n 1, 1) := by decide +kernel
theorem dX5_begin_2 : decode cX5_begin 2 = .ok (.putfield 9, 3) := by decide +kernel
theorem dX5_begin_5 : decode cX5_begin 5 = .ok (.aload_n 0, 1) := by decide +kernel
theorem dX5_begin_6 : decode cX5_begin 6 = .ok (.iconst 0, 1) := by decide +kernel
theorem dX5_begin_7 : decode cX5_begin 7 = .ok (.putfield 15, 3) := by decide +kernel
theorem dX5_begin_10 : decode cX5_begin 10 = .ok (.aload_n 0, 1) := by decide +kernel
theorem dX5_begin_11 : decode cX5_begin 11 = .ok (.iconst 0, 1) := by decide +kernel
theorem dX5_begin_12 : decode cX5_begin 12 = .ok (.putfield 18, 3) := by decide +kernel
theorem dX5_begin_15 : decode cX5_begin 15 = .ok (.aload_n 0, 1) := by decide +kernel
theorem dX5_begin_16 : decode cX5_begin 16 = .ok (.iconst (-1), 1) := by decide +kernel
theorem dX5_begin_17 : decode cX5_begin 17 = .ok (.putfield 21, 3) := by decide +kernel
theorem dX5_begin_20 : decode cX5_begin 20 = .ok (.aload_n 0, 1) := by decide +kernel
theorem dX5_begin_21 : decode cX5_begin 21 = .ok (.iconst (-1), 1) := by decide +kernel
theorem dX5_begin_22 : decode cX5_begin 22 = .ok (.putfield 24, 3) := by decide +kernel
theorem dX5_begin_25 : decode cX5_begin 25 = .ok (.return_, 1) := by decide +kernel
theorem dX5_become_0 : decode cX5_become 0 = .ok (.aload_n 0, 1) := by decide +kernel
theorem dX5_become_1 : decode cX5_become 1 = .ok (.aload_n 1, 1) := by decide +kernel
theorem dX5_become_2 : decode cX5_become 2 = .ok (.getfield 9, 3) := by decide +kernel
theorem dX5_become_5 : decode cX5_become 5 = .ok (.putfield 9, 3) := by decide +kernel
theorem dX5_become_8 : decode cX5_become 8 = .ok (.aload_n 0, 1) := by decide +kernel
theorem dX5_become_9 : decode cX5_become 9 = .ok (.aload_n 1, 1) := by decide +kernel
theorem dX5_become_10 : decode cX5_become 10 = .ok (.getfield 15, 3) := by decide +kernel
theorem dX5_become_13 : decode cX5_become 13 = .ok (.putfield 15, 3) := by decide +kernel
theorem dX5_become_16 : decode cX5_become 16 = .ok (.aload_n 0, 1) := by decide +kernel
theorem dX5_become_17 : decode cX5_become 17 = .ok (.aload_n 1, 1) := by decide +kernel
theorem dX5_become_18 : decode cX5_become 18 = .ok (.getfield 18, 3) := by decide +kernel
theorem dX5_become_21 : decode cX5_become 21 = .ok (.putfield 18, 3) := by decide +kernel
theorem dX5_become_24 : decode cX5_become 24 = .ok (.aload_n 0, 1) := by decide +kernel
theorem dX5_become_25 : decode cX5_become 25 = .ok (.aload_n 1, 1) := by decide +kernel
theorem dX5_become_26 : decode cX5_become 26 = .ok (.getfield 21, 3) := by decide +kernel
theorem dX5_become_29 : decode cX5_become 29 = .ok (.putfield 21, 3) := by decide +kernel
theorem dX5_become_32 : decode cX5_become 32 = .ok (.aload_n 0, 1) := by decide +kernel
theorem dX5_become_33 : decode cX5_become 33 = .ok (.aload_n 1, 1) := by decide +kernel
theorem dX5_become_34 : decode cX5_become 34 = .ok (.getfield 24, 3) := by decide +kernel
theorem dX5_become_37 : decode cX5_become 37 = .ok (.putfield 24, 3) := by decide +kernel
theorem dX5_become_40 : decode cX5_become 40 = .ok (.return_, 1) := by decide +kernel
theorem dX5_warm_0 : decode cX5_warm 0 = .ok (.aload_n 0, 1) := by decide +kernel
theorem dX5_warm_1 : decode cX5_warm 1 = .ok (.iconst 0, 1) := by decide +kernel
theorem dX5_warm_2 : decode cX5_warm 2 = .ok (.bipush 99, 2) := by decide +kernel
theorem dX5_warm_4 : decode cX5_warm 4 = .ok (.aload_n 0, 1) := by decide +kernel
theorem dX5_warm_5 : decode cX5_warm 5 = .ok (.getfield 9, 3) := by decide +kernel
theorem dX5_warm_8 : decode cX5_warm 8 = .ok (.iload_n 1, 1) := by decide +kernel
theorem dX5_warm_9 : decode cX5_warm 9 = .ok (.iadd, 1) := by decide +kernel
theorem dX5_warm_10 : decode cX5_warm 10 = .ok (.invokestatic 27, 3) := by decide +kernel
theorem dX5_warm_13 : decode cX5_warm 13 = .ok (.invokestatic 33, 3) := by decide +kernel
theorem dX5_warm_16 : decode cX5_warm 16 = .ok (.putfield 9, 3) := by decide +kernel
theorem dX5_warm_19 : decode cX5_warm 19 = .ok (.return_, 1) := by decide +kernel
theorem dX5_pass_0 : decode cX5_pass 0 = .ok (.iconst 0, 1) := by decide +kernel
theorem dX5_pass_1 : decode cX5_pass 1 = .ok (.istore_n 3, 1) := by decide +kernel
theorem dX5_pass_2 : decode cX5_pass 2 = .ok (.iload_n 3, 1) := by decide +kernel
theorem dX5_pass_3 : decode cX5_pass 3 = .ok (.iload_n 1, 1) := by decide +kernel
theorem dX5_pass_4 : decode cX5_pass 4 = .ok (.if_icmp .ge 14, 3) := by decide +kernel
theorem dX5_pass_7 : decode cX5_pass 7 = .ok (.aload_n 0, 1) := by decide +kernel
theorem dX5_pass_8 : decode cX5_pass 8 = .ok (.iload_n 2, 1) := by decide +kernel
theorem dX5_pass_9 : decode cX5_pass 9 = .ok (.invokevirtual 36, 3) := by decide +kernel
theorem dX5_pass_12 : decode cX5_pass 12 = .ok (.iinc 3 1, 3) := by decide +kernel
theorem dX5_pass_15 : decode cX5_pass 15 = .ok (.goto (-13), 3) := by decide +kernel
theorem dX5_pass_18 : decode cX5_pass 18 = .ok (.aload_n 0, 1) := by decide +kernel
theorem dX5_pass_19 : decode cX5_pass 19 = .ok (.dup, 1) := by decide +kernel
theorem dX5_pass_20 : decode cX5_pass 20 = .ok (.getfield 15, 3) := by decide +kernel
theorem dX5_pass_23 : decode cX5_pass 23 = .ok (.iload_n 1, 1) := by decide +kernel
theorem dX5_pass_24 : decode cX5_pass 24 = .ok (.iadd, 1) := by decide +kernel
theorem dX5_pass_25 : decode cX5_pass 25 = .ok (.putfield 15, 3) := by decide +kernel
theorem dX5_pass_28 : decode cX5_pass 28 = .ok (.return_, 1) := by decide +kernel
theorem dX5_friendly_0 : decode cX5_friendly 0 = .ok (.aload_n 0, 1) := by decide +kernel
theorem dX5_friendly_1 : decode cX5_friendly 1 = .ok (.getfield 9, 3) := by decide +kernel
theorem dX5_friendly_4 : decode cX5_friendly 4 = .ok (.bipush 10, 2) := by decide +kernel
theorem dX5_friendly_6 : decode cX5_friendly 6 = .ok (.if_icmp .ge 7, 3) := by decide +kernel
theorem dX5_friendly_9 : decode cX5_friendly 9 = .ok (.iconst 1, 1) := by decide +kernel
theorem dX5_friendly_10 : decode cX5_friendly 10 = .ok (.goto 4, 3) := by decide +kernel
theorem dX5_friendly_13 : decode cX5_friendly 13 = .ok (.iconst 0, 1) := by decide +kernel
theorem dX5_friendly_14 : decode cX5_friendly 14 = .ok (.ireturn, 1) := by decide +kernel
theorem dX5_isDone_0 : decode cX5_isDone 0 = .ok (.aload_n 0, 1) := by decide +kernel
theorem dX5_isDone_1 : decode cX5_isDone 1 = .ok (.getfield 18, 3) := by decide +kernel
theorem dX5_isDone_4 : decode cX5_isDone 4 = .ok (.iconst 1, 1) := by decide +kernel
theorem dX5_isDone_5 : decode cX5_isDone 5 = .ok (.iload_n 1, 1) := by decide +kernel
theorem dX5_isDone_6 : decode cX5_isDone 6 = .ok (.ishl, 1) := by decide +kernel
theorem dX5_isDone_7 : decode cX5_isDone 7 = .ok (.iand, 1) := by decide +kernel
theorem dX5_isDone_8 : decode cX5_isDone 8 = .ok (.ifCond .eq 7, 3) := by decide +kernel
theorem dX5_isDone_11 : decode cX5_isDone 11 = .ok (.iconst 1, 1) := by decide +kernel
theorem dX5_isDone_12 : decode cX5_isDone 12 = .ok (.goto 4, 3) := by decide +kernel
theorem dX5_isDone_15 : decode cX5_isDone 15 = .ok (.iconst 0, 1) := by decide +kernel
theorem dX5_isDone_16 : decode cX5_isDone 16 = .ok (.ireturn, 1) := by decide +kernel
theorem dX5_sideOf_0 : decode cX5_sideOf 0 = .ok (.iload_n 1, 1) := by decide +kernel
theorem dX5_sideOf_1 : decode cX5_sideOf 1 = .ok (.aload_n 0, 1) := by decide +kernel
theorem dX5_sideOf_2 : decode cX5_sideOf 2 = .ok (.getfield 21, 3) := by decide +kernel
theorem dX5_sideOf_5 : decode cX5_sideOf 5 = .ok (.if_icmp .ne 5, 3) := by decide +kernel
theorem dX5_sideOf_8 : decode cX5_sideOf 8 = .ok (.iconst 1, 1) := by decide +kernel
theorem dX5_sideOf_9 : decode cX5_sideOf 9 = .ok (.ireturn, 1) := by decide +kernel
theorem dX5_sideOf_10 : decode cX5_sideOf 10 = .ok (.iload_n 1, 1) := by decide +kernel
theorem dX5_sideOf_11 : decode cX5_sideOf 11 = .ok (.aload_n 0, 1) := by decide +kernel
theorem dX5_sideOf_12 : decode cX5_sideOf 12 = .ok (.getfield 24, 3) := by decide +kernel
theorem dX5_sideOf_15 : decode cX5_sideOf 15 = .ok (.if_icmp .ne 7, 3) := by decide +kernel
theorem dX5_sideOf_18 : decode cX5_sideOf 18 = .ok (.iconst 2, 1) := by decide +kernel
theorem dX5_sideOf_19 : decode cX5_sideOf 19 = .ok (.goto 4, 3) := by decide +kernel
theorem dX5_sideOf_22 : decode cX5_sideOf 22 = .ok (.iconst 0, 1) := by decide +kernel
theorem dX5_sideOf_23 : decode cX5_sideOf 23 = .ok (.ireturn, 1) := by decide +kernel
theorem dX6_init_0 : decode cX6_init 0 = .ok (.aload_n 0, 1) := by decide +kernel
theorem dX6_init_1 : decode cX6_init 1 = .ok (.invokespecial 1, 3) := by decide +kernel
theorem dX6_init_4 : decode cX6_init 4 = .ok (.return_, 1) := by decide +kernel
theorem dX6_put_0 : decode cX6_put 0 = .ok (.aload_n 0, 1) := by decide +kernel
theorem dX6_put_1 : decode cX6_put 1 = .ok (.iload_n 1, 1) := by decide +kernel
theorem dX6_put_2 : decode cX6_put 2 = .ok (.putfield 7, 3) := by decide +kernel
theorem dX6_put_5 : decode cX6_put 5 = .ok (.aload_n 0, 1) := by decide +kernel
theorem dX6_put_6 : decode cX6_put 6 = .ok (.iload_n 2, 1) := by decide +kernel
theorem dX6_put_7 : decode cX6_put 7 = .ok (.putfield 13, 3) := by decide +kernel
theorem dX6_put_10 : decode cX6_put 10 = .ok (.aload_n 0, 1) := by decide +kernel
theorem dX6_put_11 : decode cX6_put 11 = .ok (.iload_n 3, 1) := by decide +kernel
theorem dX6_put_12 : decode cX6_put 12 = .ok (.putfield 16, 3) := by decide +kernel
theorem dX6_put_15 : decode cX6_put 15 = .ok (.aload_n 0, 1) := by decide +kernel
theorem dX6_put_16 : decode cX6_put 16 = .ok (.iload 4, 2) := by decide +kernel
theorem dX6_put_18 : decode cX6_put 18 = .ok (.putfield 19, 3) := by decide +kernel
theorem dX6_put_21 : decode cX6_put 21 = .ok (.aload_n 0, 1) := by decide +kernel
theorem dX6_put_22 : decode cX6_put 22 = .ok (.iload 5, 2) := by decide +kernel
theorem dX6_put_24 : decode cX6_put 24 = .ok (.putfield 22, 3) := by decide +kernel
theorem dX6_put_27 : decode cX6_put 27 = .ok (.return_, 1) := by decide +kernel
theorem dX6_become_0 : decode cX6_become 0 = .ok (.aload_n 0, 1) := by decide +kernel
theorem dX6_become_1 : decode cX6_become 1 = .ok (.aload_n 1, 1) := by decide +kernel
theorem dX6_become_2 : decode cX6_become 2 = .ok (.getfield 7, 3) := by decide +kernel
theorem dX6_become_5 : decode cX6_become 5 = .ok (.aload_n 1, 1) := by decide +kernel
theorem dX6_become_6 : decode cX6_become 6 = .ok (.getfield 13, 3) := by decide +kernel
theorem dX6_become_9 : decode cX6_become 9 = .ok (.aload_n 1, 1) := by decide +kernel
theorem dX6_become_10 : decode cX6_become 10 = .ok (.getfield 16, 3) := by decide +kernel
theorem dX6_become_13 : decode cX6_become 13 = .ok (.aload_n 1, 1) := by decide +kernel
theorem dX6_become_14 : decode cX6_become 14 = .ok (.getfield 19, 3) := by decide +kernel
theorem dX6_become_17 : decode cX6_become 17 = .ok (.aload_n 1, 1) := by decide +kernel
theorem dX6_become_18 : decode cX6_become 18 = .ok (.getfield 22, 3) := by decide +kernel
theorem dX6_become_21 : decode cX6_become 21 = .ok (.invokevirtual 25, 3) := by decide +kernel
theorem dX6_become_24 : decode cX6_become 24 = .ok (.return_, 1) := by decide +kernel
theorem dX6_addTo_0 : decode cX6_addTo 0 = .ok (.ldc2_w 29, 3) := by decide +kernel
theorem dX6_addTo_3 : decode cX6_addTo 3 = .ok (.lload_n 1, 1) := by decide +kernel
theorem dX6_addTo_4 : decode cX6_addTo 4 = .ok (.lmul, 1) := by decide +kernel
theorem dX6_addTo_5 : decode cX6_addTo 5 = .ok (.aload_n 0, 1) := by decide +kernel
theorem dX6_addTo_6 : decode cX6_addTo 6 = .ok (.getfield 7, 3) := by decide +kernel
theorem dX6_addTo_9 : decode cX6_addTo 9 = .ok (.i2l, 1) := by decide +kernel
theorem dX6_addTo_10 : decode cX6_addTo 10 = .ok (.ladd, 1) := by decide +kernel
theorem dX6_addTo_11 : decode cX6_addTo 11 = .ok (.lstore_n 3, 1) := by decide +kernel
theorem dX6_addTo_12 : decode cX6_addTo 12 = .ok (.ldc2_w 29, 3) := by decide +kernel
theorem dX6_addTo_15 : decode cX6_addTo 15 = .ok (.lload_n 3, 1) := by decide +kernel
theorem dX6_addTo_16 : decode cX6_addTo 16 = .ok (.lmul, 1) := by decide +kernel
theorem dX6_addTo_17 : decode cX6_addTo 17 = .ok (.aload_n 0, 1) := by decide +kernel
theorem dX6_addTo_18 : decode cX6_addTo 18 = .ok (.getfield 13, 3) := by decide +kernel
theorem dX6_addTo_21 : decode cX6_addTo 21 = .ok (.i2l, 1) := by decide +kernel
theorem dX6_addTo_22 : decode cX6_addTo 22 = .ok (.ladd, 1) := by decide +kernel
theorem dX6_addTo_23 : decode cX6_addTo 23 = .ok (.lstore_n 3, 1) := by decide +kernel
theorem dX6_addTo_24 : decode cX6_addTo 24 = .ok (.ldc2_w 29, 3) := by decide +kernel
theorem dX6_addTo_27 : decode cX6_addTo 27 = .ok (.lload_n 3, 1) := by decide +kernel
theorem dX6_addTo_28 : decode cX6_addTo 28 = .ok (.lmul, 1) := by decide +kernel
theorem dX6_addTo_29 : decode cX6_addTo 29 = .ok (.aload_n 0, 1) := by decide +kernel
theorem dX6_addTo_30 : decode cX6_addTo 30 = .ok (.getfield 16, 3) := by decide +kernel
theorem dX6_addTo_33 : decode cX6_addTo 33 = .ok (.i2l, 1) := by decide +kernel
theorem dX6_addTo_34 : decode cX6_addTo 34 = .ok (.ladd, 1) := by decide +kernel
theorem dX6_addTo_35 : decode cX6_addTo 35 = .ok (.lstore_n 3, 1) := by decide +kernel
theorem dX6_addTo_36 : decode cX6_addTo 36 = .ok (.ldc2_w 29, 3) := by decide +kernel
theorem dX6_addTo_39 : decode cX6_addTo 39 = .ok (.lload_n 3, 1) := by decide +kernel
theorem dX6_addTo_40 : decode cX6_addTo 40 = .ok (.lmul, 1) := by decide +kernel
theorem dX6_addTo_41 : decode cX6_addTo 41 = .ok (.aload_n 0, 1) := by decide +kernel
theorem dX6_addTo_42 : decode cX6_addTo 42 = .ok (.getfield 19, 3) := by decide +kernel
theorem dX6_addTo_45 : decode cX6_addTo 45 = .ok (.i2l, 1) := by decide +kernel
theorem dX6_addTo_46 : decode cX6_addTo 46 = .ok (.ladd, 1) := by decide +kernel
theorem dX6_addTo_47 : decode cX6_addTo 47 = .ok (.lstore_n 3, 1) := by decide +kernel
theorem dX6_addTo_48 : decode cX6_addTo 48 = .ok (.ldc2_w 29, 3) := by decide +kernel
theorem dX6_addTo_51 : decode cX6_addTo 51 = .ok (.lload_n 3, 1) := by decide +kernel
theorem dX6_addTo_52 : decode cX6_addTo 52 = .ok (.lmul, 1) := by decide +kernel
theorem dX6_addTo_53 : decode cX6_addTo 53 = .ok (.aload_n 0, 1) := by decide +kernel
theorem dX6_addTo_54 : decode cX6_addTo 54 = .ok (.getfield 22, 3) := by decide +kernel
theorem dX6_addTo_57 : decode cX6_addTo 57 = .ok (.i2l, 1) := by decide +kernel
theorem dX6_addTo_58 : decode cX6_addTo 58 = .ok (.ladd, 1) := by decide +kernel
theorem dX6_addTo_59 : decode cX6_addTo 59 = .ok (.lreturn, 1) := by decide +kernel
theorem dX7_init_0 : decode cX7_init 0 = .ok (.aload_n 0, 1) := by decide +kernel
theorem dX7_init_1 : decode cX7_init 1 = .ok (.invokespecial 1, 3) := by decide +kernel
theorem dX7_init_4 : decode cX7_init 4 = .ok (.return_, 1) := by decide +kernel
theorem dX7_lifts_0 : decode cX7_lifts 0 = .ok (.iload_n 1, 1) := by decide +kernel
theorem dX7_lifts_1 : decode cX7_lifts 1 = .ok (.ifCond .ne 13, 3) := by decide +kernel
theorem dX7_lifts_4 : decode cX7_lifts 4 = .ok (.iload_n 2, 1) := by decide +kernel
theorem dX7_lifts_5 : decode cX7_lifts 5 = .ok (.ifCond .ne 13, 3) := by decide +kernel
theorem dX7_lifts_8 : decode cX7_lifts 8 = .ok (.iload_n 3, 1) := by decide +kernel
theorem dX7_lifts_9 : decode cX7_lifts 9 = .ok (.bipush 60, 2) := by decide +kernel
theorem dX7_lifts_11 : decode cX7_lifts 11 = .ok (.if_icmp .ge 7, 3) := by decide +kernel
theorem dX7_lifts_14 : decode cX7_lifts 14 = .ok (.iconst 1, 1) := by decide +kernel
theorem dX7_lifts_15 : decode cX7_lifts 15 = .ok (.goto 4, 3) := by decide +kernel
theorem dX7_lifts_18 : decode cX7_lifts 18 = .ok (.iconst 0, 1) := by decide +kernel
theorem dX7_lifts_19 : decode cX7_lifts 19 = .ok (.ireturn, 1) := by decide +kernel
theorem dX7_adds_0 : decode cX7_adds 0 = .ok (.iload_n 1, 1) := by decide +kernel
theorem dX7_adds_1 : decode cX7_adds 1 = .ok (.iconst 5, 1) := by decide +kernel
theorem dX7_adds_2 : decode cX7_adds 2 = .ok (.idiv, 1) := by decide +kernel
theorem dX7_adds_3 : decode cX7_adds 3 = .ok (.ireturn, 1) := by decide +kernel
theorem dX8_init_0 : decode cX8_init 0 = .ok (.aload_n 0, 1) := by decide +kernel
theorem dX8_init_1 : decode cX8_init 1 = .ok (.invokespecial 1, 3) := by decide +kernel
theorem dX8_init_4 : decode cX8_init 4 = .ok (.return_, 1) := by decide +kernel
theorem dX8_lifts_0 : decode cX8_lifts 0 = .ok (.iload_n 1, 1) := by decide +kernel
theorem dX8_lifts_1 : decode cX8_lifts 1 = .ok (.ireturn, 1) := by decide +kernel
theorem dX9_init_0 : decode cX9_init 0 = .ok (.aload_n 0, 1) := by decide +kernel
theorem dX9_init_1 : decode cX9_init 1 = .ok (.invokespecial 1, 3) := by decide +kernel
theorem dX9_init_4 : decode cX9_init 4 = .ok (.return_, 1) := by decide +kernel
theorem dX9_lifts_0 : decode cX9_lifts 0 = .ok (.aload_n 0, 1) := by decide +kernel
theorem dX9_lifts_1 : decode cX9_lifts 1 = .ok (.iload_n 1, 1) := by decide +kernel
theorem dX9_lifts_2 : decode cX9_lifts 2 = .ok (.iload_n 2, 1) := by decide +kernel
theorem dX9_lifts_3 : decode cX9_lifts 3 = .ok (.iload_n 3, 1) := by decide +kernel
theorem dX9_lifts_4 : decode cX9_lifts 4 = .ok (.iload 4, 2) := by decide +kernel
theorem dX9_lifts_6 : decode cX9_lifts 6 = .ok (.invokespecial 7, 3) := by decide +kernel
theorem dX9_lifts_9 : decode cX9_lifts 9 = .ok (.ifCond .eq 13, 3) := by decide +kernel
theorem dX9_lifts_12 : decode cX9_lifts 12 = .ok (.iload_n 3, 1) := by decide +kernel
theorem dX9_lifts_13 : decode cX9_lifts 13 = .ok (.bipush 80, 2) := by decide +kernel
theorem dX9_lifts_15 : decode cX9_lifts 15 = .ok (.if_icmp .ge 7, 3) := by decide +kernel
theorem dX9_lifts_18 : decode cX9_lifts 18 = .ok (.iconst 1, 1) := by decide +kernel
theorem dX9_lifts_19 : decode cX9_lifts 19 = .ok (.goto 4, 3) := by decide +kernel
theorem dX9_lifts_22 : decode cX9_lifts 22 = .ok (.iconst 0, 1) := by decide +kernel
theorem dX9_lifts_23 : decode cX9_lifts 23 = .ok (.ireturn, 1) := by decide +kernel
theorem dX9_adds_0 : decode cX9_adds 0 = .ok (.aload_n 0, 1) := by decide +kernel
theorem dX9_adds_1 : decode cX9_adds 1 = .ok (.iload_n 1, 1) := by decide +kernel
theorem dX9_adds_2 : decode cX9_adds 2 = .ok (.invokespecial 11, 3) := by decide +kernel
theorem dX9_adds_5 : decode cX9_adds 5 = .ok (.iconst 1, 1) := by decide +kernel
theorem dX9_adds_6 : decode cX9_adds 6 = .ok (.iadd, 1) := by decide +kernel
theorem dX9_adds_7 : decode cX9_adds 7 = .ok (.ireturn, 1) := by decide +kernel
theorem dX10_init_0 : decode cX10_init 0 = .ok (.aload_n 0, 1) := by decide +kernel
theorem dX10_init_1 : decode cX10_init 1 = .ok (.invokespecial 1, 3) := by decide +kernel
theorem dX10_init_4 : decode cX10_init 4 = .ok (.return_, 1) := by decide +kernel
theorem dX10_lifts_0 : decode cX10_lifts 0 = .ok (.aload_n 0, 1) := by decide +kernel
theorem dX10_lifts_1 : decode cX10_lifts 1 = .ok (.iload_n 1, 1) := by decide +kernel
theorem dX10_lifts_2 : decode cX10_lifts 2 = .ok (.iload_n 2, 1) := by decide +kernel
theorem dX10_lifts_3 : decode cX10_lifts 3 = .ok (.iload_n 3, 1) := by decide +kernel
theorem dX10_lifts_4 : decode cX10_lifts 4 = .ok (.iload 4, 2) := by decide +kernel
theorem dX10_lifts_6 : decode cX10_lifts 6 = .ok (.invokespecial 7, 3) := by decide +kernel
theorem dX10_lifts_9 : decode cX10_lifts 9 = .ok (.ifCond .ne 11, 3) := by decide +kernel
theorem dX10_lifts_12 : decode cX10_lifts 12 = .ok (.iload 4, 2) := by decide +kernel
theorem dX10_lifts_14 : decode cX10_lifts 14 = .ok (.bipush 7, 2) := by decide +kernel
theorem dX10_lifts_16 : decode cX10_lifts 16 = .ok (.irem, 1) := by decide +kernel
theorem dX10_lifts_17 : decode cX10_lifts 17 = .ok (.ifCond .ne 7, 3) := by decide +kernel
theorem dX10_lifts_20 : decode cX10_lifts 20 = .ok (.iconst 1, 1) := by decide +kernel
theorem dX10_lifts_21 : decode cX10_lifts 21 = .ok (.goto 4, 3) := by decide +kernel
theorem dX10_lifts_24 : decode cX10_lifts 24 = .ok (.iconst 0, 1) := by decide +kernel
theorem dX10_lifts_25 : decode cX10_lifts 25 = .ok (.ireturn, 1) := by decide +kernel
theorem dX10_adds_0 : decode cX10_adds 0 = .ok (.aload_n 0, 1) := by decide +kernel
theorem dX10_adds_1 : decode cX10_adds 1 = .ok (.iload_n 1, 1) := by decide +kernel
theorem dX10_adds_2 : decode cX10_adds 2 = .ok (.invokespecial 11, 3) := by decide +kernel
theorem dX10_adds_5 : decode cX10_adds 5 = .ok (.iconst 2, 1) := by decide +kernel
theorem dX10_adds_6 : decode cX10_adds 6 = .ok (.idiv, 1) := by decide +kernel
theorem dX10_adds_7 : decode cX10_adds 7 = .ok (.ireturn, 1) := by decide +kernel
theorem dX11_init_0 : decode cX11_init 0 = .ok (.aload_n 0, 1) := by decide +kernel
theorem dX11_init_1 : decode cX11_init 1 = .ok (.invokespecial 1, 3) := by decide +kernel
theorem dX11_init_4 : decode cX11_init 4 = .ok (.aload_n 0, 1) := by decide +kernel
theorem dX11_init_5 : decode cX11_init 5 = .ok (.iconst 2, 1) := by decide +kernel
theorem dX11_init_6 : decode cX11_init 6 = .ok (.newarray .boolean, 2) := by decide +kernel
theorem dX11_init_8 : decode cX11_init 8 = .ok (.putfield 9, 3) := by decide +kernel
theorem dX11_init_11 : decode cX11_init 11 = .ok (.aload_n 0, 1) := by decide +kernel
theorem dX11_init_12 : decode cX11_init 12 = .ok (.new 13, 3) := by decide +kernel
theorem dX11_init_15 : decode cX11_init 15 = .ok (.dup, 1) := by decide +kernel
theorem dX11_init_16 : decode cX11_init 16 = .ok (.invokespecial 15, 3) := by decide +kernel
theorem dX11_init_19 : decode cX11_init 19 = .ok (.putfield 16, 3) := by decide +kernel
theorem dX11_init_22 : decode cX11_init 22 = .ok (.aload_n 0, 1) := by decide +kernel
theorem dX11_init_23 : decode cX11_init 23 = .ok (.new 20, 3) := by decide +kernel
theorem dX11_init_26 : decode cX11_init 26 = .ok (.dup, 1) := by decide +kernel
theorem dX11_init_27 : decode cX11_init 27 = .ok (.invokespecial 22, 3) := by decide +kernel
theorem dX11_init_30 : decode cX11_init 30 = .ok (.putfield 23, 3) := by decide +kernel
theorem dX11_init_33 : decode cX11_init 33 = .ok (.aload_n 0, 1) := by decide +kernel
theorem dX11_init_34 : decode cX11_init 34 = .ok (.iconst 5, 1) := by decide +kernel
theorem dX11_init_35 : decode cX11_init 35 = .ok (.anewarray 20, 3) := by decide +kernel
theorem dX11_init_38 : decode cX11_init 38 = .ok (.putfield 27, 3) := by decide +kernel
theorem dX11_init_41 : decode cX11_init 41 = .ok (.aload_n 0, 1) := by decide +kernel
theorem dX11_init_42 : decode cX11_init 42 = .ok (.iconst 4, 1) := by decide +kernel
theorem dX11_init_43 : decode cX11_init 43 = .ok (.newarray .int, 2) := by decide +kernel
theorem dX11_init_45 : decode cX11_init 45 = .ok (.putfield 31, 3) := by decide +kernel
theorem dX11_init_48 : decode cX11_init 48 = .ok (.aload_n 0, 1) := by decide +kernel
theorem dX11_init_49 : decode cX11_init 49 = .ok (.iconst 4, 1) := by decide +kernel
theorem dX11_init_50 : decode cX11_init 50 = .ok (.newarray .int, 2) := by decide +kernel
theorem dX11_init_52 : decode cX11_init 52 = .ok (.putfield 35, 3) := by decide +kernel
theorem dX11_init_55 : decode cX11_init 55 = .ok (.aload_n 0, 1) := by decide +kernel
theorem dX11_init_56 : decode cX11_init 56 = .ok (.iconst (-1), 1) := by decide +kernel
theorem dX11_init_57 : decode cX11_init 57 = .ok (.putfield 38, 3) := by decide +kernel
theorem dX11_init_60 : decode cX11_init 60 = .ok (.aload_n 0, 1) := by decide +kernel
theorem dX11_init_61 : decode cX11_init 61 = .ok (.iconst 0, 1) := by decide +kernel
theorem dX11_init_62 : decode cX11_init 62 = .ok (.putfield 42, 3) := by decide +kernel
theorem dX11_init_65 : decode cX11_init 65 = .ok (.aload_n 0, 1) := by decide +kernel
theorem dX11_init_66 : decode cX11_init 66 = .ok (.iconst 1, 1) := by decide +kernel
theorem dX11_init_67 : decode cX11_init 67 = .ok (.putfield 45, 3) := by decide +kernel
theorem dX11_init_70 : decode cX11_init 70 = .ok (.aload_n 0, 1) := by decide +kernel
theorem dX11_init_71 : decode cX11_init 71 = .ok (.iconst 0, 1) := by decide +kernel
theorem dX11_init_72 : decode cX11_init 72 = .ok (.putfield 48, 3) := by decide +kernel
theorem dX11_init_75 : decode cX11_init 75 = .ok (.aload_n 0, 1) := by decide +kernel
theorem dX11_init_76 : decode cX11_init 76 = .ok (.iconst 0, 1) := by decide +kernel
theorem dX11_init_77 : decode cX11_init 77 = .ok (.putfield 51, 3) := by decide +kernel
theorem dX11_init_80 : decode cX11_init 80 = .ok (.aload_n 0, 1) := by decide +kernel
theorem dX11_init_81 : decode cX11_init 81 = .ok (.iconst 0, 1) := by decide +kernel
theorem dX11_init_82 : decode cX11_init 82 = .ok (.putfield 54, 3) := by decide +kernel
theorem dX11_init_85 : decode cX11_init 85 = .ok (.bipush 6, 2) := by decide +kernel
theorem dX11_init_87 : decode cX11_init 87 = .ok (.anewarray 57, 3) := by decide +kernel
theorem dX11_init_90 : decode cX11_init 90 = .ok (.dup, 1) := by decide +kernel
theorem dX11_init_91 : decode cX11_init 91 = .ok (.iconst 0, 1) := by decide +kernel
theorem dX11_init_92 : decode cX11_init 92 = .ok (.new 57, 3) := by decide +kernel
theorem dX11_init_95 : decode cX11_init 95 = .ok (.dup, 1) := by decide +kernel
theorem dX11_init_96 : decode cX11_init 96 = .ok (.invokespecial 59, 3) := by decide +kernel
theorem dX11_init_99 : decode cX11_init 99 = .ok (.aastore, 1) := by decide +kernel
theorem dX11_init_100 : decode cX11_init 100 = .ok (.dup, 1) := by decide +kernel
theorem dX11_init_101 : decode cX11_init 101 = .ok (.iconst 1, 1) := by decide +kernel
theorem dX11_init_102 : decode cX11_init 102 = .ok (.new 60, 3) := by decide +kernel
theorem dX11_init_105 : decode cX11_init 105 = .ok (.dup, 1) := by decide +kernel
theorem dX11_init_106 : decode cX11_init 106 = .ok (.invokespecial 62, 3) := by decide +kernel
theorem dX11_init_109 : decode cX11_init 109 = .ok (.aastore, 1) := by decide +kernel
theorem dX11_init_110 : decode cX11_init 110 = .ok (.dup, 1) := by decide +kernel
theorem dX11_init_111 : decode cX11_init 111 = .ok (.iconst 2, 1) := by decide +kernel
theorem dX11_init_112 : decode cX11_init 112 = .ok (.new 63, 3) := by decide +kernel
theorem dX11_init_115 : decode cX11_init 115 = .ok (.dup, 1) := by decide +kernel
theorem dX11_init_116 : decode cX11_init 116 = .ok (.invokespecial 65, 3) := by decide +kernel
theorem dX11_init_119 : decode cX11_init 119 = .ok (.aastore, 1) := by decide +kernel
theorem dX11_init_120 : decode cX11_init 120 = .ok (.dup, 1) := by decide +kernel
theorem dX11_init_121 : decode cX11_init 121 = .ok (.iconst 3, 1) := by decide +kernel
theorem dX11_init_122 : decode cX11_init 122 = .ok (.new 66, 3) := by decide +kernel
theorem dX11_init_125 : decode cX11_init 125 = .ok (.dup, 1) := by decide +kernel
theorem dX11_init_126 : decode cX11_init 126 = .ok (.invokespecial 68, 3) := by decide +kernel
theorem dX11_init_129 : decode cX11_init 129 = .ok (.aastore, 1) := by decide +kernel
theorem dX11_init_130 : decode cX11_init 130 = .ok (.dup, 1) := by decide +kernel
theorem dX11_init_131 : decode cX11_init 131 = .ok (.iconst 4, 1) := by decide +kernel
theorem dX11_init_132 : decode cX11_init 132 = .ok (.new 69, 3) := by decide +kernel
theorem dX11_init_135 : decode cX11_init 135 = .ok (.dup, 1) := by decide +kernel
theorem dX11_init_136 : decode cX11_init 136 = .ok (.invokespecial 71, 3) := by decide +kernel
theorem dX11_init_139 : decode cX11_init 139 = .ok (.aastore, 1) := by decide +kernel
theorem dX11_init_140 : decode cX11_init 140 = .ok (.dup, 1) := by decide +kernel
theorem dX11_init_141 : decode cX11_init 141 = .ok (.iconst 5, 1) := by decide +kernel
theorem dX11_init_142 : decode cX11_init 142 = .ok (.new 72, 3) := by decide +kernel
theorem dX11_init_145 : decode cX11_init 145 = .ok (.dup, 1) := by decide +kernel
theorem dX11_init_146 : decode cX11_init 146 = .ok (.invokespecial 74, 3) := by decide +kernel
theorem dX11_init_149 : decode cX11_init 149 = .ok (.aastore, 1) := by decide +kernel
theorem dX11_init_150 : decode cX11_init 150 = .ok (.astore_n 1, 1) := by decide +kernel
theorem dX11_init_151 : decode cX11_init 151 = .ok (.aload_n 0, 1) := by decide +kernel
theorem dX11_init_152 : decode cX11_init 152 = .ok (.new 75, 3) := by decide +kernel
theorem dX11_init_155 : decode cX11_init 155 = .ok (.dup, 1) := by decide +kernel
theorem dX11_init_156 : decode cX11_init 156 = .ok (.aload_n 1, 1) := by decide +kernel
theorem dX11_init_157 : decode cX11_init 157 = .ok (.invokespecial 77, 3) := by decide +kernel
theorem dX11_init_160 : decode cX11_init 160 = .ok (.putfield 80, 3) := by decide +kernel
theorem dX11_init_163 : decode cX11_init 163 = .ok (.aload_n 0, 1) := by decide +kernel
theorem dX11_init_164 : decode cX11_init 164 = .ok (.new 75, 3) := by decide +kernel
theorem dX11_init_167 : decode cX11_init 167 = .ok (.dup, 1) := by decide +kernel
theorem dX11_init_168 : decode cX11_init 168 = .ok (.aload_n 1, 1) := by decide +kernel
theorem dX11_init_169 : decode cX11_init 169 = .ok (.invokespecial 77, 3) := by decide +kernel
theorem dX11_init_172 : decode cX11_init 172 = .ok (.putfield 84, 3) := by decide +kernel
theorem dX11_init_175 : decode cX11_init 175 = .ok (.aload_n 0, 1) := by decide +kernel
theorem dX11_init_176 : decode cX11_init 176 = .ok (.iconst 2, 1) := by decide +kernel
theorem dX11_init_177 : decode cX11_init 177 = .ok (.anewarray 75, 3) := by decide +kernel
theorem dX11_init_180 : decode cX11_init 180 = .ok (.dup, 1) := by decide +kernel
theorem dX11_init_181 : decode cX11_init 181 = .ok (.iconst 0, 1) := by decide +kernel
theorem dX11_init_182 : decode cX11_init 182 = .ok (.new 75, 3) := by decide +kernel
theorem dX11_init_185 : decode cX11_init 185 = .ok (.dup, 1) := by decide +kernel
theorem dX11_init_186 : decode cX11_init 186 = .ok (.aload_n 1, 1) := by decide +kernel
theorem dX11_init_187 : decode cX11_init 187 = .ok (.invokespecial 77, 3) := by decide +kernel
theorem dX11_init_190 : decode cX11_init 190 = .ok (.aastore, 1) := by decide +kernel
theorem dX11_init_191 : decode cX11_init 191 = .ok (.dup, 1) := by decide +kernel
theorem dX11_init_192 : decode cX11_init 192 = .ok (.iconst 1, 1) := by decide +kernel
theorem dX11_init_193 : decode cX11_init 193 = .ok (.new 75, 3) := by decide +kernel
theorem dX11_init_196 : decode cX11_init 196 = .ok (.dup, 1) := by decide +kernel
theorem dX11_init_197 : decode cX11_init 197 = .ok (.aload_n 1, 1) := by decide +kernel
theorem dX11_init_198 : decode cX11_init 198 = .ok (.invokespecial 77, 3) := by decide +kernel
theorem dX11_init_201 : decode cX11_init 201 = .ok (.aastore, 1) := by decide +kernel
theorem dX11_init_202 : decode cX11_init 202 = .ok (.putfield 87, 3) := by decide +kernel
theorem dX11_init_205 : decode cX11_init 205 = .ok (.iconst 0, 1) := by decide +kernel
theorem dX11_init_206 : decode cX11_init 206 = .ok (.istore_n 2, 1) := by decide +kernel
theorem dX11_init_207 : decode cX11_init 207 = .ok (.iload_n 2, 1) := by decide +kernel
theorem dX11_init_208 : decode cX11_init 208 = .ok (.aload_n 0, 1) := by decide +kernel
theorem dX11_init_209 : decode cX11_init 209 = .ok (.getfield 27, 3) := by decide +kernel
theorem dX11_init_212 : decode cX11_init 212 = .ok (.arraylength, 1) := by decide +kernel
theorem dX11_init_213 : decode cX11_init 213 = .ok (.if_icmp .ge 22, 3) := by decide +kernel
theorem dX11_init_216 : decode cX11_init 216 = .ok (.aload_n 0, 1) := by decide +kernel
theorem dX11_init_217 : decode cX11_init 217 = .ok (.getfield 27, 3) := by decide +kernel
theorem dX11_init_220 : decode cX11_init 220 = .ok (.iload_n 2, 1) := by decide +kernel
theorem dX11_init_221 : decode cX11_init 221 = .ok (.new 20, 3) := by decide +kernel
theorem dX11_init_224 : decode cX11_init 224 = .ok (.dup, 1) := by decide +kernel
theorem dX11_init_225 : decode cX11_init 225 = .ok (.invokespecial 22, 3) := by decide +kernel
theorem dX11_init_228 : decode cX11_init 228 = .ok (.aastore, 1) := by decide +kernel
theorem dX11_init_229 : decode cX11_init 229 = .ok (.iinc 2 1, 3) := by decide +kernel
theorem dX11_init_232 : decode cX11_init 232 = .ok (.goto (-25), 3) := by decide +kernel
theorem dX11_init_235 : decode cX11_init 235 = .ok (.return_, 1) := by decide +kernel
theorem dX11_court_0 : decode cX11_court 0 = .ok (.iload_n 1, 1) := by decide +kernel
theorem dX11_court_1 : decode cX11_court 1 = .ok (.iconst 0, 1) := by decide +kernel
theorem dX11_court_2 : decode cX11_court 2 = .ok (.bipush 99, 2) := by decide +kernel
theorem dX11_court_4 : decode cX11_court 4 = .ok (.invokestatic 91, 3) := by decide +kernel
theorem dX11_court_7 : decode cX11_court 7 = .ok (.ifCond .eq 8, 3) := by decide +kernel
theorem dX11_court_10 : decode cX11_court 10 = .ok (.aload_n 0, 1) := by decide +kernel
theorem dX11_court_11 : decode cX11_court 11 = .ok (.invokevirtual 95, 3) := by decide +kernel
theorem dX11_court_14 : decode cX11_court 14 = .ok (.ireturn, 1) := by decide +kernel
theorem dX11_court_15 : decode cX11_court 15 = .ok (.aload_n 0, 1) := by decide +kernel
theorem dX11_court_16 : decode cX11_court 16 = .ok (.getfield 80, 3) := by decide +kernel
theorem dX11_court_19 : decode cX11_court 19 = .ok (.getfield 99, 3) := by decide +kernel
theorem dX11_court_22 : decode cX11_court 22 = .ok (.istore_n 2, 1) := by decide +kernel
theorem dX11_court_23 : decode cX11_court 23 = .ok (.aload_n 0, 1) := by decide +kernel
theorem dX11_court_24 : decode cX11_court 24 = .ok (.getfield 80, 3) := by decide +kernel
theorem dX11_court_27 : decode cX11_court 27 = .ok (.iload_n 1, 1) := by decide +kernel
theorem dX11_court_28 : decode cX11_court 28 = .ok (.invokevirtual 102, 3) := by decide +kernel
theorem dX11_court_31 : decode cX11_court 31 = .ok (.iload_n 2, 1) := by decide +kernel
theorem dX11_court_32 : decode cX11_court 32 = .ok (.ireturn, 1) := by decide +kernel
theorem dX11_heir_0 : decode cX11_heir 0 = .ok (.iload_n 1, 1) := by decide +kernel
theorem dX11_heir_1 : decode cX11_heir 1 = .ok (.iconst 0, 1) := by decide +kernel
theorem dX11_heir_2 : decode cX11_heir 2 = .ok (.iconst 5, 1) := by decide +kernel
theorem dX11_heir_3 : decode cX11_heir 3 = .ok (.invokestatic 91, 3) := by decide +kernel
theorem dX11_heir_6 : decode cX11_heir 6 = .ok (.ifCond .ne 14, 3) := by decide +kernel
theorem dX11_heir_9 : decode cX11_heir 9 = .ok (.iload 4, 2) := by decide +kernel
theorem dX11_heir_11 : decode cX11_heir 11 = .ok (.iconst 0, 1) := by decide +kernel
theorem dX11_heir_12 : decode cX11_heir 12 = .ok (.bipush 20, 2) := by decide +kernel
theorem dX11_heir_14 : decode cX11_heir 14 = .ok (.invokestatic 91, 3) := by decide +kernel
theorem dX11_heir_17 : decode cX11_heir 17 = .ok (.ifCond .eq 8, 3) := by decide +kernel
theorem dX11_heir_20 : decode cX11_heir 20 = .ok (.aload_n 0, 1) := by decide +kernel
theorem dX11_heir_21 : decode cX11_heir 21 = .ok (.invokevirtual 95, 3) := by decide +kernel
theorem dX11_heir_24 : decode cX11_heir 24 = .ok (.ireturn, 1) := by decide +kernel
theorem dX11_heir_25 : decode cX11_heir 25 = .ok (.iload_n 2, 1) := by decide +kernel
theorem dX11_heir_26 : decode cX11_heir 26 = .ok (.iconst 0, 1) := by decide +kernel
theorem dX11_heir_27 : decode cX11_heir 27 = .ok (.sipush 255, 3) := by decide +kernel
theorem dX11_heir_30 : decode cX11_heir 30 = .ok (.invokestatic 91, 3) := by decide +kernel
theorem dX11_heir_33 : decode cX11_heir 33 = .ok (.ifCond .ne 14, 3) := by decide +kernel
theorem dX11_heir_36 : decode cX11_heir 36 = .ok (.iload_n 3, 1) := by decide +kernel
theorem dX11_heir_37 : decode cX11_heir 37 = .ok (.iconst 0, 1) := by decide +kernel
theorem dX11_heir_38 : decode cX11_heir 38 = .ok (.sipush 255, 3) := by decide +kernel
theorem dX11_heir_41 : decode cX11_heir 41 = .ok (.invokestatic 91, 3) := by decide +kernel
theorem dX11_heir_44 : decode cX11_heir 44 = .ok (.ifCond .eq 8, 3) := by decide +kernel
theorem dX11_heir_47 : decode cX11_heir 47 = .ok (.aload_n 0, 1) := by decide +kernel
theorem dX11_heir_48 : decode cX11_heir 48 = .ok (.invokevirtual 95, 3) := by decide +kernel
theorem dX11_heir_51 : decode cX11_heir 51 = .ok (.ireturn, 1) := by decide +kernel
theorem dX11_heir_52 : decode cX11_heir 52 = .ok (.aload_n 0, 1) := by decide +kernel
theorem dX11_heir_53 : decode cX11_heir 53 = .ok (.getfield 80, 3) := by decide +kernel
theorem dX11_heir_56 : decode cX11_heir 56 = .ok (.getfield 99, 3) := by decide +kernel
theorem dX11_heir_59 : decode cX11_heir 59 = .ok (.bipush 6, 2) := by decide +kernel
theorem dX11_heir_61 : decode cX11_heir 61 = .ok (.if_icmp .lt 8, 3) := by decide +kernel
theorem dX11_heir_64 : decode cX11_heir 64 = .ok (.aload_n 0, 1) := by decide +kernel
theorem dX11_heir_65 : decode cX11_heir 65 = .ok (.invokevirtual 106, 3) := by decide +kernel
theorem dX11_heir_68 : decode cX11_heir 68 = .ok (.ireturn, 1) := by decide +kernel
theorem dX11_heir_69 : decode cX11_heir 69 = .ok (.aload_n 0, 1) := by decide +kernel
theorem dX11_heir_70 : decode cX11_heir 70 = .ok (.getfield 80, 3) := by decide +kernel
theorem dX11_heir_73 : decode cX11_heir 73 = .ok (.iload_n 1, 1) := by decide +kernel
theorem dX11_heir_74 : decode cX11_heir 74 = .ok (.iload_n 2, 1) := by decide +kernel
theorem dX11_heir_75 : decode cX11_heir 75 = .ok (.iload_n 3, 1) := by decide +kernel
theorem dX11_heir_76 : decode cX11_heir 76 = .ok (.iload 4, 2) := by decide +kernel
theorem dX11_heir_78 : decode cX11_heir 78 = .ok (.invokevirtual 109, 3) := by decide +kernel
theorem dX11_heir_81 : decode cX11_heir 81 = .ok (.ireturn, 1) := by decide +kernel
theorem dX11_type_0 : decode cX11_type 0 = .ok (.iload_n 1, 1) := by decide +kernel
theorem dX11_type_1 : decode cX11_type 1 = .ok (.iconst 0, 1) := by decide +kernel
theorem dX11_type_2 : decode cX11_type 2 = .ok (.bipush 127, 2) := by decide +kernel
theorem dX11_type_4 : decode cX11_type 4 = .ok (.invokestatic 91, 3) := by decide +kernel
theorem dX11_type_7 : decode cX11_type 7 = .ok (.ifCond .eq 8, 3) := by decide +kernel
theorem dX11_type_10 : decode cX11_type 10 = .ok (.aload_n 0, 1) := by decide +kernel
theorem dX11_type_11 : decode cX11_type 11 = .ok (.invokevirtual 95, 3) := by decide +kernel
theorem dX11_type_14 : decode cX11_type 14 = .ok (.ireturn, 1) := by decide +kernel
theorem dX11_type_15 : decode cX11_type 15 = .ok (.aload_n 0, 1) := by decide +kernel
theorem dX11_type_16 : decode cX11_type 16 = .ok (.getfield 16, 3) := by decide +kernel
theorem dX11_type_19 : decode cX11_type 19 = .ok (.getfield 113, 3) := by decide +kernel
theorem dX11_type_22 : decode cX11_type 22 = .ok (.sipush 150, 3) := by decide +kernel
theorem dX11_type_25 : decode cX11_type 25 = .ok (.if_icmp .lt 8, 3) := by decide +kernel
theorem dX11_type_28 : decode cX11_type 28 = .ok (.aload_n 0, 1) := by decide +kernel
theorem dX11_type_29 : decode cX11_type 29 = .ok (.invokevirtual 106, 3) := by decide +kernel
theorem dX11_type_32 : decode cX11_type 32 = .ok (.ireturn, 1) := by decide +kernel
theorem dX11_type_33 : decode cX11_type 33 = .ok (.aload_n 0, 1) := by decide +kernel
theorem dX11_type_34 : decode cX11_type 34 = .ok (.getfield 16, 3) := by decide +kernel
theorem dX11_type_37 : decode cX11_type 37 = .ok (.iload_n 1, 1) := by decide +kernel
theorem dX11_type_38 : decode cX11_type 38 = .ok (.invokevirtual 116, 3) := by decide +kernel
theorem dX11_type_41 : decode cX11_type 41 = .ok (.aload_n 0, 1) := by decide +kernel
theorem dX11_type_42 : decode cX11_type 42 = .ok (.getfield 16, 3) := by decide +kernel
theorem dX11_type_45 : decode cX11_type 45 = .ok (.getfield 113, 3) := by decide +kernel
theorem dX11_type_48 : decode cX11_type 48 = .ok (.ireturn, 1) := by decide +kernel
theorem dX11_clear_0 : decode cX11_clear 0 = .ok (.aload_n 0, 1) := by decide +kernel
theorem dX11_clear_1 : decode cX11_clear 1 = .ok (.getfield 16, 3) := by decide +kernel
theorem dX11_clear_4 : decode cX11_clear 4 = .ok (.getfield 113, 3) := by decide +kernel
theorem dX11_clear_7 : decode cX11_clear 7 = .ok (.istore_n 1, 1) := by decide +kernel
theorem dX11_clear_8 : decode cX11_clear 8 = .ok (.aload_n 0, 1) := by decide +kernel
theorem dX11_clear_9 : decode cX11_clear 9 = .ok (.getfield 16, 3) := by decide +kernel
theorem dX11_clear_12 : decode cX11_clear 12 = .ok (.iconst 0, 1) := by decide +kernel
theorem dX11_clear_13 : decode cX11_clear 13 = .ok (.putfield 113, 3) := by decide +kernel
theorem dX11_clear_16 : decode cX11_clear 16 = .ok (.iload_n 1, 1) := by decide +kernel
theorem dX11_clear_17 : decode cX11_clear 17 = .ok (.ireturn, 1) := by decide +kernel
theorem dX11_read_0 : decode cX11_read 0 = .ok (.aload_n 0, 1) := by decide +kernel
theorem dX11_read_1 : decode cX11_read 1 = .ok (.getfield 16, 3) := by decide +kernel
theorem dX11_read_4 : decode cX11_read 4 = .ok (.aload_n 0, 1) := by decide +kernel
theorem dX11_read_5 : decode cX11_read 5 = .ok (.getfield 84, 3) := by decide +kernel
theorem dX11_read_8 : decode cX11_read 8 = .ok (.invokevirtual 119, 3) := by decide +kernel
theorem dX11_read_11 : decode cX11_read 11 = .ok (.istore_n 1, 1) := by decide +kernel
theorem dX11_read_12 : decode cX11_read 12 = .ok (.iload_n 1, 1) := by decide +kernel
theorem dX11_read_13 : decode cX11_read 13 = .ok (.iconst (-1), 1) := by decide +kernel
theorem dX11_read_14 : decode cX11_read 14 = .ok (.if_icmp .ne 14, 3) := by decide +kernel
theorem dX11_read_17 : decode cX11_read 17 = .ok (.bipush (-10), 2) := by decide +kernel
theorem dX11_read_19 : decode cX11_read 19 = .ok (.aload_n 0, 1) := by decide +kernel
theorem dX11_read_20 : decode cX11_read 20 = .ok (.getfield 16, 3) := by decide +kernel
theorem dX11_read_23 : decode cX11_read 23 = .ok (.getfield 123, 3) := by decide +kernel
theorem dX11_read_26 : decode cX11_read 26 = .ok (.isub, 1) := by decide +kernel
theorem dX11_read_27 : decode cX11_read 27 = .ok (.ireturn, 1) := by decide +kernel
theorem dX11_read_28 : decode cX11_read 28 = .ok (.aload_n 0, 1) := by decide +kernel
theorem dX11_read_29 : decode cX11_read 29 = .ok (.getfield 80, 3) := by decide +kernel
theorem dX11_read_32 : decode cX11_read 32 = .ok (.aload_n 0, 1) := by decide +kernel
theorem dX11_read_33 : decode cX11_read 33 = .ok (.getfield 84, 3) := by decide +kernel
theorem dX11_read_36 : decode cX11_read 36 = .ok (.invokevirtual 126, 3) := by decide +kernel
theorem dX11_read_39 : decode cX11_read 39 = .ok (.iload_n 1, 1) := by decide +kernel
theorem dX11_read_40 : decode cX11_read 40 = .ok (.ireturn, 1) := by decide +kernel
theorem dX11_pair_0 : decode cX11_pair 0 = .ok (.aload_n 0, 1) := by decide +kernel
theorem dX11_pair_1 : decode cX11_pair 1 = .ok (.getfield 80, 3) := by decide +kernel
theorem dX11_pair_4 : decode cX11_pair 4 = .ok (.iload_n 1, 1) := by decide +kernel
theorem dX11_pair_5 : decode cX11_pair 5 = .ok (.iload_n 2, 1) := by decide +kernel
theorem dX11_pair_6 : decode cX11_pair 6 = .ok (.invokevirtual 130, 3) := by decide +kernel
theorem dX11_pair_9 : decode cX11_pair 9 = .ok (.ifCond .ne 8, 3) := by decide +kernel
theorem dX11_pair_12 : decode cX11_pair 12 = .ok (.aload_n 0, 1) := by decide +kernel
theorem dX11_pair_13 : decode cX11_pair 13 = .ok (.invokevirtual 95, 3) := by decide +kernel
theorem dX11_pair_16 : decode cX11_pair 16 = .ok (.ireturn, 1) := by decide +kernel
theorem dX11_pair_17 : decode cX11_pair 17 = .ok (.aload_n 0, 1) := by decide +kernel
theorem dX11_pair_18 : decode cX11_pair 18 = .ok (.getfield 80, 3) := by decide +kernel
theorem dX11_pair_21 : decode cX11_pair 21 = .ok (.invokevirtual 134, 3) := by decide +kernel
theorem dX11_pair_24 : decode cX11_pair 24 = .ok (.aload_n 0, 1) := by decide +kernel
theorem dX11_pair_25 : decode cX11_pair 25 = .ok (.getfield 80, 3) := by decide +kernel
theorem dX11_pair_28 : decode cX11_pair 28 = .ok (.getfield 137, 3) := by decide +kernel
theorem dX11_pair_31 : decode cX11_pair 31 = .ok (.iload_n 1, 1) := by decide +kernel
theorem dX11_pair_32 : decode cX11_pair 32 = .ok (.putfield 140, 3) := by decide +kernel
theorem dX11_pair_35 : decode cX11_pair 35 = .ok (.aload_n 0, 1) := by decide +kernel
theorem dX11_pair_36 : decode cX11_pair 36 = .ok (.getfield 80, 3) := by decide +kernel
theorem dX11_pair_39 : decode cX11_pair 39 = .ok (.getfield 137, 3) := by decide +kernel
theorem dX11_pair_42 : decode cX11_pair 42 = .ok (.iload_n 2, 1) := by decide +kernel
theorem dX11_pair_43 : decode cX11_pair 43 = .ok (.putfield 143, 3) := by decide +kernel
theorem dX11_pair_46 : decode cX11_pair 46 = .ok (.iconst 1, 1) := by decide +kernel
theorem dX11_pair_47 : decode cX11_pair 47 = .ok (.ireturn, 1) := by decide +kernel
theorem dX11_ask_0 : decode cX11_ask 0 = .ok (.iload_n 1, 1) := by decide +kernel
theorem dX11_ask_1 : decode cX11_ask 1 = .ok (.iconst 0, 1) := by decide +kernel
theorem dX11_ask_2 : decode cX11_ask 2 = .ok (.bipush 7, 2) := by decide +kernel
theorem dX11_ask_4 : decode cX11_ask 4 = .ok (.invokestatic 91, 3) := by decide +kernel
theorem dX11_ask_7 : decode cX11_ask 7 = .ok (.ifCond .eq 8, 3) := by decide +kernel
theorem dX11_ask_10 : decode cX11_ask 10 = .ok (.aload_n 0, 1) := by decide +kernel
theorem dX11_ask_11 : decode cX11_ask 11 = .ok (.invokevirtual 95, 3) := by decide +kernel
theorem dX11_ask_14 : decode cX11_ask 14 = .ok (.ireturn, 1) := by decide +kernel
theorem dX11_ask_15 : decode cX11_ask 15 = .ok (.aload_n 0, 1) := by decide +kernel
theorem dX11_ask_16 : decode cX11_ask 16 = .ok (.getfield 80, 3) := by decide +kernel
theorem dX11_ask_19 : decode cX11_ask 19 = .ok (.aload_n 0, 1) := by decide +kernel
theorem dX11_ask_20 : decode cX11_ask 20 = .ok (.getfield 80, 3) := by decide +kernel
theorem dX11_ask_23 : decode cX11_ask 23 = .ok (.getfield 137, 3) := by decide +kernel
theorem dX11_ask_26 : decode cX11_ask 26 = .ok (.invokevirtual 146, 3) := by decide +kernel
theorem dX11_ask_29 : decode cX11_ask 29 = .ok (.ifCond .eq 17, 3) := by decide +kernel
theorem dX11_ask_32 : decode cX11_ask 32 = .ok (.aload_n 0, 1) := by decide +kernel
theorem dX11_ask_33 : decode cX11_ask 33 = .ok (.getfield 80, 3) := by decide +kernel
theorem dX11_ask_36 : decode cX11_ask 36 = .ok (.getfield 137, 3) := by decide +kernel
theorem dX11_ask_39 : decode cX11_ask 39 = .ok (.iload_n 1, 1) := by decide +kernel
theorem dX11_ask_40 : decode cX11_ask 40 = .ok (.invokevirtual 150, 3) := by decide +kernel
theorem dX11_ask_43 : decode cX11_ask 43 = .ok (.ifCond .eq 8, 3) := by decide +kernel
theorem dX11_ask_46 : decode cX11_ask 46 = .ok (.aload_n 0, 1) := by decide +kernel
theorem dX11_ask_47 : decode cX11_ask 47 = .ok (.invokevirtual 154, 3) := by decide +kernel
theorem dX11_ask_50 : decode cX11_ask 50 = .ok (.ireturn, 1) := by decide +kernel
theorem dX11_ask_51 : decode cX11_ask 51 = .ok (.aload_n 0, 1) := by decide +kernel
theorem dX11_ask_52 : decode cX11_ask 52 = .ok (.getfield 80, 3) := by decide +kernel
theorem dX11_ask_55 : decode cX11_ask 55 = .ok (.invokevirtual 134, 3) := by decide +kernel
theorem dX11_ask_58 : decode cX11_ask 58 = .ok (.aload_n 0, 1) := by decide +kernel
theorem dX11_ask_59 : decode cX11_ask 59 = .ok (.getfield 80, 3) := by decide +kernel
theorem dX11_ask_62 : decode cX11_ask 62 = .ok (.aload_n 0, 1) := by decide +kernel
theorem dX11_ask_63 : decode cX11_ask 63 = .ok (.getfield 80, 3) := by decide +kernel
theorem dX11_ask_66 : decode cX11_ask 66 = .ok (.getfield 137, 3) := by decide +kernel
theorem dX11_ask_69 : decode cX11_ask 69 = .ok (.iload_n 1, 1) := by decide +kernel
theorem dX11_ask_70 : decode cX11_ask 70 = .ok (.invokevirtual 157, 3) := by decide +kernel
theorem dX11_ask_73 : decode cX11_ask 73 = .ok (.ireturn, 1) := by decide +kernel
theorem dX11_day_0 : decode cX11_day 0 = .ok (.iload_n 1, 1) := by decide +kernel
theorem dX11_day_1 : decode cX11_day 1 = .ok (.iconst 1, 1) := by decide +kernel
theorem dX11_day_2 : decode cX11_day 2 = .ok (.bipush 60, 2) := by decide +kernel
theorem dX11_day_4 : decode cX11_day 4 = .ok (.invokestatic 91, 3) := by decide +kernel
theorem dX11_day_7 : decode cX11_day 7 = .ok (.ifCond .eq 8, 3) := by decide +kernel
theorem dX11_day_10 : decode cX11_day 10 = .ok (.aload_n 0, 1) := by decide +kernel
theorem dX11_day_11 : decode cX11_day 11 = .ok (.invokevirtual 95, 3) := by decide +kernel
theorem dX11_day_14 : decode cX11_day 14 = .ok (.ireturn, 1) := by decide +kernel
theorem dX11_day_15 : decode cX11_day 15 = .ok (.aload_n 0, 1) := by decide +kernel
theorem dX11_day_16 : decode cX11_day 16 = .ok (.getfield 80, 3) := by decide +kernel
theorem dX11_day_19 : decode cX11_day 19 = .ok (.invokevirtual 134, 3) := by decide +kernel
theorem dX11_day_22 : decode cX11_day 22 = .ok (.aload_n 0, 1) := by decide +kernel
theorem dX11_day_23 : decode cX11_day 23 = .ok (.getfield 80, 3) := by decide +kernel
theorem dX11_day_26 : decode cX11_day 26 = .ok (.aload_n 0, 1) := by decide +kernel
theorem dX11_day_27 : decode cX11_day 27 = .ok (.getfield 80, 3) := by decide +kernel
theorem dX11_day_30 : decode cX11_day 30 = .ok (.getfield 137, 3) := by decide +kernel
theorem dX11_day_33 : decode cX11_day 33 = .ok (.iload_n 1, 1) := by decide +kernel
theorem dX11_day_34 : decode cX11_day 34 = .ok (.invokevirtual 161, 3) := by decide +kernel
theorem dX11_day_37 : decode cX11_day 37 = .ok (.aload_n 0, 1) := by decide +kernel
theorem dX11_day_38 : decode cX11_day 38 = .ok (.getfield 80, 3) := by decide +kernel
theorem dX11_day_41 : decode cX11_day 41 = .ok (.getfield 137, 3) := by decide +kernel
theorem dX11_day_44 : decode cX11_day 44 = .ok (.getfield 165, 3) := by decide +kernel
theorem dX11_day_47 : decode cX11_day 47 = .ok (.ireturn, 1) := by decide +kernel
theorem dX11_feed_0 : decode cX11_feed 0 = .ok (.iload_n 1, 1) := by decide +kernel
theorem dX11_feed_1 : decode cX11_feed 1 = .ok (.iconst 1, 1) := by decide +kernel
theorem dX11_feed_2 : decode cX11_feed 2 = .ok (.bipush 20, 2) := by decide +kernel
theorem dX11_feed_4 : decode cX11_feed 4 = .ok (.invokestatic 91, 3) := by decide +kernel
theorem dX11_feed_7 : decode cX11_feed 7 = .ok (.ifCond .eq 8, 3) := by decide +kernel
theorem dX11_feed_10 : decode cX11_feed 10 = .ok (.aload_n 0, 1) := by decide +kernel
theorem dX11_feed_11 : decode cX11_feed 11 = .ok (.invokevirtual 95, 3) := by decide +kernel
theorem dX11_feed_14 : decode cX11_feed 14 = .ok (.ireturn, 1) := by decide +kernel
theorem dX11_feed_15 : decode cX11_feed 15 = .ok (.aload_n 0, 1) := by decide +kernel
theorem dX11_feed_16 : decode cX11_feed 16 = .ok (.getfield 80, 3) := by decide +kernel
theorem dX11_feed_19 : decode cX11_feed 19 = .ok (.invokevirtual 134, 3) := by decide +kernel
theorem dX11_feed_22 : decode cX11_feed 22 = .ok (.aload_n 0, 1) := by decide +kernel
theorem dX11_feed_23 : decode cX11_feed 23 = .ok (.getfield 80, 3) := by decide +kernel
theorem dX11_feed_26 : decode cX11_feed 26 = .ok (.getfield 137, 3) := by decide +kernel
theorem dX11_feed_29 : decode cX11_feed 29 = .ok (.iload_n 1, 1) := by decide +kernel
theorem dX11_feed_30 : decode cX11_feed 30 = .ok (.invokevirtual 168, 3) := by decide +kernel
theorem dX11_feed_33 : decode cX11_feed 33 = .ok (.aload_n 0, 1) := by decide +kernel
theorem dX11_feed_34 : decode cX11_feed 34 = .ok (.getfield 80, 3) := by decide +kernel
theorem dX11_feed_37 : decode cX11_feed 37 = .ok (.getfield 137, 3) := by decide +kernel
theorem dX11_feed_40 : decode cX11_feed 40 = .ok (.getfield 165, 3) := by decide +kernel
theorem dX11_feed_43 : decode cX11_feed 43 = .ok (.ireturn, 1) := by decide +kernel
theorem dX11_undo_0 : decode cX11_undo 0 = .ok (.aload_n 0, 1) := by decide +kernel
theorem dX11_undo_1 : decode cX11_undo 1 = .ok (.getfield 80, 3) := by decide +kernel
theorem dX11_undo_4 : decode cX11_undo 4 = .ok (.getfield 171, 3) := by decide +kernel
theorem dX11_undo_7 : decode cX11_undo 7 = .ok (.ifCond .gt 8, 3) := by decide +kernel
theorem dX11_undo_10 : decode cX11_undo 10 = .ok (.aload_n 0, 1) := by decide +kernel
theorem dX11_undo_11 : decode cX11_undo 11 = .ok (.invokevirtual 154, 3) := by decide +kernel
theorem dX11_undo_14 : decode cX11_undo 14 = .ok (.ireturn, 1) := by decide +kernel
theorem dX11_undo_15 : decode cX11_undo 15 = .ok (.aload_n 0, 1) := by decide +kernel
theorem dX11_undo_16 : decode cX11_undo 16 = .ok (.getfield 80, 3) := by decide +kernel
theorem dX11_undo_19 : decode cX11_undo 19 = .ok (.invokevirtual 174, 3) := by decide +kernel
theorem dX11_undo_22 : decode cX11_undo 22 = .ok (.aload_n 0, 1) := by decide +kernel
theorem dX11_undo_23 : decode cX11_undo 23 = .ok (.getfield 80, 3) := by decide +kernel
theorem dX11_undo_26 : decode cX11_undo 26 = .ok (.getfield 137, 3) := by decide +kernel
theorem dX11_undo_29 : decode cX11_undo 29 = .ok (.getfield 177, 3) := by decide +kernel
theorem dX11_undo_32 : decode cX11_undo 32 = .ok (.ireturn, 1) := by decide +kernel
theorem dX11_of_0 : decode cX11_of 0 = .ok (.aload_n 0, 1) := by decide +kernel
theorem dX11_of_1 : decode cX11_of 1 = .ok (.getfield 80, 3) := by decide +kernel
theorem dX11_of_4 : decode cX11_of 4 = .ok (.iload_n 1, 1) := by decide +kernel
theorem dX11_of_5 : decode cX11_of 5 = .ok (.invokevirtual 180, 3) := by decide +kernel
theorem dX11_of_8 : decode cX11_of 8 = .ok (.ifCond .eq 12, 3) := by decide +kernel
theorem dX11_of_11 : decode cX11_of 11 = .ok (.iload_n 2, 1) := by decide +kernel
theorem dX11_of_12 : decode cX11_of 12 = .ok (.iconst 0, 1) := by decide +kernel
theorem dX11_of_13 : decode cX11_of 13 = .ok (.iconst 4, 1) := by decide +kernel
theorem dX11_of_14 : decode cX11_of 14 = .ok (.invokestatic 91, 3) := by decide +kernel
theorem dX11_of_17 : decode cX11_of 17 = .ok (.ifCond .eq 8, 3) := by decide +kernel
theorem dX11_of_20 : decode cX11_of 20 = .ok (.aload_n 0, 1) := by decide +kernel
theorem dX11_of_21 : decode cX11_of 21 = .ok (.invokevirtual 95, 3) := by decide +kernel
theorem dX11_of_24 : decode cX11_of 24 = .ok (.ireturn, 1) := by decide +kernel
theorem dX11_of_25 : decode cX11_of 25 = .ok (.aload_n 0, 1) := by decide +kernel
theorem dX11_of_26 : decode cX11_of 26 = .ok (.getfield 80, 3) := by decide +kernel
theorem dX11_of_29 : decode cX11_of 29 = .ok (.getfield 183, 3) := by decide +kernel
theorem dX11_of_32 : decode cX11_of 32 = .ok (.iload_n 1, 1) := by decide +kernel
theorem dX11_of_33 : decode cX11_of 33 = .ok (.aaload, 1) := by decide +kernel
theorem dX11_of_34 : decode cX11_of 34 = .ok (.astore_n 3, 1) := by decide +kernel
theorem dX11_of_35 : decode cX11_of 35 = .ok (.iload_n 2, 1) := by decide +kernel
theorem dX11_of_36 : decode cX11_of 36 = .ok (.tableswitch 52 0 3 #[32, 37, 42, 47], 32) := by decide +kernel
theorem dX11_of_68 : decode cX11_of 68 = .ok (.aload_n 3, 1) := by decide +kernel
theorem dX11_of_69 : decode cX11_of 69 = .ok (.getfield 187, 3) := by decide +kernel
theorem dX11_of_72 : decode cX11_of 72 = .ok (.ireturn, 1) := by decide +kernel
theorem dX11_of_73 : decode cX11_of 73 = .ok (.aload_n 3, 1) := by decide +kernel
theorem dX11_of_74 : decode cX11_of 74 = .ok (.getfield 192, 3) := by decide +kernel
theorem dX11_of_77 : decode cX11_of 77 = .ok (.ireturn, 1) := by decide +kernel
theorem dX11_of_78 : decode cX11_of 78 = .ok (.aload_n 3, 1) := by decide +kernel
theorem dX11_of_79 : decode cX11_of 79 = .ok (.getfield 195, 3) := by decide +kernel
theorem dX11_of_82 : decode cX11_of 82 = .ok (.ireturn, 1) := by decide +kernel
theorem dX11_of_83 : decode cX11_of 83 = .ok (.aload_n 3, 1) := by decide +kernel
theorem dX11_of_84 : decode cX11_of 84 = .ok (.getfield 198, 3) := by decide +kernel
theorem dX11_of_87 : decode cX11_of 87 = .ok (.ireturn, 1) := by decide +kernel
theorem dX11_of_88 : decode cX11_of 88 = .ok (.aload_n 0, 1) := by decide +kernel
theorem dX11_of_89 : decode cX11_of 89 = .ok (.getfield 80, 3) := by decide +kernel
theorem dX11_of_92 : decode cX11_of 92 = .ok (.getfield 137, 3) := by decide +kernel
theorem dX11_of_95 : decode cX11_of 95 = .ok (.iload_n 1, 1) := by decide +kernel
theorem dX11_of_96 : decode cX11_of 96 = .ok (.invokevirtual 201, 3) := by decide +kernel
theorem dX11_of_99 : decode cX11_of 99 = .ok (.ireturn, 1) := by decide +kernel
theorem dX11_makes_0 : decode cX11_makes 0 = .ok (.aload_n 0, 1) := by decide +kernel
theorem dX11_makes_1 : decode cX11_makes 1 = .ok (.getfield 80, 3) := by decide +kernel
theorem dX11_makes_4 : decode cX11_makes 4 = .ok (.iload_n 1, 1) := by decide +kernel
theorem dX11_makes_5 : decode cX11_makes 5 = .ok (.invokevirtual 180, 3) := by decide +kernel
theorem dX11_makes_8 : decode cX11_makes 8 = .ok (.ifCond .eq 12, 3) := by decide +kernel
theorem dX11_makes_11 : decode cX11_makes 11 = .ok (.aload_n 0, 1) := by decide +kernel
theorem dX11_makes_12 : decode cX11_makes 12 = .ok (.getfield 80, 3) := by decide +kernel
theorem dX11_makes_15 : decode cX11_makes 15 = .ok (.iload_n 1, 1) := by decide +kernel
theorem dX11_makes_16 : decode cX11_makes 16 = .ok (.invokevirtual 205, 3) := by decide +kernel
theorem dX11_makes_19 : decode cX11_makes 19 = .ok (.ireturn, 1) := by decide +kernel
theorem dX11_makes_20 : decode cX11_makes 20 = .ok (.aload_n 0, 1) := by decide +kernel
theorem dX11_makes_21 : decode cX11_makes 21 = .ok (.invokevirtual 95, 3) := by decide +kernel
theorem dX11_makes_24 : decode cX11_makes 24 = .ok (.pop, 1) := by decide +kernel
theorem dX11_makes_25 : decode cX11_makes 25 = .ok (.bipush (-100), 2) := by decide +kernel
theorem dX11_makes_27 : decode cX11_makes 27 = .ok (.ireturn, 1) := by decide +kernel
theorem dX11_lift_0 : decode cX11_lift 0 = .ok (.iload_n 1, 1) := by decide +kernel
theorem dX11_lift_1 : decode cX11_lift 1 = .ok (.iconst 0, 1) := by decide +kernel
theorem dX11_lift_2 : decode cX11_lift 2 = .ok (.bipush 7, 2) := by decide +kernel
theorem dX11_lift_4 : decode cX11_lift 4 = .ok (.invokestatic 91, 3) := by decide +kernel
theorem dX11_lift_7 : decode cX11_lift 7 = .ok (.ifCond .eq 8, 3) := by decide +kernel
theorem dX11_lift_10 : decode cX11_lift 10 = .ok (.aload_n 0, 1) := by decide +kernel
theorem dX11_lift_11 : decode cX11_lift 11 = .ok (.invokevirtual 95, 3) := by decide +kernel
theorem dX11_lift_14 : decode cX11_lift 14 = .ok (.ireturn, 1) := by decide +kernel
theorem dX11_lift_15 : decode cX11_lift 15 = .ok (.aload_n 0, 1) := by decide +kernel
theorem dX11_lift_16 : decode cX11_lift 16 = .ok (.getfield 80, 3) := by decide +kernel
theorem dX11_lift_19 : decode cX11_lift 19 = .ok (.aload_n 0, 1) := by decide +kernel
theorem dX11_lift_20 : decode cX11_lift 20 = .ok (.getfield 80, 3) := by decide +kernel
theorem dX11_lift_23 : decode cX11_lift 23 = .ok (.getfield 137, 3) := by decide +kernel
theorem dX11_lift_26 : decode cX11_lift 26 = .ok (.invokevirtual 146, 3) := by decide +kernel
theorem dX11_lift_29 : decode cX11_lift 29 = .ok (.ifCond .ne 8, 3) := by decide +kernel
theorem dX11_lift_32 : decode cX11_lift 32 = .ok (.aload_n 0, 1) := by decide +kernel
theorem dX11_lift_33 : decode cX11_lift 33 = .ok (.invokevirtual 154, 3) := by decide +kernel
theorem dX11_lift_36 : decode cX11_lift 36 = .ok (.ireturn, 1) := by decide +kernel
theorem dX11_lift_37 : decode cX11_lift 37 = .ok (.aload_n 0, 1) := by decide +kernel
theorem dX11_lift_38 : decode cX11_lift 38 = .ok (.getfield 80, 3) := by decide +kernel
theorem dX11_lift_41 : decode cX11_lift 41 = .ok (.aload_n 0, 1) := by decide +kernel
theorem dX11_lift_42 : decode cX11_lift 42 = .ok (.getfield 80, 3) := by decide +kernel
theorem dX11_lift_45 : decode cX11_lift 45 = .ok (.getfield 137, 3) := by decide +kernel
theorem dX11_lift_48 : decode cX11_lift 48 = .ok (.iload_n 1, 1) := by decide +kernel
theorem dX11_lift_49 : decode cX11_lift 49 = .ok (.invokevirtual 208, 3) := by decide +kernel
theorem dX11_lift_52 : decode cX11_lift 52 = .ok (.ireturn, 1) := by decide +kernel
theorem dX11_both_0 : decode cX11_both 0 = .ok (.iload_n 1, 1) := by decide +kernel
theorem dX11_both_1 : decode cX11_both 1 = .ok (.iconst 0, 1) := by decide +kernel
theorem dX11_both_2 : decode cX11_both 2 = .ok (.bipush 60, 2) := by decide +kernel
theorem dX11_both_4 : decode cX11_both 4 = .ok (.invokestatic 91, 3) := by decide +kernel
theorem dX11_both_7 : decode cX11_both 7 = .ok (.ifCond .eq 8, 3) := by decide +kernel
theorem dX11_both_10 : decode cX11_both 10 = .ok (.aload_n 0, 1) := by decide +kernel
theorem dX11_both_11 : decode cX11_both 11 = .ok (.invokevirtual 95, 3) := by decide +kernel
theorem dX11_both_14 : decode cX11_both 14 = .ok (.ireturn, 1) := by decide +kernel
theorem dX11_both_15 : decode cX11_both 15 = .ok (.aload_n 0, 1) := by decide +kernel
theorem dX11_both_16 : decode cX11_both 16 = .ok (.getfield 80, 3) := by decide +kernel
theorem dX11_both_19 : decode cX11_both 19 = .ok (.aload_n 0, 1) := by decide +kernel
theorem dX11_both_20 : decode cX11_both 20 = .ok (.getfield 80, 3) := by decide +kernel
theorem dX11_both_23 : decode cX11_both 23 = .ok (.getfield 137, 3) := by decide +kernel
theorem dX11_both_26 : decode cX11_both 26 = .ok (.invokevirtual 146, 3) := by decide +kernel
theorem dX11_both_29 : decode cX11_both 29 = .ok (.ifCond .ne 8, 3) := by decide +kernel
theorem dX11_both_32 : decode cX11_both 32 = .ok (.aload_n 0, 1) := by decide +kernel
theorem dX11_both_33 : decode cX11_both 33 = .ok (.invokevirtual 154, 3) := by decide +kernel
theorem dX11_both_36 : decode cX11_both 36 = .ok (.ireturn, 1) := by decide +kernel
theorem dX11_both_37 : decode cX11_both 37 = .ok (.aload_n 0, 1) := by decide +kernel
theorem dX11_both_38 : decode cX11_both 38 = .ok (.getfield 23, 3) := by decide +kernel
theorem dX11_both_41 : decode cX11_both 41 = .ok (.aload_n 0, 1) := by decide +kernel
theorem dX11_both_42 : decode cX11_both 42 = .ok (.getfield 80, 3) := by decide +kernel
theorem dX11_both_45 : decode cX11_both 45 = .ok (.getfield 137, 3) := by decide +kernel
theorem dX11_both_48 : decode cX11_both 48 = .ok (.invokevirtual 211, 3) := by decide +kernel
theorem dX11_both_51 : decode cX11_both 51 = .ok (.aload_n 0, 1) := by decide +kernel
theorem dX11_both_52 : decode cX11_both 52 = .ok (.getfield 80, 3) := by decide +kernel
theorem dX11_both_55 : decode cX11_both 55 = .ok (.aload_n 0, 1) := by decide +kernel
theorem dX11_both_56 : decode cX11_both 56 = .ok (.getfield 23, 3) := by decide +kernel
theorem dX11_both_59 : decode cX11_both 59 = .ok (.iload_n 1, 1) := by decide +kernel
theorem dX11_both_60 : decode cX11_both 60 = .ok (.invokevirtual 161, 3) := by decide +kernel
theorem dX11_both_63 : decode cX11_both 63 = .ok (.aload_n 0, 1) := by decide +kernel
theorem dX11_both_64 : decode cX11_both 64 = .ok (.getfield 80, 3) := by decide +kernel
theorem dX11_both_67 : decode cX11_both 67 = .ok (.aload_n 0, 1) := by decide +kernel
theorem dX11_both_68 : decode cX11_both 68 = .ok (.getfield 23, 3) := by decide +kernel
theorem dX11_both_71 : decode cX11_both 71 = .ok (.invokevirtual 214, 3) := by decide +kernel
theorem dX11_both_74 : decode cX11_both 74 = .ok (.ireturn, 1) := by decide +kernel
theorem dX11_friends_0 : decode cX11_friends 0 = .ok (.aload_n 0, 1) := by decide +kernel
theorem dX11_friends_1 : decode cX11_friends 1 = .ok (.aload_n 0, 1) := by decide +kernel
theorem dX11_friends_2 : decode cX11_friends 2 = .ok (.getfield 80, 3) := by decide +kernel
theorem dX11_friends_5 : decode cX11_friends 5 = .ok (.aload_n 0, 1) := by decide +kernel
theorem dX11_friends_6 : decode cX11_friends 6 = .ok (.getfield 80, 3) := by decide +kernel
theorem dX11_friends_9 : decode cX11_friends 9 = .ok (.getfield 137, 3) := by decide +kernel
theorem dX11_friends_12 : decode cX11_friends 12 = .ok (.invokevirtual 218, 3) := by decide +kernel
theorem dX11_friends_15 : decode cX11_friends 15 = .ok (.invokevirtual 221, 3) := by decide +kernel
theorem dX11_friends_18 : decode cX11_friends 18 = .ok (.ireturn, 1) := by decide +kernel
theorem dX11_then_0 : decode cX11_then 0 = .ok (.iload_n 1, 1) := by decide +kernel
theorem dX11_then_1 : decode cX11_then 1 = .ok (.iconst 0, 1) := by decide +kernel
theorem dX11_then_2 : decode cX11_then 2 = .ok (.bipush 90, 2) := by decide +kernel
theorem dX11_then_4 : decode cX11_then 4 = .ok (.invokestatic 91, 3) := by decide +kernel
theorem dX11_then_7 : decode cX11_then 7 = .ok (.ifCond .eq 8, 3) := by decide +kernel
theorem dX11_then_10 : decode cX11_then 10 = .ok (.aload_n 0, 1) := by decide +kernel
theorem dX11_then_11 : decode cX11_then 11 = .ok (.invokevirtual 95, 3) := by decide +kernel
theorem dX11_then_14 : decode cX11_then 14 = .ok (.ireturn, 1) := by decide +kernel
theorem dX11_then_15 : decode cX11_then 15 = .ok (.aload_n 0, 1) := by decide +kernel
theorem dX11_then_16 : decode cX11_then 16 = .ok (.getfield 23, 3) := by decide +kernel
theorem dX11_then_19 : decode cX11_then 19 = .ok (.aload_n 0, 1) := by decide +kernel
theorem dX11_then_20 : decode cX11_then 20 = .ok (.getfield 80, 3) := by decide +kernel
theorem dX11_then_23 : decode cX11_then 23 = .ok (.getfield 137, 3) := by decide +kernel
theorem dX11_then_26 : decode cX11_then 26 = .ok (.invokevirtual 211, 3) := by decide +kernel
theorem dX11_then_29 : decode cX11_then 29 = .ok (.aload_n 0, 1) := by decide +kernel
theorem dX11_then_30 : decode cX11_then 30 = .ok (.getfield 80, 3) := by decide +kernel
theorem dX11_then_33 : decode cX11_then 33 = .ok (.aload_n 0, 1) := by decide +kernel
theorem dX11_then_34 : decode cX11_then 34 = .ok (.getfield 23, 3) := by decide +kernel
theorem dX11_then_37 : decode cX11_then 37 = .ok (.iload_n 1, 1) := by decide +kernel
theorem dX11_then_38 : decode cX11_then 38 = .ok (.invokevirtual 161, 3) := by decide +kernel
theorem dX11_then_41 : decode cX11_then 41 = .ok (.aload_n 0, 1) := by decide +kernel
theorem dX11_then_42 : decode cX11_then 42 = .ok (.getfield 23, 3) := by decide +kernel
theorem dX11_then_45 : decode cX11_then 45 = .ok (.getfield 165, 3) := by decide +kernel
theorem dX11_then_48 : decode cX11_then 48 = .ok (.ireturn, 1) := by decide +kernel
theorem dX11_most_0 : decode cX11_most 0 = .ok (.iload_n 1, 1) := by decide +kernel
theorem dX11_most_1 : decode cX11_most 1 = .ok (.iconst 1, 1) := by decide +kernel
theorem dX11_most_2 : decode cX11_most 2 = .ok (.iconst 4, 1) := by decide +kernel
theorem dX11_most_3 : decode cX11_most 3 = .ok (.invokestatic 91, 3) := by decide +kernel
theorem dX11_most_6 : decode cX11_most 6 = .ok (.ifCond .ne 8, 3) := by decide +kernel
theorem dX11_most_9 : decode cX11_most 9 = .ok (.iload_n 2, 1) := by decide +kernel
theorem dX11_most_10 : decode cX11_most 10 = .ok (.iconst (-1), 1) := by decide +kernel
theorem dX11_most_11 : decode cX11_most 11 = .ok (.if_icmp .ge 11, 3) := by decide +kernel
theorem dX11_most_14 : decode cX11_most 14 = .ok (.aload_n 0, 1) := by decide +kernel
theorem dX11_most_15 : decode cX11_most 15 = .ok (.invokevirtual 95, 3) := by decide +kernel
theorem dX11_most_18 : decode cX11_most 18 = .ok (.pop, 1) := by decide +kernel
theorem dX11_most_19 : decode cX11_most 19 = .ok (.bipush (-10), 2) := by decide +kernel
theorem dX11_most_21 : decode cX11_most 21 = .ok (.ireturn, 1) := by decide +kernel
theorem dX11_most_22 : decode cX11_most 22 = .ok (.aload_n 0, 1) := by decide +kernel
theorem dX11_most_23 : decode cX11_most 23 = .ok (.getfield 80, 3) := by decide +kernel
theorem dX11_most_26 : decode cX11_most 26 = .ok (.aload_n 0, 1) := by decide +kernel
theorem dX11_most_27 : decode cX11_most 27 = .ok (.getfield 80, 3) := by decide +kernel
theorem dX11_most_30 : decode cX11_most 30 = .ok (.getfield 137, 3) := by decide +kernel
theorem dX11_most_33 : decode cX11_most 33 = .ok (.invokevirtual 146, 3) := by decide +kernel
theorem dX11_most_36 : decode cX11_most 36 = .ok (.ifCond .ne 8, 3) := by decide +kernel
theorem dX11_most_39 : decode cX11_most 39 = .ok (.aload_n 0, 1) := by decide +kernel
theorem dX11_most_40 : decode cX11_most 40 = .ok (.invokevirtual 154, 3) := by decide +kernel
theorem dX11_most_43 : decode cX11_most 43 = .ok (.ireturn, 1) := by decide +kernel
theorem dX11_most_44 : decode cX11_most 44 = .ok (.iload_n 2, 1) := by decide +kernel
theorem dX11_most_45 : decode cX11_most 45 = .ok (.iload_n 1, 1) := by decide +kernel
theorem dX11_most_46 : decode cX11_most 46 = .ok (.if_icmp .lt 6, 3) := by decide +kernel
theorem dX11_most_49 : decode cX11_most 49 = .ok (.bipush (-5), 2) := by decide +kernel
theorem dX11_most_51 : decode cX11_most 51 = .ok (.ireturn, 1) := by decide +kernel
theorem dX11_most_52 : decode cX11_most 52 = .ok (.aload_n 0, 1) := by decide +kernel
theorem dX11_most_53 : decode cX11_most 53 = .ok (.iconst (-1), 1) := by decide +kernel
theorem dX11_most_54 : decode cX11_most 54 = .ok (.putfield 38, 3) := by decide +kernel
theorem dX11_most_57 : decode cX11_most 57 = .ok (.aload_n 0, 1) := by decide +kernel
theorem dX11_most_58 : decode cX11_most 58 = .ok (.getfield 27, 3) := by decide +kernel
theorem dX11_most_61 : decode cX11_most 61 = .ok (.iconst 0, 1) := by decide +kernel
theorem dX11_most_62 : decode cX11_most 62 = .ok (.aaload, 1) := by decide +kernel
theorem dX11_most_63 : decode cX11_most 63 = .ok (.aload_n 0, 1) := by decide +kernel
theorem dX11_most_64 : decode cX11_most 64 = .ok (.getfield 80, 3) := by decide +kernel
theorem dX11_most_67 : decode cX11_most 67 = .ok (.getfield 137, 3) := by decide +kernel
theorem dX11_most_70 : decode cX11_most 70 = .ok (.invokevirtual 211, 3) := by decide +kernel
theorem dX11_most_73 : decode cX11_most 73 = .ok (.aload_n 0, 1) := by decide +kernel
theorem dX11_most_74 : decode cX11_most 74 = .ok (.iconst 0, 1) := by decide +kernel
theorem dX11_most_75 : decode cX11_most 75 = .ok (.iload_n 1, 1) := by decide +kernel
theorem dX11_most_76 : decode cX11_most 76 = .ok (.iconst 0, 1) := by decide +kernel
theorem dX11_most_77 : decode cX11_most 77 = .ok (.aload_n 0, 1) := by decide +kernel
theorem dX11_most_78 : decode cX11_most 78 = .ok (.getfield 80, 3) := by decide +kernel
theorem dX11_most_81 : decode cX11_most 81 = .ok (.aload_n 0, 1) := by decide +kernel
theorem dX11_most_82 : decode cX11_most 82 = .ok (.getfield 80, 3) := by decide +kernel
theorem dX11_most_85 : decode cX11_most 85 = .ok (.getfield 137, 3) := by decide +kernel
theorem dX11_most_88 : decode cX11_most 88 = .ok (.invokevirtual 218, 3) := by decide +kernel
theorem dX11_most_91 : decode cX11_most 91 = .ok (.invokevirtual 224, 3) := by decide +kernel
theorem dX11_most_94 : decode cX11_most 94 = .ok (.iload_n 2, 1) := by decide +kernel
theorem dX11_most_95 : decode cX11_most 95 = .ok (.iconst (-1), 1) := by decide +kernel
theorem dX11_most_96 : decode cX11_most 96 = .ok (.if_icmp .ne 10, 3) := by decide +kernel
theorem dX11_most_99 : decode cX11_most 99 = .ok (.aload_n 0, 1) := by decide +kernel
theorem dX11_most_100 : decode cX11_most 100 = .ok (.getfield 38, 3) := by decide +kernel
theorem dX11_most_103 : decode cX11_most 103 = .ok (.goto 9, 3) := by decide +kernel
theorem dX11_most_106 : decode cX11_most 106 = .ok (.aload_n 0, 1) := by decide +kernel
theorem dX11_most_107 : decode cX11_most 107 = .ok (.getfield 35, 3) := by decide +kernel
theorem dX11_most_110 : decode cX11_most 110 = .ok (.iload_n 2, 1) := by decide +kernel
theorem dX11_most_111 : decode cX11_most 111 = .ok (.iaload, 1) := by decide +kernel
theorem dX11_most_112 : decode cX11_most 112 = .ok (.ireturn, 1) := by decide +kernel
theorem dX11_keep_0 : decode cX11_keep 0 = .ok (.iload_n 1, 1) := by decide +kernel
theorem dX11_keep_1 : decode cX11_keep 1 = .ok (.iconst 1, 1) := by decide +kernel
theorem dX11_keep_2 : decode cX11_keep 2 = .ok (.bipush 60, 2) := by decide +kernel
theorem dX11_keep_4 : decode cX11_keep 4 = .ok (.invokestatic 91, 3) := by decide +kernel
theorem dX11_keep_7 : decode cX11_keep 7 = .ok (.ifCond .eq 8, 3) := by decide +kernel
theorem dX11_keep_10 : decode cX11_keep 10 = .ok (.aload_n 0, 1) := by decide +kernel
theorem dX11_keep_11 : decode cX11_keep 11 = .ok (.invokevirtual 95, 3) := by decide +kernel
theorem dX11_keep_14 : decode cX11_keep 14 = .ok (.ireturn, 1) := by decide +kernel
theorem dX11_keep_15 : decode cX11_keep 15 = .ok (.aload_n 0, 1) := by decide +kernel
theorem dX11_keep_16 : decode cX11_keep 16 = .ok (.getfield 80, 3) := by decide +kernel
theorem dX11_keep_19 : decode cX11_keep 19 = .ok (.aload_n 0, 1) := by decide +kernel
theorem dX11_keep_20 : decode cX11_keep 20 = .ok (.getfield 80, 3) := by decide +kernel
theorem dX11_keep_23 : decode cX11_keep 23 = .ok (.getfield 137, 3) := by decide +kernel
theorem dX11_keep_26 : decode cX11_keep 26 = .ok (.invokevirtual 218, 3) := by decide +kernel
theorem dX11_keep_29 : decode cX11_keep 29 = .ok (.istore_n 2, 1) := by decide +kernel
theorem dX11_keep_30 : decode cX11_keep 30 = .ok (.iconst 0, 1) := by decide +kernel
theorem dX11_keep_31 : decode cX11_keep 31 = .ok (.istore_n 3, 1) := by decide +kernel
theorem dX11_keep_32 : decode cX11_keep 32 = .ok (.iload_n 3, 1) := by decide +kernel
theorem dX11_keep_33 : decode cX11_keep 33 = .ok (.bipush 99, 2) := by decide +kernel
theorem dX11_keep_35 : decode cX11_keep 35 = .ok (.if_icmp .gt 21, 3) := by decide +kernel
theorem dX11_keep_38 : decode cX11_keep 38 = .ok (.aload_n 0, 1) := by decide +kernel
theorem dX11_keep_39 : decode cX11_keep 39 = .ok (.iload_n 3, 1) := by decide +kernel
theorem dX11_keep_40 : decode cX11_keep 40 = .ok (.iload_n 2, 1) := by decide +kernel
theorem dX11_keep_41 : decode cX11_keep 41 = .ok (.iload_n 1, 1) := by decide +kernel
theorem dX11_keep_42 : decode cX11_keep 42 = .ok (.invokevirtual 228, 3) := by decide +kernel
theorem dX11_keep_45 : decode cX11_keep 45 = .ok (.ifCond .eq 5, 3) := by decide +kernel
theorem dX11_keep_48 : decode cX11_keep 48 = .ok (.iload_n 3, 1) := by decide +kernel
theorem dX11_keep_49 : decode cX11_keep 49 = .ok (.ireturn, 1) := by decide +kernel
theorem dX11_keep_50 : decode cX11_keep 50 = .ok (.iinc 3 1, 3) := by decide +kernel
theorem dX11_keep_53 : decode cX11_keep 53 = .ok (.goto (-21), 3) := by decide +kernel
theorem dX11_keep_56 : decode cX11_keep 56 = .ok (.iconst (-1), 1) := by decide +kernel
theorem dX11_keep_57 : decode cX11_keep 57 = .ok (.ireturn, 1) := by decide +kernel
theorem dX11_lasts_0 : decode cX11_lasts 0 = .ok (.aload_n 0, 1) := by decide +kernel
theorem dX11_lasts_1 : decode cX11_lasts 1 = .ok (.getfield 80, 3) := by decide +kernel
theorem dX11_lasts_4 : decode cX11_lasts 4 = .ok (.iload_n 1, 1) := by decide +kernel
theorem dX11_lasts_5 : decode cX11_lasts 5 = .ok (.iload_n 2, 1) := by decide +kernel
theorem dX11_lasts_6 : decode cX11_lasts 6 = .ok (.invokevirtual 130, 3) := by decide +kernel
theorem dX11_lasts_9 : decode cX11_lasts 9 = .ok (.ifCond .ne 8, 3) := by decide +kernel
theorem dX11_lasts_12 : decode cX11_lasts 12 = .ok (.aload_n 0, 1) := by decide +kernel
theorem dX11_lasts_13 : decode cX11_lasts 13 = .ok (.invokevirtual 95, 3) := by decide +kernel
theorem dX11_lasts_16 : decode cX11_lasts 16 = .ok (.ireturn, 1) := by decide +kernel
theorem dX11_lasts_17 : decode cX11_lasts 17 = .ok (.aload_n 0, 1) := by decide +kernel
theorem dX11_lasts_18 : decode cX11_lasts 18 = .ok (.iload_n 1, 1) := by decide +kernel
theorem dX11_lasts_19 : decode cX11_lasts 19 = .ok (.iload_n 2, 1) := by decide +kernel
theorem dX11_lasts_20 : decode cX11_lasts 20 = .ok (.invokevirtual 231, 3) := by decide +kernel
theorem dX11_lasts_23 : decode cX11_lasts 23 = .ok (.ireturn, 1) := by decide +kernel
theorem dX11_pairs_0 : decode cX11_pairs 0 = .ok (.iload_n 1, 1) := by decide +kernel
theorem dX11_pairs_1 : decode cX11_pairs 1 = .ok (.iconst 0, 1) := by decide +kernel
theorem dX11_pairs_2 : decode cX11_pairs 2 = .ok (.iconst 1, 1) := by decide +kernel
theorem dX11_pairs_3 : decode cX11_pairs 3 = .ok (.invokestatic 91, 3) := by decide +kernel
theorem dX11_pairs_6 : decode cX11_pairs 6 = .ok (.ifCond .eq 8, 3) := by decide +kernel
theorem dX11_pairs_9 : decode cX11_pairs 9 = .ok (.aload_n 0, 1) := by decide +kernel
theorem dX11_pairs_10 : decode cX11_pairs 10 = .ok (.invokevirtual 95, 3) := by decide +kernel
theorem dX11_pairs_13 : decode cX11_pairs 13 = .ok (.ireturn, 1) := by decide +kernel
theorem dX11_pairs_14 : decode cX11_pairs 14 = .ok (.iload_n 1, 1) := by decide +kernel
theorem dX11_pairs_15 : decode cX11_pairs 15 = .ok (.ifCond .ne 10, 3) := by decide +kernel
theorem dX11_pairs_18 : decode cX11_pairs 18 = .ok (.aload_n 0, 1) := by decide +kernel
theorem dX11_pairs_19 : decode cX11_pairs 19 = .ok (.invokevirtual 235, 3) := by decide +kernel
theorem dX11_pairs_22 : decode cX11_pairs 22 = .ok (.goto 7, 3) := by decide +kernel
theorem dX11_pairs_25 : decode cX11_pairs 25 = .ok (.aload_n 0, 1) := by decide +kernel
theorem dX11_pairs_26 : decode cX11_pairs 26 = .ok (.invokevirtual 238, 3) := by decide +kernel
theorem dX11_pairs_29 : decode cX11_pairs 29 = .ok (.ireturn, 1) := by decide +kernel
theorem dX11_note_0 : decode cX11_note 0 = .ok (.aload_n 0, 1) := by decide +kernel
theorem dX11_note_1 : decode cX11_note 1 = .ok (.getfield 80, 3) := by decide +kernel
theorem dX11_note_4 : decode cX11_note 4 = .ok (.iload_n 1, 1) := by decide +kernel
theorem dX11_note_5 : decode cX11_note 5 = .ok (.invokevirtual 180, 3) := by decide +kernel
theorem dX11_note_8 : decode cX11_note 8 = .ok (.ifCond .eq 23, 3) := by decide +kernel
theorem dX11_note_11 : decode cX11_note 11 = .ok (.iload_n 2, 1) := by decide +kernel
theorem dX11_note_12 : decode cX11_note 12 = .ok (.iconst 0, 1) := by decide +kernel
theorem dX11_note_13 : decode cX11_note 13 = .ok (.bipush 7, 2) := by decide +kernel
theorem dX11_note_15 : decode cX11_note 15 = .ok (.invokestatic 91, 3) := by decide +kernel
theorem dX11_note_18 : decode cX11_note 18 = .ok (.ifCond .ne 13, 3) := by decide +kernel
theorem dX11_note_21 : decode cX11_note 21 = .ok (.iload_n 3, 1) := by decide +kernel
theorem dX11_note_22 : decode cX11_note 22 = .ok (.iconst 0, 1) := by decide +kernel
theorem dX11_note_23 : decode cX11_note 23 = .ok (.bipush 99, 2) := by decide +kernel
theorem dX11_note_25 : decode cX11_note 25 = .ok (.invokestatic 91, 3) := by decide +kernel
theorem dX11_note_28 : decode cX11_note 28 = .ok (.ifCond .eq 8, 3) := by decide +kernel
theorem dX11_note_31 : decode cX11_note 31 = .ok (.aload_n 0, 1) := by decide +kernel
theorem dX11_note_32 : decode cX11_note 32 = .ok (.invokevirtual 95, 3) := by decide +kernel
theorem dX11_note_35 : decode cX11_note 35 = .ok (.ireturn, 1) := by decide +kernel
theorem dX11_note_36 : decode cX11_note 36 = .ok (.iload 4, 2) := by decide +kernel
theorem dX11_note_38 : decode cX11_note 38 = .ok (.iconst 0, 1) := by decide +kernel
theorem dX11_note_39 : decode cX11_note 39 = .ok (.bipush 99, 2) := by decide +kernel
theorem dX11_note_41 : decode cX11_note 41 = .ok (.invokestatic 91, 3) := by decide +kernel
theorem dX11_note_44 : decode cX11_note 44 = .ok (.ifCond .ne 13, 3) := by decide +kernel
theorem dX11_note_47 : decode cX11_note 47 = .ok (.iload 5, 2) := by decide +kernel
theorem dX11_note_49 : decode cX11_note 49 = .ok (.iconst 0, 1) := by decide +kernel
theorem dX11_note_50 : decode cX11_note 50 = .ok (.iconst 1, 1) := by decide +kernel
theorem dX11_note_51 : decode cX11_note 51 = .ok (.invokestatic 91, 3) := by decide +kernel
theorem dX11_note_54 : decode cX11_note 54 = .ok (.ifCond .eq 8, 3) := by decide +kernel
theorem dX11_note_57 : decode cX11_note 57 = .ok (.aload_n 0, 1) := by decide +kernel
theorem dX11_note_58 : decode cX11_note 58 = .ok (.invokevirtual 95, 3) := by decide +kernel
theorem dX11_note_61 : decode cX11_note 61 = .ok (.ireturn, 1) := by decide +kernel
theorem dX11_note_62 : decode cX11_note 62 = .ok (.aload_n 0, 1) := by decide +kernel
theorem dX11_note_63 : decode cX11_note 63 = .ok (.getfield 80, 3) := by decide +kernel
theorem dX11_note_66 : decode cX11_note 66 = .ok (.getfield 241, 3) := by decide +kernel
theorem dX11_note_69 : decode cX11_note 69 = .ok (.bipush 6, 2) := by decide +kernel
theorem dX11_note_71 : decode cX11_note 71 = .ok (.if_icmp .lt 8, 3) := by decide +kernel
theorem dX11_note_74 : decode cX11_note 74 = .ok (.aload_n 0, 1) := by decide +kernel
theorem dX11_note_75 : decode cX11_note 75 = .ok (.invokevirtual 106, 3) := by decide +kernel
theorem dX11_note_78 : decode cX11_note 78 = .ok (.ireturn, 1) := by decide +kernel
theorem dX11_note_79 : decode cX11_note 79 = .ok (.aload_n 0, 1) := by decide +kernel
theorem dX11_note_80 : decode cX11_note 80 = .ok (.getfield 80, 3) := by decide +kernel
theorem dX11_note_83 : decode cX11_note 83 = .ok (.getfield 244, 3) := by decide +kernel
theorem dX11_note_86 : decode cX11_note 86 = .ok (.aload_n 0, 1) := by decide +kernel
theorem dX11_note_87 : decode cX11_note 87 = .ok (.getfield 80, 3) := by decide +kernel
theorem dX11_note_90 : decode cX11_note 90 = .ok (.getfield 241, 3) := by decide +kernel
theorem dX11_note_93 : decode cX11_note 93 = .ok (.aaload, 1) := by decide +kernel
theorem dX11_note_94 : decode cX11_note 94 = .ok (.iload_n 1, 1) := by decide +kernel
theorem dX11_note_95 : decode cX11_note 95 = .ok (.iload_n 2, 1) := by decide +kernel
theorem dX11_note_96 : decode cX11_note 96 = .ok (.iload_n 3, 1) := by decide +kernel
theorem dX11_note_97 : decode cX11_note 97 = .ok (.iload 4, 2) := by decide +kernel
theorem dX11_note_99 : decode cX11_note 99 = .ok (.iload 5, 2) := by decide +kernel
theorem dX11_note_101 : decode cX11_note 101 = .ok (.invokevirtual 248, 3) := by decide +kernel
theorem dX11_note_104 : decode cX11_note 104 = .ok (.aload_n 0, 1) := by decide +kernel
theorem dX11_note_105 : decode cX11_note 105 = .ok (.getfield 80, 3) := by decide +kernel
theorem dX11_note_108 : decode cX11_note 108 = .ok (.dup, 1) := by decide +kernel
theorem dX11_note_109 : decode cX11_note 109 = .ok (.getfield 241, 3) := by decide +kernel
theorem dX11_note_112 : decode cX11_note 112 = .ok (.iconst 1, 1) := by decide +kernel
theorem dX11_note_113 : decode cX11_note 113 = .ok (.iadd, 1) := by decide +kernel
theorem dX11_note_114 : decode cX11_note 114 = .ok (.putfield 241, 3) := by decide +kernel
theorem dX11_note_117 : decode cX11_note 117 = .ok (.aload_n 0, 1) := by decide +kernel
theorem dX11_note_118 : decode cX11_note 118 = .ok (.getfield 80, 3) := by decide +kernel
theorem dX11_note_121 : decode cX11_note 121 = .ok (.getfield 241, 3) := by decide +kernel
theorem dX11_note_124 : decode cX11_note 124 = .ok (.ireturn, 1) := by decide +kernel
theorem dX11_forget_0 : decode cX11_forget 0 = .ok (.aload_n 0, 1) := by decide +kernel
theorem dX11_forget_1 : decode cX11_forget 1 = .ok (.getfield 80, 3) := by decide +kernel
theorem dX11_forget_4 : decode cX11_forget 4 = .ok (.getfield 241, 3) := by decide +kernel
theorem dX11_forget_7 : decode cX11_forget 7 = .ok (.istore_n 1, 1) := by decide +kernel
theorem dX11_forget_8 : decode cX11_forget 8 = .ok (.aload_n 0, 1) := by decide +kernel
theorem dX11_forget_9 : decode cX11_forget 9 = .ok (.getfield 80, 3) := by decide +kernel
theorem dX11_forget_12 : decode cX11_forget 12 = .ok (.iconst 0, 1) := by decide +kernel
theorem dX11_forget_13 : decode cX11_forget 13 = .ok (.putfield 241, 3) := by decide +kernel
theorem dX11_forget_16 : decode cX11_forget 16 = .ok (.iload_n 1, 1) := by decide +kernel
theorem dX11_forget_17 : decode cX11_forget 17 = .ok (.ireturn, 1) := by decide +kernel
theorem dX11_is_0 : decode cX11_is 0 = .ok (.aload_n 0, 1) := by decide +kernel
theorem dX11_is_1 : decode cX11_is 1 = .ok (.getfield 80, 3) := by decide +kernel
theorem dX11_is_4 : decode cX11_is 4 = .ok (.iload_n 1, 1) := by decide +kernel
theorem dX11_is_5 : decode cX11_is 5 = .ok (.invokevirtual 180, 3) := by decide +kernel
theorem dX11_is_8 : decode cX11_is 8 = .ok (.ifCond .ne 8, 3) := by decide +kernel
theorem dX11_is_11 : decode cX11_is 11 = .ok (.aload_n 0, 1) := by decide +kernel
theorem dX11_is_12 : decode cX11_is 12 = .ok (.invokevirtual 95, 3) := by decide +kernel
theorem dX11_is_15 : decode cX11_is 15 = .ok (.ireturn, 1) := by decide +kernel
theorem dX11_is_16 : decode cX11_is 16 = .ok (.aload_n 0, 1) := by decide +kernel
theorem dX11_is_17 : decode cX11_is 17 = .ok (.iload_n 1, 1) := by decide +kernel
theorem dX11_is_18 : decode cX11_is 18 = .ok (.invokevirtual 254, 3) := by decide +kernel
theorem dX11_is_21 : decode cX11_is 21 = .ok (.ireturn, 1) := by decide +kernel
theorem dX11_heart_0 : decode cX11_heart 0 = .ok (.aload_n 0, 1) := by decide +kernel
theorem dX11_heart_1 : decode cX11_heart 1 = .ok (.getfield 80, 3) := by decide +kernel
theorem dX11_heart_4 : decode cX11_heart 4 = .ok (.iload_n 1, 1) := by decide +kernel
theorem dX11_heart_5 : decode cX11_heart 5 = .ok (.invokevirtual 180, 3) := by decide +kernel
theorem dX11_heart_8 : decode cX11_heart 8 = .ok (.ifCond .eq 13, 3) := by decide +kernel
theorem dX11_heart_11 : decode cX11_heart 11 = .ok (.iload_n 2, 1) := by decide +kernel
theorem dX11_heart_12 : decode cX11_heart 12 = .ok (.iconst 0, 1) := by decide +kernel
theorem dX11_heart_13 : decode cX11_heart 13 = .ok (.bipush 7, 2) := by decide +kernel
theorem dX11_heart_15 : decode cX11_heart 15 = .ok (.invokestatic 91, 3) := by decide +kernel
theorem dX11_heart_18 : decode cX11_heart 18 = .ok (.ifCond .eq 8, 3) := by decide +kernel
theorem dX11_heart_21 : decode cX11_heart 21 = .ok (.aload_n 0, 1) := by decide +kernel
theorem dX11_heart_22 : decode cX11_heart 22 = .ok (.invokevirtual 95, 3) := by decide +kernel
theorem dX11_heart_25 : decode cX11_heart 25 = .ok (.ireturn, 1) := by decide +kernel
theorem dX11_heart_26 : decode cX11_heart 26 = .ok (.aload_n 0, 1) := by decide +kernel
theorem dX11_heart_27 : decode cX11_heart 27 = .ok (.getfield 80, 3) := by decide +kernel
theorem dX11_heart_30 : decode cX11_heart 30 = .ok (.getfield 183, 3) := by decide +kernel
theorem dX11_heart_33 : decode cX11_heart 33 = .ok (.iload_n 1, 1) := by decide +kernel
theorem dX11_heart_34 : decode cX11_heart 34 = .ok (.aaload, 1) := by decide +kernel
theorem dX11_heart_35 : decode cX11_heart 35 = .ok (.astore_n 3, 1) := by decide +kernel
theorem dX11_heart_36 : decode cX11_heart 36 = .ok (.aload_n 3, 1) := by decide +kernel
theorem dX11_heart_37 : decode cX11_heart 37 = .ok (.getfield 192, 3) := by decide +kernel
theorem dX11_heart_40 : decode cX11_heart 40 = .ok (.istore 4, 2) := by decide +kernel
theorem dX11_heart_42 : decode cX11_heart 42 = .ok (.aload_n 3, 1) := by decide +kernel
theorem dX11_heart_43 : decode cX11_heart 43 = .ok (.getfield 195, 3) := by decide +kernel
theorem dX11_heart_46 : decode cX11_heart 46 = .ok (.istore 5, 2) := by decide +kernel
theorem dX11_heart_48 : decode cX11_heart 48 = .ok (.iconst 1, 1) := by decide +kernel
theorem dX11_heart_49 : decode cX11_heart 49 = .ok (.iload_n 2, 1) := by decide +kernel
theorem dX11_heart_50 : decode cX11_heart 50 = .ok (.ishl, 1) := by decide +kernel
theorem dX11_heart_51 : decode cX11_heart 51 = .ok (.istore 6, 2) := by decide +kernel
theorem dX11_heart_53 : decode cX11_heart 53 = .ok (.iconst 0, 1) := by decide +kernel
theorem dX11_heart_54 : decode cX11_heart 54 = .ok (.istore 7, 2) := by decide +kernel
theorem dX11_heart_56 : decode cX11_heart 56 = .ok (.aload_n 3, 1) := by decide +kernel
theorem dX11_heart_57 : decode cX11_heart 57 = .ok (.iload 4, 2) := by decide +kernel
theorem dX11_heart_59 : decode cX11_heart 59 = .ok (.iload 6, 2) := by decide +kernel
theorem dX11_heart_61 : decode cX11_heart 61 = .ok (.ior, 1) := by decide +kernel
theorem dX11_heart_62 : decode cX11_heart 62 = .ok (.iload 5, 2) := by decide +kernel
theorem dX11_heart_64 : decode cX11_heart 64 = .ok (.iload 6, 2) := by decide +kernel
theorem dX11_heart_66 : decode cX11_heart 66 = .ok (.iconst (-1), 1) := by decide +kernel
theorem dX11_heart_67 : decode cX11_heart 67 = .ok (.ixor, 1) := by decide +kernel
theorem dX11_heart_68 : decode cX11_heart 68 = .ok (.iand, 1) := by decide +kernel
theorem dX11_heart_69 : decode cX11_heart 69 = .ok (.invokevirtual 257, 3) := by decide +kernel
theorem dX11_heart_72 : decode cX11_heart 72 = .ok (.aload_n 0, 1) := by decide +kernel
theorem dX11_heart_73 : decode cX11_heart 73 = .ok (.getfield 80, 3) := by decide +kernel
theorem dX11_heart_76 : decode cX11_heart 76 = .ok (.iload_n 1, 1) := by decide +kernel
theorem dX11_heart_77 : decode cX11_heart 77 = .ok (.aload_n 3, 1) := by decide +kernel
theorem dX11_heart_78 : decode cX11_heart 78 = .ok (.getfield 187, 3) := by decide +kernel
theorem dX11_heart_81 : decode cX11_heart 81 = .ok (.invokevirtual 261, 3) := by decide +kernel
theorem dX11_heart_84 : decode cX11_heart 84 = .ok (.ifCond .eq 9, 3) := by decide +kernel
theorem dX11_heart_87 : decode cX11_heart 87 = .ok (.iload 7, 2) := by decide +kernel
theorem dX11_heart_89 : decode cX11_heart 89 = .ok (.iconst 1, 1) := by decide +kernel
theorem dX11_heart_90 : decode cX11_heart 90 = .ok (.ior, 1) := by decide +kernel
theorem dX11_heart_91 : decode cX11_heart 91 = .ok (.istore 7, 2) := by decide +kernel
theorem dX11_heart_93 : decode cX11_heart 93 = .ok (.aload_n 3, 1) := by decide +kernel
theorem dX11_heart_94 : decode cX11_heart 94 = .ok (.iload 4, 2) := by decide +kernel
theorem dX11_heart_96 : decode cX11_heart 96 = .ok (.iload 6, 2) := by decide +kernel
theorem dX11_heart_98 : decode cX11_heart 98 = .ok (.iconst (-1), 1) := by decide +kernel
theorem dX11_heart_99 : decode cX11_heart 99 = .ok (.ixor, 1) := by decide +kernel
theorem dX11_heart_100 : decode cX11_heart 100 = .ok (.iand, 1) := by decide +kernel
theorem dX11_heart_101 : decode cX11_heart 101 = .ok (.iload 5, 2) := by decide +kernel
theorem dX11_heart_103 : decode cX11_heart 103 = .ok (.iload 6, 2) := by decide +kernel
theorem dX11_heart_105 : decode cX11_heart 105 = .ok (.ior, 1) := by decide +kernel
theorem dX11_heart_106 : decode cX11_heart 106 = .ok (.invokevirtual 257, 3) := by decide +kernel
theorem dX11_heart_109 : decode cX11_heart 109 = .ok (.aload_n 0, 1) := by decide +kernel
theorem dX11_heart_110 : decode cX11_heart 110 = .ok (.getfield 80, 3) := by decide +kernel
theorem dX11_heart_113 : decode cX11_heart 113 = .ok (.iload_n 1, 1) := by decide +kernel
theorem dX11_heart_114 : decode cX11_heart 114 = .ok (.aload_n 3, 1) := by decide +kernel
theorem dX11_heart_115 : decode cX11_heart 115 = .ok (.getfield 187, 3) := by decide +kernel
theorem dX11_heart_118 : decode cX11_heart 118 = .ok (.invokevirtual 261, 3) := by decide +kernel
theorem dX11_heart_121 : decode cX11_heart 121 = .ok (.ifCond .eq 9, 3) := by decide +kernel
theorem dX11_heart_124 : decode cX11_heart 124 = .ok (.iload 7, 2) := by decide +kernel
theorem dX11_heart_126 : decode cX11_heart 126 = .ok (.iconst 2, 1) := by decide +kernel
theorem dX11_heart_127 : decode cX11_heart 127 = .ok (.ior, 1) := by decide +kernel
theorem dX11_heart_128 : decode cX11_heart 128 = .ok (.istore 7, 2) := by decide +kernel
theorem dX11_heart_130 : decode cX11_heart 130 = .ok (.aload_n 3, 1) := by decide +kernel
theorem dX11_heart_131 : decode cX11_heart 131 = .ok (.iload 4, 2) := by decide +kernel
theorem dX11_heart_133 : decode cX11_heart 133 = .ok (.iload 6, 2) := by decide +kernel
theorem dX11_heart_135 : decode cX11_heart 135 = .ok (.iconst (-1), 1) := by decide +kernel
theorem dX11_heart_136 : decode cX11_heart 136 = .ok (.ixor, 1) := by decide +kernel
theorem dX11_heart_137 : decode cX11_heart 137 = .ok (.iand, 1) := by decide +kernel
theorem dX11_heart_138 : decode cX11_heart 138 = .ok (.iload 5, 2) := by decide +kernel
theorem dX11_heart_140 : decode cX11_heart 140 = .ok (.iload 6, 2) := by decide +kernel
theorem dX11_heart_142 : decode cX11_heart 142 = .ok (.iconst (-1), 1) := by decide +kernel
theorem dX11_heart_143 : decode cX11_heart 143 = .ok (.ixor, 1) := by decide +kernel
theorem dX11_heart_144 : decode cX11_heart 144 = .ok (.iand, 1) := by decide +kernel
theorem dX11_heart_145 : decode cX11_heart 145 = .ok (.invokevirtual 257, 3) := by decide +kernel
theorem dX11_heart_148 : decode cX11_heart 148 = .ok (.aload_n 0, 1) := by decide +kernel
theorem dX11_heart_149 : decode cX11_heart 149 = .ok (.getfield 80, 3) := by decide +kernel
theorem dX11_heart_152 : decode cX11_heart 152 = .ok (.iload_n 1, 1) := by decide +kernel
theorem dX11_heart_153 : decode cX11_heart 153 = .ok (.aload_n 3, 1) := by decide +kernel
theorem dX11_heart_154 : decode cX11_heart 154 = .ok (.getfield 187, 3) := by decide +kernel
theorem dX11_heart_157 : decode cX11_heart 157 = .ok (.invokevirtual 261, 3) := by decide +kernel
theorem dX11_heart_160 : decode cX11_heart 160 = .ok (.ifCond .eq 9, 3) := by decide +kernel
theorem dX11_heart_163 : decode cX11_heart 163 = .ok (.iload 7, 2) := by decide +kernel
theorem dX11_heart_165 : decode cX11_heart 165 = .ok (.iconst 4, 1) := by decide +kernel
theorem dX11_heart_166 : decode cX11_heart 166 = .ok (.ior, 1) := by decide +kernel
theorem dX11_heart_167 : decode cX11_heart 167 = .ok (.istore 7, 2) := by decide +kernel
theorem dX11_heart_169 : decode cX11_heart 169 = .ok (.aload_n 3, 1) := by decide +kernel
theorem dX11_heart_170 : decode cX11_heart 170 = .ok (.iload 4, 2) := by decide +kernel
theorem dX11_heart_172 : decode cX11_heart 172 = .ok (.iload 5, 2) := by decide +kernel
theorem dX11_heart_174 : decode cX11_heart 174 = .ok (.invokevirtual 257, 3) := by decide +kernel
theorem dX11_heart_177 : decode cX11_heart 177 = .ok (.iload 7, 2) := by decide +kernel
theorem dX11_heart_179 : decode cX11_heart 179 = .ok (.ireturn, 1) := by decide +kernel
theorem dX11_next_0 : decode cX11_next 0 = .ok (.aload_n 0, 1) := by decide +kernel
theorem dX11_next_1 : decode cX11_next 1 = .ok (.getfield 80, 3) := by decide +kernel
theorem dX11_next_4 : decode cX11_next 4 = .ok (.iload_n 1, 1) := by decide +kernel
theorem dX11_next_5 : decode cX11_next 5 = .ok (.invokevirtual 180, 3) := by decide +kernel
theorem dX11_next_8 : decode cX11_next 8 = .ok (.ifCond .ne 8, 3) := by decide +kernel
theorem dX11_next_11 : decode cX11_next 11 = .ok (.aload_n 0, 1) := by decide +kernel
theorem dX11_next_12 : decode cX11_next 12 = .ok (.invokevirtual 95, 3) := by decide +kernel
theorem dX11_next_15 : decode cX11_next 15 = .ok (.ireturn, 1) := by decide +kernel
theorem dX11_next_16 : decode cX11_next 16 = .ok (.aload_n 0, 1) := by decide +kernel
theorem dX11_next_17 : decode cX11_next 17 = .ok (.iload_n 1, 1) := by decide +kernel
theorem dX11_next_18 : decode cX11_next 18 = .ok (.invokevirtual 254, 3) := by decide +kernel
theorem dX11_next_21 : decode cX11_next 21 = .ok (.istore_n 2, 1) := by decide +kernel
theorem dX11_next_22 : decode cX11_next 22 = .ok (.iload_n 2, 1) := by decide +kernel
theorem dX11_next_23 : decode cX11_next 23 = .ok (.ifCond .ne 5, 3) := by decide +kernel
theorem dX11_next_26 : decode cX11_next 26 = .ok (.iconst (-1), 1) := by decide +kernel
theorem dX11_next_27 : decode cX11_next 27 = .ok (.ireturn, 1) := by decide +kernel
theorem dX11_next_28 : decode cX11_next 28 = .ok (.iload_n 2, 1) := by decide +kernel
theorem dX11_next_29 : decode cX11_next 29 = .ok (.invokestatic 264, 3) := by decide +kernel
theorem dX11_next_32 : decode cX11_next 32 = .ok (.istore_n 3, 1) := by decide +kernel
theorem dX11_next_33 : decode cX11_next 33 = .ok (.iconst (-1), 1) := by decide +kernel
theorem dX11_next_34 : decode cX11_next 34 = .ok (.istore 4, 2) := by decide +kernel
theorem dX11_next_36 : decode cX11_next 36 = .ok (.bipush 7, 2) := by decide +kernel
theorem dX11_next_38 : decode cX11_next 38 = .ok (.istore 5, 2) := by decide +kernel
theorem dX11_next_40 : decode cX11_next 40 = .ok (.iconst 0, 1) := by decide +kernel
theorem dX11_next_41 : decode cX11_next 41 = .ok (.istore 6, 2) := by decide +kernel
theorem dX11_next_43 : decode cX11_next 43 = .ok (.iload 6, 2) := by decide +kernel
theorem dX11_next_45 : decode cX11_next 45 = .ok (.bipush 8, 2) := by decide +kernel
theorem dX11_next_47 : decode cX11_next 47 = .ok (.if_icmp .ge 52, 3) := by decide +kernel
theorem dX11_next_50 : decode cX11_next 50 = .ok (.iload_n 2, 1) := by decide +kernel
theorem dX11_next_51 : decode cX11_next 51 = .ok (.aload_n 0, 1) := by decide +kernel
theorem dX11_next_52 : decode cX11_next 52 = .ok (.getfield 80, 3) := by decide +kernel
theorem dX11_next_55 : decode cX11_next 55 = .ok (.iload_n 1, 1) := by decide +kernel
theorem dX11_next_56 : decode cX11_next 56 = .ok (.iload 6, 2) := by decide +kernel
theorem dX11_next_58 : decode cX11_next 58 = .ok (.invokevirtual 269, 3) := by decide +kernel
theorem dX11_next_61 : decode cX11_next 61 = .ok (.iand, 1) := by decide +kernel
theorem dX11_next_62 : decode cX11_next 62 = .ok (.invokestatic 264, 3) := by decide +kernel
theorem dX11_next_65 : decode cX11_next 65 = .ok (.istore 7, 2) := by decide +kernel
theorem dX11_next_67 : decode cX11_next 67 = .ok (.iload 7, 2) := by decide +kernel
theorem dX11_next_69 : decode cX11_next 69 = .ok (.iload_n 3, 1) := by decide +kernel
theorem dX11_next_70 : decode cX11_next 70 = .ok (.iload 7, 2) := by decide +kernel
theorem dX11_next_72 : decode cX11_next 72 = .ok (.isub, 1) := by decide +kernel
theorem dX11_next_73 : decode cX11_next 73 = .ok (.invokestatic 272, 3) := by decide +kernel
theorem dX11_next_76 : decode cX11_next 76 = .ok (.istore 8, 2) := by decide +kernel
theorem dX11_next_78 : decode cX11_next 78 = .ok (.iload 8, 2) := by decide +kernel
theorem dX11_next_80 : decode cX11_next 80 = .ok (.iload 5, 2) := by decide +kernel
theorem dX11_next_82 : decode cX11_next 82 = .ok (.if_icmp .ge 11, 3) := by decide +kernel
theorem dX11_next_85 : decode cX11_next 85 = .ok (.iload 8, 2) := by decide +kernel
theorem dX11_next_87 : decode cX11_next 87 = .ok (.istore 5, 2) := by decide +kernel
theorem dX11_next_89 : decode cX11_next 89 = .ok (.iload 6, 2) := by decide +kernel
theorem dX11_next_91 : decode cX11_next 91 = .ok (.istore 4, 2) := by decide +kernel
theorem dX11_next_93 : decode cX11_next 93 = .ok (.iinc 6 1, 3) := by decide +kernel
theorem dX11_next_96 : decode cX11_next 96 = .ok (.goto (-53), 3) := by decide +kernel
theorem dX11_next_99 : decode cX11_next 99 = .ok (.iload 4, 2) := by decide +kernel
theorem dX11_next_101 : decode cX11_next 101 = .ok (.ireturn, 1) := by decide +kernel
theorem dX11_spite_0 : decode cX11_spite 0 = .ok (.iload_n 1, 1) := by decide +kernel
theorem dX11_spite_1 : decode cX11_spite 1 = .ok (.iconst 0, 1) := by decide +kernel
theorem dX11_spite_2 : decode cX11_spite 2 = .ok (.bipush 7, 2) := by decide +kernel
theorem dX11_spite_4 : decode cX11_spite 4 = .ok (.invokestatic 91, 3) := by decide +kernel
theorem dX11_spite_7 : decode cX11_spite 7 = .ok (.ifCond .eq 8, 3) := by decide +kernel
theorem dX11_spite_10 : decode cX11_spite 10 = .ok (.aload_n 0, 1) := by decide +kernel
theorem dX11_spite_11 : decode cX11_spite 11 = .ok (.invokevirtual 95, 3) := by decide +kernel
theorem dX11_spite_14 : decode cX11_spite 14 = .ok (.ireturn, 1) := by decide +kernel
theorem dX11_spite_15 : decode cX11_spite 15 = .ok (.aload_n 0, 1) := by decide +kernel
theorem dX11_spite_16 : decode cX11_spite 16 = .ok (.getfield 80, 3) := by decide +kernel
theorem dX11_spite_19 : decode cX11_spite 19 = .ok (.aload_n 0, 1) := by decide +kernel
theorem dX11_spite_20 : decode cX11_spite 20 = .ok (.getfield 80, 3) := by decide +kernel
theorem dX11_spite_23 : decode cX11_spite 23 = .ok (.getfield 137, 3) := by decide +kernel
theorem dX11_spite_26 : decode cX11_spite 26 = .ok (.invokevirtual 146, 3) := by decide +kernel
theorem dX11_spite_29 : decode cX11_spite 29 = .ok (.ifCond .ne 8, 3) := by decide +kernel
theorem dX11_spite_32 : decode cX11_spite 32 = .ok (.aload_n 0, 1) := by decide +kernel
theorem dX11_spite_33 : decode cX11_spite 33 = .ok (.invokevirtual 154, 3) := by decide +kernel
theorem dX11_spite_36 : decode cX11_spite 36 = .ok (.ireturn, 1) := by decide +kernel
theorem dX11_spite_37 : decode cX11_spite 37 = .ok (.aload_n 0, 1) := by decide +kernel
theorem dX11_spite_38 : decode cX11_spite 38 = .ok (.getfield 80, 3) := by decide +kernel
theorem dX11_spite_41 : decode cX11_spite 41 = .ok (.getfield 183, 3) := by decide +kernel
theorem dX11_spite_44 : decode cX11_spite 44 = .ok (.aload_n 0, 1) := by decide +kernel
theorem dX11_spite_45 : decode cX11_spite 45 = .ok (.getfield 80, 3) := by decide +kernel
theorem dX11_spite_48 : decode cX11_spite 48 = .ok (.getfield 137, 3) := by decide +kernel
theorem dX11_spite_51 : decode cX11_spite 51 = .ok (.getfield 140, 3) := by decide +kernel
theorem dX11_spite_54 : decode cX11_spite 54 = .ok (.aaload, 1) := by decide +kernel
theorem dX11_spite_55 : decode cX11_spite 55 = .ok (.astore_n 2, 1) := by decide +kernel
theorem dX11_spite_56 : decode cX11_spite 56 = .ok (.aload_n 0, 1) := by decide +kernel
theorem dX11_spite_57 : decode cX11_spite 57 = .ok (.getfield 80, 3) := by decide +kernel
theorem dX11_spite_60 : decode cX11_spite 60 = .ok (.getfield 183, 3) := by decide +kernel
theorem dX11_spite_63 : decode cX11_spite 63 = .ok (.aload_n 0, 1) := by decide +kernel
theorem dX11_spite_64 : decode cX11_spite 64 = .ok (.getfield 80, 3) := by decide +kernel
theorem dX11_spite_67 : decode cX11_spite 67 = .ok (.getfield 137, 3) := by decide +kernel
theorem dX11_spite_70 : decode cX11_spite 70 = .ok (.getfield 143, 3) := by decide +kernel
theorem dX11_spite_73 : decode cX11_spite 73 = .ok (.aaload, 1) := by decide +kernel
theorem dX11_spite_74 : decode cX11_spite 74 = .ok (.astore_n 3, 1) := by decide +kernel
theorem dX11_spite_75 : decode cX11_spite 75 = .ok (.iconst 0, 1) := by decide +kernel
theorem dX11_spite_76 : decode cX11_spite 76 = .ok (.istore 4, 2) := by decide +kernel
theorem dX11_spite_78 : decode cX11_spite 78 = .ok (.iconst 0, 1) := by decide +kernel
theorem dX11_spite_79 : decode cX11_spite 79 = .ok (.istore 5, 2) := by decide +kernel
theorem dX11_spite_81 : decode cX11_spite 81 = .ok (.iload 5, 2) := by decide +kernel
theorem dX11_spite_83 : decode cX11_spite 83 = .ok (.iconst 3, 1) := by decide +kernel
theorem dX11_spite_84 : decode cX11_spite 84 = .ok (.if_icmp .gt 128, 3) := by decide +kernel
theorem dX11_spite_87 : decode cX11_spite 87 = .ok (.iload 5, 2) := by decide +kernel
theorem dX11_spite_89 : decode cX11_spite 89 = .ok (.iconst 1, 1) := by decide +kernel
theorem dX11_spite_90 : decode cX11_spite 90 = .ok (.iand, 1) := by decide +kernel
theorem dX11_spite_91 : decode cX11_spite 91 = .ok (.ifCond .eq 7, 3) := by decide +kernel
theorem dX11_spite_94 : decode cX11_spite 94 = .ok (.iconst 1, 1) := by decide +kernel
theorem dX11_spite_95 : decode cX11_spite 95 = .ok (.goto 4, 3) := by decide +kernel
theorem dX11_spite_98 : decode cX11_spite 98 = .ok (.iconst 0, 1) := by decide +kernel
theorem dX11_spite_99 : decode cX11_spite 99 = .ok (.istore 6, 2) := by decide +kernel
theorem dX11_spite_101 : decode cX11_spite 101 = .ok (.iload 5, 2) := by decide +kernel
theorem dX11_spite_103 : decode cX11_spite 103 = .ok (.iconst 2, 1) := by decide +kernel
theorem dX11_spite_104 : decode cX11_spite 104 = .ok (.iand, 1) := by decide +kernel
theorem dX11_spite_105 : decode cX11_spite 105 = .ok (.ifCond .eq 7, 3) := by decide +kernel
theorem dX11_spite_108 : decode cX11_spite 108 = .ok (.iconst 1, 1) := by decide +kernel
theorem dX11_spite_109 : decode cX11_spite 109 = .ok (.goto 4, 3) := by decide +kernel
theorem dX11_spite_112 : decode cX11_spite 112 = .ok (.iconst 0, 1) := by decide +kernel
theorem dX11_spite_113 : decode cX11_spite 113 = .ok (.istore 7, 2) := by decide +kernel
theorem dX11_spite_115 : decode cX11_spite 115 = .ok (.aload_n 2, 1) := by decide +kernel
theorem dX11_spite_116 : decode cX11_spite 116 = .ok (.iload_n 1, 1) := by decide +kernel
theorem dX11_spite_117 : decode cX11_spite 117 = .ok (.iload 6, 2) := by decide +kernel
theorem dX11_spite_119 : decode cX11_spite 119 = .ok (.iload 7, 2) := by decide +kernel
theorem dX11_spite_121 : decode cX11_spite 121 = .ok (.invokestatic 277, 3) := by decide +kernel
theorem dX11_spite_124 : decode cX11_spite 124 = .ok (.aload_n 2, 1) := by decide +kernel
theorem dX11_spite_125 : decode cX11_spite 125 = .ok (.iload_n 1, 1) := by decide +kernel
theorem dX11_spite_126 : decode cX11_spite 126 = .ok (.iload 6, 2) := by decide +kernel
theorem dX11_spite_128 : decode cX11_spite 128 = .ok (.ifCond .ne 7, 3) := by decide +kernel
theorem dX11_spite_131 : decode cX11_spite 131 = .ok (.iconst 1, 1) := by decide +kernel
theorem dX11_spite_132 : decode cX11_spite 132 = .ok (.goto 4, 3) := by decide +kernel
theorem dX11_spite_135 : decode cX11_spite 135 = .ok (.iconst 0, 1) := by decide +kernel
theorem dX11_spite_136 : decode cX11_spite 136 = .ok (.iload 7, 2) := by decide +kernel
theorem dX11_spite_138 : decode cX11_spite 138 = .ok (.invokestatic 277, 3) := by decide +kernel
theorem dX11_spite_141 : decode cX11_spite 141 = .ok (.if_icmp .lt 7, 3) := by decide +kernel
theorem dX11_spite_144 : decode cX11_spite 144 = .ok (.iconst 1, 1) := by decide +kernel
theorem dX11_spite_145 : decode cX11_spite 145 = .ok (.goto 4, 3) := by decide +kernel
theorem dX11_spite_148 : decode cX11_spite 148 = .ok (.iconst 0, 1) := by decide +kernel
theorem dX11_spite_149 : decode cX11_spite 149 = .ok (.istore 8, 2) := by decide +kernel
theorem dX11_spite_151 : decode cX11_spite 151 = .ok (.aload_n 3, 1) := by decide +kernel
theorem dX11_spite_152 : decode cX11_spite 152 = .ok (.iload_n 1, 1) := by decide +kernel
theorem dX11_spite_153 : decode cX11_spite 153 = .ok (.iload 7, 2) := by decide +kernel
theorem dX11_spite_155 : decode cX11_spite 155 = .ok (.iload 6, 2) := by decide +kernel
theorem dX11_spite_157 : decode cX11_spite 157 = .ok (.invokestatic 277, 3) := by decide +kernel
theorem dX11_spite_160 : decode cX11_spite 160 = .ok (.aload_n 3, 1) := by decide +kernel
theorem dX11_spite_161 : decode cX11_spite 161 = .ok (.iload_n 1, 1) := by decide +kernel
theorem dX11_spite_162 : decode cX11_spite 162 = .ok (.iload 7, 2) := by decide +kernel
theorem dX11_spite_164 : decode cX11_spite 164 = .ok (.ifCond .ne 7, 3) := by decide +kernel
theorem dX11_spite_167 : decode cX11_spite 167 = .ok (.iconst 1, 1) := by decide +kernel
theorem dX11_spite_168 : decode cX11_spite 168 = .ok (.goto 4, 3) := by decide +kernel
theorem dX11_spite_171 : decode cX11_spite 171 = .ok (.iconst 0, 1) := by decide +kernel
theorem dX11_spite_172 : decode cX11_spite 172 = .ok (.iload 6, 2) := by decide +kernel
theorem dX11_spite_174 : decode cX11_spite 174 = .ok (.invokestatic 277, 3) := by decide +kernel
theorem dX11_spite_177 : decode cX11_spite 177 = .ok (.if_icmp .lt 7, 3) := by decide +kernel
theorem dX11_spite_180 : decode cX11_spite 180 = .ok (.iconst 1, 1) := by decide +kernel
theorem dX11_spite_181 : decode cX11_spite 181 = .ok (.goto 4, 3) := by decide +kernel
theorem dX11_spite_184 : decode cX11_spite 184 = .ok (.iconst 0, 1) := by decide +kernel
theorem dX11_spite_185 : decode cX11_spite 185 = .ok (.istore 9, 2) := by decide +kernel
theorem dX11_spite_187 : decode cX11_spite 187 = .ok (.iload 8, 2) := by decide +kernel
theorem dX11_spite_189 : decode cX11_spite 189 = .ok (.ifCond .eq 17, 3) := by decide +kernel
theorem dX11_spite_192 : decode cX11_spite 192 = .ok (.iload 9, 2) := by decide +kernel
theorem dX11_spite_194 : decode cX11_spite 194 = .ok (.ifCond .eq 12, 3) := by decide +kernel
theorem dX11_spite_197 : decode cX11_spite 197 = .ok (.iload 4, 2) := by decide +kernel
theorem dX11_spite_199 : decode cX11_spite 199 = .ok (.iconst 1, 1) := by decide +kernel
theorem dX11_spite_200 : decode cX11_spite 200 = .ok (.iload 5, 2) := by decide +kernel
theorem dX11_spite_202 : decode cX11_spite 202 = .ok (.ishl, 1) := by decide +kernel
theorem dX11_spite_203 : decode cX11_spite 203 = .ok (.ior, 1) := by decide +kernel
theorem dX11_spite_204 : decode cX11_spite 204 = .ok (.istore 4, 2) := by decide +kernel
theorem dX11_spite_206 : decode cX11_spite 206 = .ok (.iinc 5 1, 3) := by decide +kernel
theorem dX11_spite_209 : decode cX11_spite 209 = .ok (.goto (-128), 3) := by decide +kernel
theorem dX11_spite_212 : decode cX11_spite 212 = .ok (.iload 4, 2) := by decide +kernel
theorem dX11_spite_214 : decode cX11_spite 214 = .ok (.ireturn, 1) := by decide +kernel
theorem dX11_slips_0 : decode cX11_slips 0 = .ok (.iload_n 1, 1) := by decide +kernel
theorem dX11_slips_1 : decode cX11_slips 1 = .ok (.iconst 0, 1) := by decide +kernel
theorem dX11_slips_2 : decode cX11_slips 2 = .ok (.bipush 7, 2) := by decide +kernel
theorem dX11_slips_4 : decode cX11_slips 4 = .ok (.invokestatic 91, 3) := by decide +kernel
theorem dX11_slips_7 : decode cX11_slips 7 = .ok (.ifCond .ne 13, 3) := by decide +kernel
theorem dX11_slips_10 : decode cX11_slips 10 = .ok (.iload_n 2, 1) := by decide +kernel
theorem dX11_slips_11 : decode cX11_slips 11 = .ok (.iconst 0, 1) := by decide +kernel
theorem dX11_slips_12 : decode cX11_slips 12 = .ok (.bipush 10, 2) := by decide +kernel
theorem dX11_slips_14 : decode cX11_slips 14 = .ok (.invokestatic 91, 3) := by decide +kernel
theorem dX11_slips_17 : decode cX11_slips 17 = .ok (.ifCond .eq 8, 3) := by decide +kernel
theorem dX11_slips_20 : decode cX11_slips 20 = .ok (.aload_n 0, 1) := by decide +kernel
theorem dX11_slips_21 : decode cX11_slips 21 = .ok (.invokevirtual 95, 3) := by decide +kernel
theorem dX11_slips_24 : decode cX11_slips 24 = .ok (.ireturn, 1) := by decide +kernel
theorem dX11_slips_25 : decode cX11_slips 25 = .ok (.aload_n 0, 1) := by decide +kernel
theorem dX11_slips_26 : decode cX11_slips 26 = .ok (.getfield 80, 3) := by decide +kernel
theorem dX11_slips_29 : decode cX11_slips 29 = .ok (.aload_n 0, 1) := by decide +kernel
theorem dX11_slips_30 : decode cX11_slips 30 = .ok (.getfield 80, 3) := by decide +kernel
theorem dX11_slips_33 : decode cX11_slips 33 = .ok (.getfield 137, 3) := by decide +kernel
theorem dX11_slips_36 : decode cX11_slips 36 = .ok (.invokevirtual 146, 3) := by decide +kernel
theorem dX11_slips_39 : decode cX11_slips 39 = .ok (.ifCond .ne 8, 3) := by decide +kernel
theorem dX11_slips_42 : decode cX11_slips 42 = .ok (.aload_n 0, 1) := by decide +kernel
theorem dX11_slips_43 : decode cX11_slips 43 = .ok (.invokevirtual 154, 3) := by decide +kernel
theorem dX11_slips_46 : decode cX11_slips 46 = .ok (.ireturn, 1) := by decide +kernel
theorem dX11_slips_47 : decode cX11_slips 47 = .ok (.aload_n 0, 1) := by decide +kernel
theorem dX11_slips_48 : decode cX11_slips 48 = .ok (.getfield 80, 3) := by decide +kernel
theorem dX11_slips_51 : decode cX11_slips 51 = .ok (.aload_n 0, 1) := by decide +kernel
theorem dX11_slips_52 : decode cX11_slips 52 = .ok (.getfield 80, 3) := by decide +kernel
theorem dX11_slips_55 : decode cX11_slips 55 = .ok (.getfield 137, 3) := by decide +kernel
theorem dX11_slips_58 : decode cX11_slips 58 = .ok (.iload_n 1, 1) := by decide +kernel
theorem dX11_slips_59 : decode cX11_slips 59 = .ok (.invokevirtual 208, 3) := by decide +kernel
theorem dX11_slips_62 : decode cX11_slips 62 = .ok (.istore_n 3, 1) := by decide +kernel
theorem dX11_slips_63 : decode cX11_slips 63 = .ok (.iload_n 3, 1) := by decide +kernel
theorem dX11_slips_64 : decode cX11_slips 64 = .ok (.iconst 1, 1) := by decide +kernel
theorem dX11_slips_65 : decode cX11_slips 65 = .ok (.iand, 1) := by decide +kernel
theorem dX11_slips_66 : decode cX11_slips 66 = .ok (.ifCond .eq 10, 3) := by decide +kernel
theorem dX11_slips_69 : decode cX11_slips 69 = .ok (.bipush 10, 2) := by decide +kernel
theorem dX11_slips_71 : decode cX11_slips 71 = .ok (.iload_n 2, 1) := by decide +kernel
theorem dX11_slips_72 : decode cX11_slips 72 = .ok (.isub, 1) := by decide +kernel
theorem dX11_slips_73 : decode cX11_slips 73 = .ok (.goto 4, 3) := by decide +kernel
theorem dX11_slips_76 : decode cX11_slips 76 = .ok (.iload_n 2, 1) := by decide +kernel
theorem dX11_slips_77 : decode cX11_slips 77 = .ok (.istore 4, 2) := by decide +kernel
theorem dX11_slips_79 : decode cX11_slips 79 = .ok (.iload_n 3, 1) := by decide +kernel
theorem dX11_slips_80 : decode cX11_slips 80 = .ok (.iconst 2, 1) := by decide +kernel
theorem dX11_slips_81 : decode cX11_slips 81 = .ok (.iand, 1) := by decide +kernel
theorem dX11_slips_82 : decode cX11_slips 82 = .ok (.ifCond .eq 10, 3) := by decide +kernel
theorem dX11_slips_85 : decode cX11_slips 85 = .ok (.bipush 10, 2) := by decide +kernel
theorem dX11_slips_87 : decode cX11_slips 87 = .ok (.iload_n 2, 1) := by decide +kernel
theorem dX11_slips_88 : decode cX11_slips 88 = .ok (.isub, 1) := by decide +kernel
theorem dX11_slips_89 : decode cX11_slips 89 = .ok (.goto 4, 3) := by decide +kernel
theorem dX11_slips_92 : decode cX11_slips 92 = .ok (.iload_n 2, 1) := by decide +kernel
theorem dX11_slips_93 : decode cX11_slips 93 = .ok (.istore 5, 2) := by decide +kernel
theorem dX11_slips_95 : decode cX11_slips 95 = .ok (.aload_n 0, 1) := by decide +kernel
theorem dX11_slips_96 : decode cX11_slips 96 = .ok (.iload 4, 2) := by decide +kernel
theorem dX11_slips_98 : decode cX11_slips 98 = .ok (.iload 5, 2) := by decide +kernel
theorem dX11_slips_100 : decode cX11_slips 100 = .ok (.imul, 1) := by decide +kernel
theorem dX11_slips_101 : decode cX11_slips 101 = .ok (.bipush 100, 2) := by decide +kernel
theorem dX11_slips_103 : decode cX11_slips 103 = .ok (.invokevirtual 281, 3) := by decide +kernel
theorem dX11_slips_106 : decode cX11_slips 106 = .ok (.iconst 1, 1) := by decide +kernel
theorem dX11_slips_107 : decode cX11_slips 107 = .ok (.ireturn, 1) := by decide +kernel
theorem dX11_reigns_0 : decode cX11_reigns 0 = .ok (.iload_n 1, 1) := by decide +kernel
theorem dX11_reigns_1 : decode cX11_reigns 1 = .ok (.iconst 0, 1) := by decide +kernel
theorem dX11_reigns_2 : decode cX11_reigns 2 = .ok (.ldc_w 284, 3) := by decide +kernel
theorem dX11_reigns_5 : decode cX11_reigns 5 = .ok (.invokestatic 91, 3) := by decide +kernel
theorem dX11_reigns_8 : decode cX11_reigns 8 = .ok (.ifCond .ne 13, 3) := by decide +kernel
theorem dX11_reigns_11 : decode cX11_reigns 11 = .ok (.iload_n 2, 1) := by decide +kernel
theorem dX11_reigns_12 : decode cX11_reigns 12 = .ok (.iconst 0, 1) := by decide +kernel
theorem dX11_reigns_13 : decode cX11_reigns 13 = .ok (.bipush 60, 2) := by decide +kernel
theorem dX11_reigns_15 : decode cX11_reigns 15 = .ok (.invokestatic 91, 3) := by decide +kernel
theorem dX11_reigns_18 : decode cX11_reigns 18 = .ok (.ifCond .eq 8, 3) := by decide +kernel
theorem dX11_reigns_21 : decode cX11_reigns 21 = .ok (.aload_n 0, 1) := by decide +kernel
theorem dX11_reigns_22 : decode cX11_reigns 22 = .ok (.invokevirtual 95, 3) := by decide +kernel
theorem dX11_reigns_25 : decode cX11_reigns 25 = .ok (.ireturn, 1) := by decide +kernel
theorem dX11_reigns_26 : decode cX11_reigns 26 = .ok (.aload_n 0, 1) := by decide +kernel
theorem dX11_reigns_27 : decode cX11_reigns 27 = .ok (.getfield 80, 3) := by decide +kernel
theorem dX11_reigns_30 : decode cX11_reigns 30 = .ok (.aload_n 0, 1) := by decide +kernel
theorem dX11_reigns_31 : decode cX11_reigns 31 = .ok (.getfield 80, 3) := by decide +kernel
theorem dX11_reigns_34 : decode cX11_reigns 34 = .ok (.getfield 137, 3) := by decide +kernel
theorem dX11_reigns_37 : decode cX11_reigns 37 = .ok (.invokevirtual 146, 3) := by decide +kernel
theorem dX11_reigns_40 : decode cX11_reigns 40 = .ok (.ifCond .ne 8, 3) := by decide +kernel
theorem dX11_reigns_43 : decode cX11_reigns 43 = .ok (.aload_n 0, 1) := by decide +kernel
theorem dX11_reigns_44 : decode cX11_reigns 44 = .ok (.invokevirtual 154, 3) := by decide +kernel
theorem dX11_reigns_47 : decode cX11_reigns 47 = .ok (.ireturn, 1) := by decide +kernel
theorem dX11_reigns_48 : decode cX11_reigns 48 = .ok (.aload_n 0, 1) := by decide +kernel
theorem dX11_reigns_49 : decode cX11_reigns 49 = .ok (.getfield 23, 3) := by decide +kernel
theorem dX11_reigns_52 : decode cX11_reigns 52 = .ok (.aload_n 0, 1) := by decide +kernel
theorem dX11_reigns_53 : decode cX11_reigns 53 = .ok (.getfield 80, 3) := by decide +kernel
theorem dX11_reigns_56 : decode cX11_reigns 56 = .ok (.getfield 137, 3) := by decide +kernel
theorem dX11_reigns_59 : decode cX11_reigns 59 = .ok (.invokevirtual 211, 3) := by decide +kernel
theorem dX11_reigns_62 : decode cX11_reigns 62 = .ok (.iload_n 1, 1) := by decide +kernel
theorem dX11_reigns_63 : decode cX11_reigns 63 = .ok (.i2l, 1) := by decide +kernel
theorem dX11_reigns_64 : decode cX11_reigns 64 = .ok (.lstore_n 3, 1) := by decide +kernel
theorem dX11_reigns_65 : decode cX11_reigns 65 = .ok (.iconst 0, 1) := by decide +kernel
theorem dX11_reigns_66 : decode cX11_reigns 66 = .ok (.istore 5, 2) := by decide +kernel
theorem dX11_reigns_68 : decode cX11_reigns 68 = .ok (.iload 5, 2) := by decide +kernel
theorem dX11_reigns_70 : decode cX11_reigns 70 = .ok (.iload_n 2, 1) := by decide +kernel
theorem dX11_reigns_71 : decode cX11_reigns 71 = .ok (.if_icmp .ge 73, 3) := by decide +kernel
theorem dX11_reigns_74 : decode cX11_reigns 74 = .ok (.lload_n 3, 1) := by decide +kernel
theorem dX11_reigns_75 : decode cX11_reigns 75 = .ok (.ldc2_w 285, 3) := by decide +kernel
theorem dX11_reigns_78 : decode cX11_reigns 78 = .ok (.lmul, 1) := by decide +kernel
theorem dX11_reigns_79 : decode cX11_reigns 79 = .ok (.ldc2_w 287, 3) := by decide +kernel
theorem dX11_reigns_82 : decode cX11_reigns 82 = .ok (.ladd, 1) := by decide +kernel
theorem dX11_reigns_83 : decode cX11_reigns 83 = .ok (.ldc2_w 289, 3) := by decide +kernel
theorem dX11_reigns_86 : decode cX11_reigns 86 = .ok (.lrem, 1) := by decide +kernel
theorem dX11_reigns_87 : decode cX11_reigns 87 = .ok (.lstore_n 3, 1) := by decide +kernel
theorem dX11_reigns_88 : decode cX11_reigns 88 = .ok (.lload_n 3, 1) := by decide +kernel
theorem dX11_reigns_89 : decode cX11_reigns 89 = .ok (.ldc2_w 291, 3) := by decide +kernel
theorem dX11_reigns_92 : decode cX11_reigns 92 = .ok (.ldiv, 1) := by decide +kernel
theorem dX11_reigns_93 : decode cX11_reigns 93 = .ok (.ldc2_w 293, 3) := by decide +kernel
theorem dX11_reigns_96 : decode cX11_reigns 96 = .ok (.lrem, 1) := by decide +kernel
theorem dX11_reigns_97 : decode cX11_reigns 97 = .ok (.l2i, 1) := by decide +kernel
theorem dX11_reigns_98 : decode cX11_reigns 98 = .ok (.istore 6, 2) := by decide +kernel
theorem dX11_reigns_100 : decode cX11_reigns 100 = .ok (.aload_n 0, 1) := by decide +kernel
theorem dX11_reigns_101 : decode cX11_reigns 101 = .ok (.getfield 23, 3) := by decide +kernel
theorem dX11_reigns_104 : decode cX11_reigns 104 = .ok (.iload 6, 2) := by decide +kernel
theorem dX11_reigns_106 : decode cX11_reigns 106 = .ok (.invokevirtual 150, 3) := by decide +kernel
theorem dX11_reigns_109 : decode cX11_reigns 109 = .ok (.ifCond .ne 17, 3) := by decide +kernel
theorem dX11_reigns_112 : decode cX11_reigns 112 = .ok (.aload_n 0, 1) := by decide +kernel
theorem dX11_reigns_113 : decode cX11_reigns 113 = .ok (.getfield 80, 3) := by decide +kernel
theorem dX11_reigns_116 : decode cX11_reigns 116 = .ok (.aload_n 0, 1) := by decide +kernel
theorem dX11_reigns_117 : decode cX11_reigns 117 = .ok (.getfield 23, 3) := by decide +kernel
theorem dX11_reigns_120 : decode cX11_reigns 120 = .ok (.iload 6, 2) := by decide +kernel
theorem dX11_reigns_122 : decode cX11_reigns 122 = .ok (.invokevirtual 157, 3) := by decide +kernel
theorem dX11_reigns_125 : decode cX11_reigns 125 = .ok (.pop, 1) := by decide +kernel
theorem dX11_reigns_126 : decode cX11_reigns 126 = .ok (.aload_n 0, 1) := by decide +kernel
theorem dX11_reigns_127 : decode cX11_reigns 127 = .ok (.getfield 80, 3) := by decide +kernel
theorem dX11_reigns_130 : decode cX11_reigns 130 = .ok (.aload_n 0, 1) := by decide +kernel
theorem dX11_reigns_131 : decode cX11_reigns 131 = .ok (.getfield 23, 3) := by decide +kernel
theorem dX11_reigns_134 : decode cX11_reigns 134 = .ok (.iconst 1, 1) := by decide +kernel
theorem dX11_reigns_135 : decode cX11_reigns 135 = .ok (.invokevirtual 161, 3) := by decide +kernel
theorem dX11_reigns_138 : decode cX11_reigns 138 = .ok (.iinc 5 1, 3) := by decide +kernel
theorem dX11_reigns_141 : decode cX11_reigns 141 = .ok (.goto (-73), 3) := by decide +kernel
theorem dX11_reigns_144 : decode cX11_reigns 144 = .ok (.aload_n 0, 1) := by decide +kernel
theorem dX11_reigns_145 : decode cX11_reigns 145 = .ok (.getfield 23, 3) := by decide +kernel
theorem dX11_reigns_148 : decode cX11_reigns 148 = .ok (.getfield 295, 3) := by decide +kernel
theorem dX11_reigns_151 : decode cX11_reigns 151 = .ok (.invokestatic 264, 3) := by decide +kernel
theorem dX11_reigns_154 : decode cX11_reigns 154 = .ok (.ireturn, 1) := by decide +kernel
theorem dX11_part_0 : decode cX11_part 0 = .ok (.iload_n 1, 1) := by decide +kernel
theorem dX11_part_1 : decode cX11_part 1 = .ok (.iconst 0, 1) := by decide +kernel
theorem dX11_part_2 : decode cX11_part 2 = .ok (.iconst 1, 1) := by decide +kernel
theorem dX11_part_3 : decode cX11_part 3 = .ok (.invokestatic 91, 3) := by decide +kernel
theorem dX11_part_6 : decode cX11_part 6 = .ok (.ifCond .eq 9, 3) := by decide +kernel
theorem dX11_part_9 : decode cX11_part 9 = .ok (.aload_n 0, 1) := by decide +kernel
theorem dX11_part_10 : decode cX11_part 10 = .ok (.invokevirtual 95, 3) := by decide +kernel
theorem dX11_part_13 : decode cX11_part 13 = .ok (.i2l, 1) := by decide +kernel
theorem dX11_part_14 : decode cX11_part 14 = .ok (.lreturn, 1) := by decide +kernel
theorem dX11_part_15 : decode cX11_part 15 = .ok (.iload_n 1, 1) := by decide +kernel
theorem dX11_part_16 : decode cX11_part 16 = .ok (.ifCond .ne 11, 3) := by decide +kernel
theorem dX11_part_19 : decode cX11_part 19 = .ok (.aload_n 0, 1) := by decide +kernel
theorem dX11_part_20 : decode cX11_part 20 = .ok (.getfield 42, 3) := by decide +kernel
theorem dX11_part_23 : decode cX11_part 23 = .ok (.i2l, 1) := by decide +kernel
theorem dX11_part_24 : decode cX11_part 24 = .ok (.goto 8, 3) := by decide +kernel
theorem dX11_part_27 : decode cX11_part 27 = .ok (.aload_n 0, 1) := by decide +kernel
theorem dX11_part_28 : decode cX11_part 28 = .ok (.getfield 45, 3) := by decide +kernel
theorem dX11_part_31 : decode cX11_part 31 = .ok (.i2l, 1) := by decide +kernel
theorem dX11_part_32 : decode cX11_part 32 = .ok (.lreturn, 1) := by decide +kernel
theorem dX11_image_0 : decode cX11_image 0 = .ok (.iload_n 1, 1) := by decide +kernel
theorem dX11_image_1 : decode cX11_image 1 = .ok (.iconst 0, 1) := by decide +kernel
theorem dX11_image_2 : decode cX11_image 2 = .ok (.iconst 1, 1) := by decide +kernel
theorem dX11_image_3 : decode cX11_image 3 = .ok (.invokestatic 91, 3) := by decide +kernel
theorem dX11_image_6 : decode cX11_image 6 = .ok (.ifCond .eq 8, 3) := by decide +kernel
theorem dX11_image_9 : decode cX11_image 9 = .ok (.aload_n 0, 1) := by decide +kernel
theorem dX11_image_10 : decode cX11_image 10 = .ok (.invokevirtual 95, 3) := by decide +kernel
theorem dX11_image_13 : decode cX11_image 13 = .ok (.ireturn, 1) := by decide +kernel
theorem dX11_image_14 : decode cX11_image 14 = .ok (.aload_n 0, 1) := by decide +kernel
theorem dX11_image_15 : decode cX11_image 15 = .ok (.getfield 87, 3) := by decide +kernel
theorem dX11_image_18 : decode cX11_image 18 = .ok (.iload_n 1, 1) := by decide +kernel
theorem dX11_image_19 : decode cX11_image 19 = .ok (.aaload, 1) := by decide +kernel
theorem dX11_image_20 : decode cX11_image 20 = .ok (.aload_n 0, 1) := by decide +kernel
theorem dX11_image_21 : decode cX11_image 21 = .ok (.getfield 80, 3) := by decide +kernel
theorem dX11_image_24 : decode cX11_image 24 = .ok (.invokevirtual 126, 3) := by decide +kernel
theorem dX11_image_27 : decode cX11_image 27 = .ok (.aload_n 0, 1) := by decide +kernel
theorem dX11_image_28 : decode cX11_image 28 = .ok (.getfield 9, 3) := by decide +kernel
theorem dX11_image_31 : decode cX11_image 31 = .ok (.iload_n 1, 1) := by decide +kernel
theorem dX11_image_32 : decode cX11_image 32 = .ok (.iconst 1, 1) := by decide +kernel
theorem dX11_image_33 : decode cX11_image 33 = .ok (.bastore, 1) := by decide +kernel
theorem dX11_image_34 : decode cX11_image 34 = .ok (.iconst 1, 1) := by decide +kernel
theorem dX11_image_35 : decode cX11_image 35 = .ok (.ireturn, 1) := by decide +kernel
theorem dX11_from_0 : decode cX11_from 0 = .ok (.iload_n 1, 1) := by decide +kernel
theorem dX11_from_1 : decode cX11_from 1 = .ok (.iconst 0, 1) := by decide +kernel
theorem dX11_from_2 : decode cX11_from 2 = .ok (.iconst 1, 1) := by decide +kernel
theorem dX11_from_3 : decode cX11_from 3 = .ok (.invokestatic 91, 3) := by decide +kernel
theorem dX11_from_6 : decode cX11_from 6 = .ok (.ifCond .eq 8, 3) := by decide +kernel
theorem dX11_from_9 : decode cX11_from 9 = .ok (.aload_n 0, 1) := by decide +kernel
theorem dX11_from_10 : decode cX11_from 10 = .ok (.invokevirtual 95, 3) := by decide +kernel
theorem dX11_from_13 : decode cX11_from 13 = .ok (.ireturn, 1) := by decide +kernel
theorem dX11_from_14 : decode cX11_from 14 = .ok (.aload_n 0, 1) := by decide +kernel
theorem dX11_from_15 : decode cX11_from 15 = .ok (.getfield 9, 3) := by decide +kernel
theorem dX11_from_18 : decode cX11_from 18 = .ok (.iload_n 1, 1) := by decide +kernel
theorem dX11_from_19 : decode cX11_from 19 = .ok (.baload, 1) := by decide +kernel
theorem dX11_from_20 : decode cX11_from 20 = .ok (.ifCond .ne 8, 3) := by decide +kernel
theorem dX11_from_23 : decode cX11_from 23 = .ok (.aload_n 0, 1) := by decide +kernel
theorem dX11_from_24 : decode cX11_from 24 = .ok (.invokevirtual 154, 3) := by decide +kernel
theorem dX11_from_27 : decode cX11_from 27 = .ok (.ireturn, 1) := by decide +kernel
theorem dX11_from_28 : decode cX11_from 28 = .ok (.aload_n 0, 1) := by decide +kernel
theorem dX11_from_29 : decode cX11_from 29 = .ok (.getfield 80, 3) := by decide +kernel
theorem dX11_from_32 : decode cX11_from 32 = .ok (.aload_n 0, 1) := by decide +kernel
theorem dX11_from_33 : decode cX11_from 33 = .ok (.getfield 87, 3) := by decide +kernel
theorem dX11_from_36 : decode cX11_from 36 = .ok (.iload_n 1, 1) := by decide +kernel
theorem dX11_from_37 : decode cX11_from 37 = .ok (.aaload, 1) := by decide +kernel
theorem dX11_from_38 : decode cX11_from 38 = .ok (.invokevirtual 126, 3) := by decide +kernel
theorem dX11_from_41 : decode cX11_from 41 = .ok (.iconst 1, 1) := by decide +kernel
theorem dX11_from_42 : decode cX11_from 42 = .ok (.ireturn, 1) := by decide +kernel
theorem dX11_status_0 : decode cX11_status 0 = .ok (.iload_n 1, 1) := by decide +kernel
theorem dX11_status_1 : decode cX11_status 1 = .ok (.tableswitch 42 0 2 #[27, 32, 37], 27) := by decide +kernel
theorem dX11_status_28 : decode cX11_status 28 = .ok (.aload_n 0, 1) := by decide +kernel
theorem dX11_status_29 : decode cX11_status 29 = .ok (.getfield 48, 3) := by decide +kernel
theorem dX11_status_32 : decode cX11_status 32 = .ok (.ireturn, 1) := by decide +kernel
theorem dX11_status_33 : decode cX11_status 33 = .ok (.aload_n 0, 1) := by decide +kernel
theorem dX11_status_34 : decode cX11_status 34 = .ok (.getfield 51, 3) := by decide +kernel
theorem dX11_status_37 : decode cX11_status 37 = .ok (.ireturn, 1) := by decide +kernel
theorem dX11_status_38 : decode cX11_status 38 = .ok (.aload_n 0, 1) := by decide +kernel
theorem dX11_status_39 : decode cX11_status 39 = .ok (.getfield 54, 3) := by decide +kernel
theorem dX11_status_42 : decode cX11_status 42 = .ok (.ireturn, 1) := by decide +kernel
theorem dX11_status_43 : decode cX11_status 43 = .ok (.aload_n 0, 1) := by decide +kernel
theorem dX11_status_44 : decode cX11_status 44 = .ok (.invokevirtual 95, 3) := by decide +kernel
theorem dX11_status_47 : decode cX11_status 47 = .ok (.pop, 1) := by decide +kernel
theorem dX11_status_48 : decode cX11_status 48 = .ok (.iconst (-1), 1) := by decide +kernel
theorem dX11_status_49 : decode cX11_status 49 = .ok (.ireturn, 1) := by decide +kernel
theorem dX11_count_0 : decode cX11_count 0 = .ok (.iload_n 1, 1) := by decide +kernel
theorem dX11_count_1 : decode cX11_count 1 = .ok (.iconst 0, 1) := by decide +kernel
theorem dX11_count_2 : decode cX11_count 2 = .ok (.bipush 6, 2) := by decide +kernel
theorem dX11_count_4 : decode cX11_count 4 = .ok (.invokestatic 91, 3) := by decide +kernel
theorem dX11_count_7 : decode cX11_count 7 = .ok (.ifCond .eq 8, 3) := by decide +kernel
theorem dX11_count_10 : decode cX11_count 10 = .ok (.aload_n 0, 1) := by decide +kernel
theorem dX11_count_11 : decode cX11_count 11 = .ok (.invokevirtual 95, 3) := by decide +kernel
theorem dX11_count_14 : decode cX11_count 14 = .ok (.ireturn, 1) := by decide +kernel
theorem dX11_count_15 : decode cX11_count 15 = .ok (.aload_n 0, 1) := by decide +kernel
theorem dX11_count_16 : decode cX11_count 16 = .ok (.iload_n 1, 1) := by decide +kernel
theorem dX11_count_17 : decode cX11_count 17 = .ok (.invokevirtual 298, 3) := by decide +kernel
theorem dX11_count_20 : decode cX11_count 20 = .ok (.ireturn, 1) := by decide +kernel
theorem dX11_digest_0 : decode cX11_digest 0 = .ok (.ldc2_w 301, 3) := by decide +kernel
theorem dX11_digest_3 : decode cX11_digest 3 = .ok (.lstore_n 1, 1) := by decide +kernel
theorem dX11_digest_4 : decode cX11_digest 4 = .ok (.iconst 0, 1) := by decide +kernel
theorem dX11_digest_5 : decode cX11_digest 5 = .ok (.istore_n 3, 1) := by decide +kernel
theorem dX11_digest_6 : decode cX11_digest 6 = .ok (.iload_n 3, 1) := by decide +kernel
theorem dX11_digest_7 : decode cX11_digest 7 = .ok (.bipush 6, 2) := by decide +kernel
theorem dX11_digest_9 : decode cX11_digest 9 = .ok (.if_icmp .gt 22, 3) := by decide +kernel
theorem dX11_digest_12 : decode cX11_digest 12 = .ok (.ldc2_w 303, 3) := by decide +kernel
theorem dX11_digest_15 : decode cX11_digest 15 = .ok (.lload_n 1, 1) := by decide +kernel
theorem dX11_digest_16 : decode cX11_digest 16 = .ok (.lmul, 1) := by decide +kernel
theorem dX11_digest_17 : decode cX11_digest 17 = .ok (.aload_n 0, 1) := by decide +kernel
theorem dX11_digest_18 : decode cX11_digest 18 = .ok (.iload_n 3, 1) := by decide +kernel
theorem dX11_digest_19 : decode cX11_digest 19 = .ok (.invokevirtual 298, 3) := by decide +kernel
theorem dX11_digest_22 : decode cX11_digest 22 = .ok (.i2l, 1) := by decide +kernel
theorem dX11_digest_23 : decode cX11_digest 23 = .ok (.ladd, 1) := by decide +kernel
theorem dX11_digest_24 : decode cX11_digest 24 = .ok (.lstore_n 1, 1) := by decide +kernel
theorem dX11_digest_25 : decode cX11_digest 25 = .ok (.iinc 3 1, 3) := by decide +kernel
theorem dX11_digest_28 : decode cX11_digest 28 = .ok (.goto (-22), 3) := by decide +kernel
theorem dX11_digest_31 : decode cX11_digest 31 = .ok (.ldc2_w 303, 3) := by decide +kernel
theorem dX11_digest_34 : decode cX11_digest 34 = .ok (.lload_n 1, 1) := by decide +kernel
theorem dX11_digest_35 : decode cX11_digest 35 = .ok (.lmul, 1) := by decide +kernel
theorem dX11_digest_36 : decode cX11_digest 36 = .ok (.aload_n 0, 1) := by decide +kernel
theorem dX11_digest_37 : decode cX11_digest 37 = .ok (.getfield 80, 3) := by decide +kernel
theorem dX11_digest_40 : decode cX11_digest 40 = .ok (.getfield 137, 3) := by decide +kernel
theorem dX11_digest_43 : decode cX11_digest 43 = .ok (.getfield 295, 3) := by decide +kernel
theorem dX11_digest_46 : decode cX11_digest 46 = .ok (.i2l, 1) := by decide +kernel
theorem dX11_digest_47 : decode cX11_digest 47 = .ok (.ladd, 1) := by decide +kernel
theorem dX11_digest_48 : decode cX11_digest 48 = .ok (.lstore_n 1, 1) := by decide +kernel
theorem dX11_digest_49 : decode cX11_digest 49 = .ok (.ldc2_w 303, 3) := by decide +kernel
theorem dX11_digest_52 : decode cX11_digest 52 = .ok (.lload_n 1, 1) := by decide +kernel
theorem dX11_digest_53 : decode cX11_digest 53 = .ok (.lmul, 1) := by decide +kernel
theorem dX11_digest_54 : decode cX11_digest 54 = .ok (.aload_n 0, 1) := by decide +kernel
theorem dX11_digest_55 : decode cX11_digest 55 = .ok (.getfield 80, 3) := by decide +kernel
theorem dX11_digest_58 : decode cX11_digest 58 = .ok (.getfield 137, 3) := by decide +kernel
theorem dX11_digest_61 : decode cX11_digest 61 = .ok (.getfield 140, 3) := by decide +kernel
theorem dX11_digest_64 : decode cX11_digest 64 = .ok (.i2l, 1) := by decide +kernel
theorem dX11_digest_65 : decode cX11_digest 65 = .ok (.ladd, 1) := by decide +kernel
theorem dX11_digest_66 : decode cX11_digest 66 = .ok (.lstore_n 1, 1) := by decide +kernel
theorem dX11_digest_67 : decode cX11_digest 67 = .ok (.ldc2_w 303, 3) := by decide +kernel
theorem dX11_digest_70 : decode cX11_digest 70 = .ok (.lload_n 1, 1) := by decide +kernel
theorem dX11_digest_71 : decode cX11_digest 71 = .ok (.lmul, 1) := by decide +kernel
theorem dX11_digest_72 : decode cX11_digest 72 = .ok (.aload_n 0, 1) := by decide +kernel
theorem dX11_digest_73 : decode cX11_digest 73 = .ok (.getfield 80, 3) := by decide +kernel
theorem dX11_digest_76 : decode cX11_digest 76 = .ok (.getfield 137, 3) := by decide +kernel
theorem dX11_digest_79 : decode cX11_digest 79 = .ok (.getfield 143, 3) := by decide +kernel
theorem dX11_digest_82 : decode cX11_digest 82 = .ok (.i2l, 1) := by decide +kernel
theorem dX11_digest_83 : decode cX11_digest 83 = .ok (.ladd, 1) := by decide +kernel
theorem dX11_digest_84 : decode cX11_digest 84 = .ok (.lstore_n 1, 1) := by decide +kernel
theorem dX11_digest_85 : decode cX11_digest 85 = .ok (.iconst 0, 1) := by decide +kernel
theorem dX11_digest_86 : decode cX11_digest 86 = .ok (.istore_n 3, 1) := by decide +kernel
theorem dX11_digest_87 : decode cX11_digest 87 = .ok (.iload_n 3, 1) := by decide +kernel
theorem dX11_digest_88 : decode cX11_digest 88 = .ok (.aload_n 0, 1) := by decide +kernel
theorem dX11_digest_89 : decode cX11_digest 89 = .ok (.getfield 80, 3) := by decide +kernel
theorem dX11_digest_92 : decode cX11_digest 92 = .ok (.getfield 99, 3) := by decide +kernel
theorem dX11_digest_95 : decode cX11_digest 95 = .ok (.if_icmp .ge 23, 3) := by decide +kernel
theorem dX11_digest_98 : decode cX11_digest 98 = .ok (.aload_n 0, 1) := by decide +kernel
theorem dX11_digest_99 : decode cX11_digest 99 = .ok (.getfield 80, 3) := by decide +kernel
theorem dX11_digest_102 : decode cX11_digest 102 = .ok (.getfield 183, 3) := by decide +kernel
theorem dX11_digest_105 : decode cX11_digest 105 = .ok (.iload_n 3, 1) := by decide +kernel
theorem dX11_digest_106 : decode cX11_digest 106 = .ok (.aaload, 1) := by decide +kernel
theorem dX11_digest_107 : decode cX11_digest 107 = .ok (.lload_n 1, 1) := by decide +kernel
theorem dX11_digest_108 : decode cX11_digest 108 = .ok (.invokevirtual 305, 3) := by decide +kernel
theorem dX11_digest_111 : decode cX11_digest 111 = .ok (.lstore_n 1, 1) := by decide +kernel
theorem dX11_digest_112 : decode cX11_digest 112 = .ok (.iinc 3 1, 3) := by decide +kernel
theorem dX11_digest_115 : decode cX11_digest 115 = .ok (.goto (-28), 3) := by decide +kernel
theorem dX11_digest_118 : decode cX11_digest 118 = .ok (.iconst 0, 1) := by decide +kernel
theorem dX11_digest_119 : decode cX11_digest 119 = .ok (.istore_n 3, 1) := by decide +kernel
theorem dX11_digest_120 : decode cX11_digest 120 = .ok (.iload_n 3, 1) := by decide +kernel
theorem dX11_digest_121 : decode cX11_digest 121 = .ok (.aload_n 0, 1) := by decide +kernel
theorem dX11_digest_122 : decode cX11_digest 122 = .ok (.getfield 80, 3) := by decide +kernel
theorem dX11_digest_125 : decode cX11_digest 125 = .ok (.getfield 241, 3) := by decide +kernel
theorem dX11_digest_128 : decode cX11_digest 128 = .ok (.if_icmp .ge 23, 3) := by decide +kernel
theorem dX11_digest_131 : decode cX11_digest 131 = .ok (.aload_n 0, 1) := by decide +kernel
theorem dX11_digest_132 : decode cX11_digest 132 = .ok (.getfield 80, 3) := by decide +kernel
theorem dX11_digest_135 : decode cX11_digest 135 = .ok (.getfield 244, 3) := by decide +kernel
theorem dX11_digest_138 : decode cX11_digest 138 = .ok (.iload_n 3, 1) := by decide +kernel
theorem dX11_digest_139 : decode cX11_digest 139 = .ok (.aaload, 1) := by decide +kernel
theorem dX11_digest_140 : decode cX11_digest 140 = .ok (.lload_n 1, 1) := by decide +kernel
theorem dX11_digest_141 : decode cX11_digest 141 = .ok (.invokevirtual 309, 3) := by decide +kernel
theorem dX11_digest_144 : decode cX11_digest 144 = .ok (.lstore_n 1, 1) := by decide +kernel
theorem dX11_digest_145 : decode cX11_digest 145 = .ok (.iinc 3 1, 3) := by decide +kernel
theorem dX11_digest_148 : decode cX11_digest 148 = .ok (.goto (-28), 3) := by decide +kernel
theorem dX11_digest_151 : decode cX11_digest 151 = .ok (.ldc2_w 303, 3) := by decide +kernel
theorem dX11_digest_154 : decode cX11_digest 154 = .ok (.lload_n 1, 1) := by decide +kernel
theorem dX11_digest_155 : decode cX11_digest 155 = .ok (.lmul, 1) := by decide +kernel
theorem dX11_digest_156 : decode cX11_digest 156 = .ok (.aload_n 0, 1) := by decide +kernel
theorem dX11_digest_157 : decode cX11_digest 157 = .ok (.getfield 42, 3) := by decide +kernel
theorem dX11_digest_160 : decode cX11_digest 160 = .ok (.i2l, 1) := by decide +kernel
theorem dX11_digest_161 : decode cX11_digest 161 = .ok (.ladd, 1) := by decide +kernel
theorem dX11_digest_162 : decode cX11_digest 162 = .ok (.lstore_n 1, 1) := by decide +kernel
theorem dX11_digest_163 : decode cX11_digest 163 = .ok (.ldc2_w 303, 3) := by decide +kernel
theorem dX11_digest_166 : decode cX11_digest 166 = .ok (.lload_n 1, 1) := by decide +kernel
theorem dX11_digest_167 : decode cX11_digest 167 = .ok (.lmul, 1) := by decide +kernel
theorem dX11_digest_168 : decode cX11_digest 168 = .ok (.aload_n 0, 1) := by decide +kernel
theorem dX11_digest_169 : decode cX11_digest 169 = .ok (.getfield 45, 3) := by decide +kernel
theorem dX11_digest_172 : decode cX11_digest 172 = .ok (.i2l, 1) := by decide +kernel
theorem dX11_digest_173 : decode cX11_digest 173 = .ok (.ladd, 1) := by decide +kernel
theorem dX11_digest_174 : decode cX11_digest 174 = .ok (.lreturn, 1) := by decide +kernel
theorem dX11_bad_0 : decode cX11_bad 0 = .ok (.aload_n 0, 1) := by decide +kernel
theorem dX11_bad_1 : decode cX11_bad 1 = .ok (.dup, 1) := by decide +kernel
theorem dX11_bad_2 : decode cX11_bad 2 = .ok (.getfield 48, 3) := by decide +kernel
theorem dX11_bad_5 : decode cX11_bad 5 = .ok (.iconst 1, 1) := by decide +kernel
theorem dX11_bad_6 : decode cX11_bad 6 = .ok (.iadd, 1) := by decide +kernel
theorem dX11_bad_7 : decode cX11_bad 7 = .ok (.putfield 48, 3) := by decide +kernel
theorem dX11_bad_10 : decode cX11_bad 10 = .ok (.bipush (-2), 2) := by decide +kernel
theorem dX11_bad_12 : decode cX11_bad 12 = .ok (.ireturn, 1) := by decide +kernel
theorem dX11_no_0 : decode cX11_no 0 = .ok (.aload_n 0, 1) := by decide +kernel
theorem dX11_no_1 : decode cX11_no 1 = .ok (.dup, 1) := by decide +kernel
theorem dX11_no_2 : decode cX11_no 2 = .ok (.getfield 51, 3) := by decide +kernel
theorem dX11_no_5 : decode cX11_no 5 = .ok (.iconst 1, 1) := by decide +kernel
theorem dX11_no_6 : decode cX11_no 6 = .ok (.iadd, 1) := by decide +kernel
theorem dX11_no_7 : decode cX11_no 7 = .ok (.putfield 51, 3) := by decide +kernel
theorem dX11_no_10 : decode cX11_no 10 = .ok (.bipush (-3), 2) := by decide +kernel
theorem dX11_no_12 : decode cX11_no 12 = .ok (.ireturn, 1) := by decide +kernel
theorem dX11_full_0 : decode cX11_full 0 = .ok (.aload_n 0, 1) := by decide +kernel
theorem dX11_full_1 : decode cX11_full 1 = .ok (.dup, 1) := by decide +kernel
theorem dX11_full_2 : decode cX11_full 2 = .ok (.getfield 54, 3) := by decide +kernel
theorem dX11_full_5 : decode cX11_full 5 = .ok (.iconst 1, 1) := by decide +kernel
theorem dX11_full_6 : decode cX11_full 6 = .ok (.iadd, 1) := by decide +kernel
theorem dX11_full_7 : decode cX11_full 7 = .ok (.putfield 54, 3) := by decide +kernel
theorem dX11_full_10 : decode cX11_full 10 = .ok (.bipush (-4), 2) := by decide +kernel
theorem dX11_full_12 : decode cX11_full 12 = .ok (.ireturn, 1) := by decide +kernel
theorem dX11_outside_0 : decode cX11_outside 0 = .ok (.iload_n 0, 1) := by decide +kernel
theorem dX11_outside_1 : decode cX11_outside 1 = .ok (.iload_n 1, 1) := by decide +kernel
theorem dX11_outside_2 : decode cX11_outside 2 = .ok (.if_icmp .lt 8, 3) := by decide +kernel
theorem dX11_outside_5 : decode cX11_outside 5 = .ok (.iload_n 0, 1) := by decide +kernel
theorem dX11_outside_6 : decode cX11_outside 6 = .ok (.iload_n 2, 1) := by decide +kernel
theorem dX11_outside_7 : decode cX11_outside 7 = .ok (.if_icmp .le 7, 3) := by decide +kernel
theorem dX11_outside_10 : decode cX11_outside 10 = .ok (.iconst 1, 1) := by decide +kernel
theorem dX11_outside_11 : decode cX11_outside 11 = .ok (.goto 4, 3) := by decide +kernel
theorem dX11_outside_14 : decode cX11_outside 14 = .ok (.iconst 0, 1) := by decide +kernel
theorem dX11_outside_15 : decode cX11_outside 15 = .ok (.ireturn, 1) := by decide +kernel
theorem dX11_daysToFriends_0 : decode cX11_daysToFriends 0 = .ok (.aload_n 0, 1) := by decide +kernel
theorem dX11_daysToFriends_1 : decode cX11_daysToFriends 1 = .ok (.getfield 23, 3) := by decide +kernel
theorem dX11_daysToFriends_4 : decode cX11_daysToFriends 4 = .ok (.aload_n 0, 1) := by decide +kernel
theorem dX11_daysToFriends_5 : decode cX11_daysToFriends 5 = .ok (.getfield 80, 3) := by decide +kernel
theorem dX11_daysToFriends_8 : decode cX11_daysToFriends 8 = .ok (.getfield 137, 3) := by decide +kernel
theorem dX11_daysToFriends_11 : decode cX11_daysToFriends 11 = .ok (.invokevirtual 211, 3) := by decide +kernel
theorem dX11_daysToFriends_14 : decode cX11_daysToFriends 14 = .ok (.iconst 0, 1) := by decide +kernel
theorem dX11_daysToFriends_15 : decode cX11_daysToFriends 15 = .ok (.istore_n 2, 1) := by decide +kernel
theorem dX11_daysToFriends_16 : decode cX11_daysToFriends 16 = .ok (.iload_n 2, 1) := by decide +kernel
theorem dX11_daysToFriends_17 : decode cX11_daysToFriends 17 = .ok (.bipush 90, 2) := by decide +kernel
theorem dX11_daysToFriends_19 : decode cX11_daysToFriends 19 = .ok (.if_icmp .gt 29, 3) := by decide +kernel
theorem dX11_daysToFriends_22 : decode cX11_daysToFriends 22 = .ok (.aload_n 0, 1) := by decide +kernel
theorem dX11_daysToFriends_23 : decode cX11_daysToFriends 23 = .ok (.getfield 23, 3) := by decide +kernel
theorem dX11_daysToFriends_26 : decode cX11_daysToFriends 26 = .ok (.invokevirtual 310, 3) := by decide +kernel
theorem dX11_daysToFriends_29 : decode cX11_daysToFriends 29 = .ok (.ifCond .eq 5, 3) := by decide +kernel
theorem dX11_daysToFriends_32 : decode cX11_daysToFriends 32 = .ok (.iload_n 2, 1) := by decide +kernel
theorem dX11_daysToFriends_33 : decode cX11_daysToFriends 33 = .ok (.ireturn, 1) := by decide +kernel
theorem dX11_daysToFriends_34 : decode cX11_daysToFriends 34 = .ok (.aload_n 0, 1) := by decide +kernel
theorem dX11_daysToFriends_35 : decode cX11_daysToFriends 35 = .ok (.getfield 23, 3) := by decide +kernel
theorem dX11_daysToFriends_38 : decode cX11_daysToFriends 38 = .ok (.iload_n 1, 1) := by decide +kernel
theorem dX11_daysToFriends_39 : decode cX11_daysToFriends 39 = .ok (.invokevirtual 168, 3) := by decide +kernel
theorem dX11_daysToFriends_42 : decode cX11_daysToFriends 42 = .ok (.iinc 2 1, 3) := by decide +kernel
theorem dX11_daysToFriends_45 : decode cX11_daysToFriends 45 = .ok (.goto (-29), 3) := by decide +kernel
theorem dX11_daysToFriends_48 : decode cX11_daysToFriends 48 = .ok (.iconst (-1), 1) := by decide +kernel
theorem dX11_daysToFriends_49 : decode cX11_daysToFriends 49 = .ok (.ireturn, 1) := by decide +kernel
theorem dX11_staysQuarrelled_0 : decode cX11_staysQuarrelled 0 = .ok (.aload_n 0, 1) := by decide +kernel
theorem dX11_staysQuarrelled_1 : decode cX11_staysQuarrelled 1 = .ok (.getfield 23, 3) := by decide +kernel
theorem dX11_staysQuarrelled_4 : decode cX11_staysQuarrelled 4 = .ok (.aload_n 0, 1) := by decide +kernel
theorem dX11_staysQuarrelled_5 : decode cX11_staysQuarrelled 5 = .ok (.getfield 80, 3) := by decide +kernel
theorem dX11_staysQuarrelled_8 : decode cX11_staysQuarrelled 8 = .ok (.getfield 137, 3) := by decide +kernel
theorem dX11_staysQuarrelled_11 : decode cX11_staysQuarrelled 11 = .ok (.invokevirtual 211, 3) := by decide +kernel
theorem dX11_staysQuarrelled_14 : decode cX11_staysQuarrelled 14 = .ok (.aload_n 0, 1) := by decide +kernel
theorem dX11_staysQuarrelled_15 : decode cX11_staysQuarrelled 15 = .ok (.getfield 23, 3) := by decide +kernel
theorem dX11_staysQuarrelled_18 : decode cX11_staysQuarrelled 18 = .ok (.iload_n 1, 1) := by decide +kernel
theorem dX11_staysQuarrelled_19 : decode cX11_staysQuarrelled 19 = .ok (.invokevirtual 168, 3) := by decide +kernel
theorem dX11_staysQuarrelled_22 : decode cX11_staysQuarrelled 22 = .ok (.iconst 0, 1) := by decide +kernel
theorem dX11_staysQuarrelled_23 : decode cX11_staysQuarrelled 23 = .ok (.istore 4, 2) := by decide +kernel
theorem dX11_staysQuarrelled_25 : decode cX11_staysQuarrelled 25 = .ok (.iload 4, 2) := by decide +kernel
theorem dX11_staysQuarrelled_27 : decode cX11_staysQuarrelled 27 = .ok (.iload_n 3, 1) := by decide +kernel
theorem dX11_staysQuarrelled_28 : decode cX11_staysQuarrelled 28 = .ok (.if_icmp .ge 29, 3) := by decide +kernel
theorem dX11_staysQuarrelled_31 : decode cX11_staysQuarrelled 31 = .ok (.aload_n 0, 1) := by decide +kernel
theorem dX11_staysQuarrelled_32 : decode cX11_staysQuarrelled 32 = .ok (.getfield 23, 3) := by decide +kernel
theorem dX11_staysQuarrelled_35 : decode cX11_staysQuarrelled 35 = .ok (.invokevirtual 310, 3) := by decide +kernel
theorem dX11_staysQuarrelled_38 : decode cX11_staysQuarrelled 38 = .ok (.ifCond .eq 5, 3) := by decide +kernel
theorem dX11_staysQuarrelled_41 : decode cX11_staysQuarrelled 41 = .ok (.iconst 0, 1) := by decide +kernel
theorem dX11_staysQuarrelled_42 : decode cX11_staysQuarrelled 42 = .ok (.ireturn, 1) := by decide +kernel
theorem dX11_staysQuarrelled_43 : decode cX11_staysQuarrelled 43 = .ok (.aload_n 0, 1) := by decide +kernel
theorem dX11_staysQuarrelled_44 : decode cX11_staysQuarrelled 44 = .ok (.getfield 23, 3) := by decide +kernel
theorem dX11_staysQuarrelled_47 : decode cX11_staysQuarrelled 47 = .ok (.iload_n 2, 1) := by decide +kernel
theorem dX11_staysQuarrelled_48 : decode cX11_staysQuarrelled 48 = .ok (.invokevirtual 168, 3) := by decide +kernel
theorem dX11_staysQuarrelled_51 : decode cX11_staysQuarrelled 51 = .ok (.iinc 4 1, 3) := by decide +kernel
theorem dX11_staysQuarrelled_54 : decode cX11_staysQuarrelled 54 = .ok (.goto (-29), 3) := by decide +kernel
theorem dX11_staysQuarrelled_57 : decode cX11_staysQuarrelled 57 = .ok (.aload_n 0, 1) := by decide +kernel
theorem dX11_staysQuarrelled_58 : decode cX11_staysQuarrelled 58 = .ok (.getfield 23, 3) := by decide +kernel
theorem dX11_staysQuarrelled_61 : decode cX11_staysQuarrelled 61 = .ok (.invokevirtual 310, 3) := by decide +kernel
theorem dX11_staysQuarrelled_64 : decode cX11_staysQuarrelled 64 = .ok (.ifCond .ne 7, 3) := by decide +kernel
theorem dX11_staysQuarrelled_67 : decode cX11_staysQuarrelled 67 = .ok (.iconst 1, 1) := by decide +kernel
theorem dX11_staysQuarrelled_68 : decode cX11_staysQuarrelled 68 = .ok (.goto 4, 3) := by decide +kernel
theorem dX11_staysQuarrelled_71 : decode cX11_staysQuarrelled 71 = .ok (.iconst 0, 1) := by decide +kernel
theorem dX11_staysQuarrelled_72 : decode cX11_staysQuarrelled 72 = .ok (.ireturn, 1) := by decide +kernel
theorem dX11_lastingOf_0 : decode cX11_lastingOf 0 = .ok (.aload_n 0, 1) := by decide +kernel
theorem dX11_lastingOf_1 : decode cX11_lastingOf 1 = .ok (.aload_n 0, 1) := by decide +kernel
theorem dX11_lastingOf_2 : decode cX11_lastingOf 2 = .ok (.getfield 80, 3) := by decide +kernel
theorem dX11_lastingOf_5 : decode cX11_lastingOf 5 = .ok (.iload_n 1, 1) := by decide +kernel
theorem dX11_lastingOf_6 : decode cX11_lastingOf 6 = .ok (.iload_n 2, 1) := by decide +kernel
theorem dX11_lastingOf_7 : decode cX11_lastingOf 7 = .ok (.invokevirtual 314, 3) := by decide +kernel
theorem dX11_lastingOf_10 : decode cX11_lastingOf 10 = .ok (.invokevirtual 221, 3) := by decide +kernel
theorem dX11_lastingOf_13 : decode cX11_lastingOf 13 = .ok (.istore_n 3, 1) := by decide +kernel
theorem dX11_lastingOf_14 : decode cX11_lastingOf 14 = .ok (.iload_n 3, 1) := by decide +kernel
theorem dX11_lastingOf_15 : decode cX11_lastingOf 15 = .ok (.iconst (-1), 1) := by decide +kernel
theorem dX11_lastingOf_16 : decode cX11_lastingOf 16 = .ok (.if_icmp .ne 8, 3) := by decide +kernel
theorem dX11_lastingOf_19 : decode cX11_lastingOf 19 = .ok (.bipush 91, 2) := by decide +kernel
theorem dX11_lastingOf_21 : decode cX11_lastingOf 21 = .ok (.goto 4, 3) := by decide +kernel
theorem dX11_lastingOf_24 : decode cX11_lastingOf 24 = .ok (.iload_n 3, 1) := by decide +kernel
theorem dX11_lastingOf_25 : decode cX11_lastingOf 25 = .ok (.ireturn, 1) := by decide +kernel
theorem dX11_bestPair_0 : decode cX11_bestPair 0 = .ok (.iconst (-1), 1) := by decide +kernel
theorem dX11_bestPair_1 : decode cX11_bestPair 1 = .ok (.istore_n 1, 1) := by decide +kernel
theorem dX11_bestPair_2 : decode cX11_bestPair 2 = .ok (.iconst (-1), 1) := by decide +kernel
theorem dX11_bestPair_3 : decode cX11_bestPair 3 = .ok (.istore_n 2, 1) := by decide +kernel
theorem dX11_bestPair_4 : decode cX11_bestPair 4 = .ok (.iconst 0, 1) := by decide +kernel
theorem dX11_bestPair_5 : decode cX11_bestPair 5 = .ok (.istore_n 3, 1) := by decide +kernel
theorem dX11_bestPair_6 : decode cX11_bestPair 6 = .ok (.iload_n 3, 1) := by decide +kernel
theorem dX11_bestPair_7 : decode cX11_bestPair 7 = .ok (.aload_n 0, 1) := by decide +kernel
theorem dX11_bestPair_8 : decode cX11_bestPair 8 = .ok (.getfield 80, 3) := by decide +kernel
theorem dX11_bestPair_11 : decode cX11_bestPair 11 = .ok (.getfield 99, 3) := by decide +kernel
theorem dX11_bestPair_14 : decode cX11_bestPair 14 = .ok (.if_icmp .ge 58, 3) := by decide +kernel
theorem dX11_bestPair_17 : decode cX11_bestPair 17 = .ok (.iload_n 3, 1) := by decide +kernel
theorem dX11_bestPair_18 : decode cX11_bestPair 18 = .ok (.iconst 1, 1) := by decide +kernel
theorem dX11_bestPair_19 : decode cX11_bestPair 19 = .ok (.iadd, 1) := by decide +kernel
theorem dX11_bestPair_20 : decode cX11_bestPair 20 = .ok (.istore 4, 2) := by decide +kernel
theorem dX11_bestPair_22 : decode cX11_bestPair 22 = .ok (.iload 4, 2) := by decide +kernel
theorem dX11_bestPair_24 : decode cX11_bestPair 24 = .ok (.aload_n 0, 1) := by decide +kernel
theorem dX11_bestPair_25 : decode cX11_bestPair 25 = .ok (.getfield 80, 3) := by decide +kernel
theorem dX11_bestPair_28 : decode cX11_bestPair 28 = .ok (.getfield 99, 3) := by decide +kernel
theorem dX11_bestPair_31 : decode cX11_bestPair 31 = .ok (.if_icmp .ge 35, 3) := by decide +kernel
theorem dX11_bestPair_34 : decode cX11_bestPair 34 = .ok (.aload_n 0, 1) := by decide +kernel
theorem dX11_bestPair_35 : decode cX11_bestPair 35 = .ok (.iload_n 3, 1) := by decide +kernel
theorem dX11_bestPair_36 : decode cX11_bestPair 36 = .ok (.iload 4, 2) := by decide +kernel
theorem dX11_bestPair_38 : decode cX11_bestPair 38 = .ok (.invokevirtual 231, 3) := by decide +kernel
theorem dX11_bestPair_41 : decode cX11_bestPair 41 = .ok (.istore 5, 2) := by decide +kernel
theorem dX11_bestPair_43 : decode cX11_bestPair 43 = .ok (.iload 5, 2) := by decide +kernel
theorem dX11_bestPair_45 : decode cX11_bestPair 45 = .ok (.iload_n 2, 1) := by decide +kernel
theorem dX11_bestPair_46 : decode cX11_bestPair 46 = .ok (.if_icmp .le 14, 3) := by decide +kernel
theorem dX11_bestPair_49 : decode cX11_bestPair 49 = .ok (.iload 5, 2) := by decide +kernel
theorem dX11_bestPair_51 : decode cX11_bestPair 51 = .ok (.istore_n 2, 1) := by decide +kernel
theorem dX11_bestPair_52 : decode cX11_bestPair 52 = .ok (.bipush 10, 2) := by decide +kernel
theorem dX11_bestPair_54 : decode cX11_bestPair 54 = .ok (.iload_n 3, 1) := by decide +kernel
theorem dX11_bestPair_55 : decode cX11_bestPair 55 = .ok (.imul, 1) := by decide +kernel
theorem dX11_bestPair_56 : decode cX11_bestPair 56 = .ok (.iload 4, 2) := by decide +kernel
theorem dX11_bestPair_58 : decode cX11_bestPair 58 = .ok (.iadd, 1) := by decide +kernel
theorem dX11_bestPair_59 : decode cX11_bestPair 59 = .ok (.istore_n 1, 1) := by decide +kernel
theorem dX11_bestPair_60 : decode cX11_bestPair 60 = .ok (.iinc 4 1, 3) := by decide +kernel
theorem dX11_bestPair_63 : decode cX11_bestPair 63 = .ok (.goto (-41), 3) := by decide +kernel
theorem dX11_bestPair_66 : decode cX11_bestPair 66 = .ok (.iinc 3 1, 3) := by decide +kernel
theorem dX11_bestPair_69 : decode cX11_bestPair 69 = .ok (.goto (-63), 3) := by decide +kernel
theorem dX11_bestPair_72 : decode cX11_bestPair 72 = .ok (.iload_n 1, 1) := by decide +kernel
theorem dX11_bestPair_73 : decode cX11_bestPair 73 = .ok (.ireturn, 1) := by decide +kernel
theorem dX11_stuckPairs_0 : decode cX11_stuckPairs 0 = .ok (.iconst 0, 1) := by decide +kernel
theorem dX11_stuckPairs_1 : decode cX11_stuckPairs 1 = .ok (.istore_n 1, 1) := by decide +kernel
theorem dX11_stuckPairs_2 : decode cX11_stuckPairs 2 = .ok (.aload_n 0, 1) := by decide +kernel
theorem dX11_stuckPairs_3 : decode cX11_stuckPairs 3 = .ok (.getfield 23, 3) := by decide +kernel
theorem dX11_stuckPairs_6 : decode cX11_stuckPairs 6 = .ok (.aload_n 0, 1) := by decide +kernel
theorem dX11_stuckPairs_7 : decode cX11_stuckPairs 7 = .ok (.getfield 80, 3) := by decide +kernel
theorem dX11_stuckPairs_10 : decode cX11_stuckPairs 10 = .ok (.getfield 137, 3) := by decide +kernel
theorem dX11_stuckPairs_13 : decode cX11_stuckPairs 13 = .ok (.invokevirtual 211, 3) := by decide +kernel
theorem dX11_stuckPairs_16 : decode cX11_stuckPairs 16 = .ok (.iconst 0, 1) := by decide +kernel
theorem dX11_stuckPairs_17 : decode cX11_stuckPairs 17 = .ok (.istore_n 2, 1) := by decide +kernel
theorem dX11_stuckPairs_18 : decode cX11_stuckPairs 18 = .ok (.iload_n 2, 1) := by decide +kernel
theorem dX11_stuckPairs_19 : decode cX11_stuckPairs 19 = .ok (.aload_n 0, 1) := by decide +kernel
theorem dX11_stuckPairs_20 : decode cX11_stuckPairs 20 = .ok (.getfield 80, 3) := by decide +kernel
theorem dX11_stuckPairs_23 : decode cX11_stuckPairs 23 = .ok (.getfield 99, 3) := by decide +kernel
theorem dX11_stuckPairs_26 : decode cX11_stuckPairs 26 = .ok (.if_icmp .ge 63, 3) := by decide +kernel
theorem dX11_stuckPairs_29 : decode cX11_stuckPairs 29 = .ok (.iload_n 2, 1) := by decide +kernel
theorem dX11_stuckPairs_30 : decode cX11_stuckPairs 30 = .ok (.iconst 1, 1) := by decide +kernel
theorem dX11_stuckPairs_31 : decode cX11_stuckPairs 31 = .ok (.iadd, 1) := by decide +kernel
theorem dX11_stuckPairs_32 : decode cX11_stuckPairs 32 = .ok (.istore_n 3, 1) := by decide +kernel
theorem dX11_stuckPairs_33 : decode cX11_stuckPairs 33 = .ok (.iload_n 3, 1) := by decide +kernel
theorem dX11_stuckPairs_34 : decode cX11_stuckPairs 34 = .ok (.aload_n 0, 1) := by decide +kernel
theorem dX11_stuckPairs_35 : decode cX11_stuckPairs 35 = .ok (.getfield 80, 3) := by decide +kernel
theorem dX11_stuckPairs_38 : decode cX11_stuckPairs 38 = .ok (.getfield 99, 3) := by decide +kernel
theorem dX11_stuckPairs_41 : decode cX11_stuckPairs 41 = .ok (.if_icmp .ge 42, 3) := by decide +kernel
theorem dX11_stuckPairs_44 : decode cX11_stuckPairs 44 = .ok (.aload_n 0, 1) := by decide +kernel
theorem dX11_stuckPairs_45 : decode cX11_stuckPairs 45 = .ok (.getfield 23, 3) := by decide +kernel
theorem dX11_stuckPairs_48 : decode cX11_stuckPairs 48 = .ok (.iload_n 2, 1) := by decide +kernel
theorem dX11_stuckPairs_49 : decode cX11_stuckPairs 49 = .ok (.putfield 140, 3) := by decide +kernel
theorem dX11_stuckPairs_52 : decode cX11_stuckPairs 52 = .ok (.aload_n 0, 1) := by decide +kernel
theorem dX11_stuckPairs_53 : decode cX11_stuckPairs 53 = .ok (.getfield 23, 3) := by decide +kernel
theorem dX11_stuckPairs_56 : decode cX11_stuckPairs 56 = .ok (.iload_n 3, 1) := by decide +kernel
theorem dX11_stuckPairs_57 : decode cX11_stuckPairs 57 = .ok (.putfield 143, 3) := by decide +kernel
theorem dX11_stuckPairs_60 : decode cX11_stuckPairs 60 = .ok (.aload_n 0, 1) := by decide +kernel
theorem dX11_stuckPairs_61 : decode cX11_stuckPairs 61 = .ok (.getfield 80, 3) := by decide +kernel
theorem dX11_stuckPairs_64 : decode cX11_stuckPairs 64 = .ok (.aload_n 0, 1) := by decide +kernel
theorem dX11_stuckPairs_65 : decode cX11_stuckPairs 65 = .ok (.getfield 23, 3) := by decide +kernel
theorem dX11_stuckPairs_68 : decode cX11_stuckPairs 68 = .ok (.invokevirtual 214, 3) := by decide +kernel
theorem dX11_stuckPairs_71 : decode cX11_stuckPairs 71 = .ok (.ifCond .ne 6, 3) := by decide +kernel
theorem dX11_stuckPairs_74 : decode cX11_stuckPairs 74 = .ok (.iinc 1 1, 3) := by decide +kernel
theorem dX11_stuckPairs_77 : decode cX11_stuckPairs 77 = .ok (.iinc 3 1, 3) := by decide +kernel
theorem dX11_stuckPairs_80 : decode cX11_stuckPairs 80 = .ok (.goto (-47), 3) := by decide +kernel
theorem dX11_stuckPairs_83 : decode cX11_stuckPairs 83 = .ok (.iinc 2 1, 3) := by decide +kernel
theorem dX11_stuckPairs_86 : decode cX11_stuckPairs 86 = .ok (.goto (-68), 3) := by decide +kernel
theorem dX11_stuckPairs_89 : decode cX11_stuckPairs 89 = .ok (.iload_n 1, 1) := by decide +kernel
theorem dX11_stuckPairs_90 : decode cX11_stuckPairs 90 = .ok (.ireturn, 1) := by decide +kernel
theorem dX11_tryFrom_0 : decode cX11_tryFrom 0 = .ok (.iload_n 3, 1) := by decide +kernel
theorem dX11_tryFrom_1 : decode cX11_tryFrom 1 = .ok (.iload_n 2, 1) := by decide +kernel
theorem dX11_tryFrom_2 : decode cX11_tryFrom 2 = .ok (.iadd, 1) := by decide +kernel
theorem dX11_tryFrom_3 : decode cX11_tryFrom 3 = .ok (.iload_n 1, 1) := by decide +kernel
theorem dX11_tryFrom_4 : decode cX11_tryFrom 4 = .ok (.isub, 1) := by decide +kernel
theorem dX11_tryFrom_5 : decode cX11_tryFrom 5 = .ok (.aload_n 0, 1) := by decide +kernel
theorem dX11_tryFrom_6 : decode cX11_tryFrom 6 = .ok (.getfield 38, 3) := by decide +kernel
theorem dX11_tryFrom_9 : decode cX11_tryFrom 9 = .ok (.if_icmp .gt 4, 3) := by decide +kernel
theorem dX11_tryFrom_12 : decode cX11_tryFrom 12 = .ok (.return_, 1) := by decide +kernel
theorem dX11_tryFrom_13 : decode cX11_tryFrom 13 = .ok (.iload_n 1, 1) := by decide +kernel
theorem dX11_tryFrom_14 : decode cX11_tryFrom 14 = .ok (.iload_n 2, 1) := by decide +kernel
theorem dX11_tryFrom_15 : decode cX11_tryFrom 15 = .ok (.if_icmp .ge 8, 3) := by decide +kernel
theorem dX11_tryFrom_18 : decode cX11_tryFrom 18 = .ok (.iload_n 1, 1) := by decide +kernel
theorem dX11_tryFrom_19 : decode cX11_tryFrom 19 = .ok (.iconst 4, 1) := by decide +kernel
theorem dX11_tryFrom_20 : decode cX11_tryFrom 20 = .ok (.if_icmp .lt 23, 3) := by decide +kernel
theorem dX11_tryFrom_23 : decode cX11_tryFrom 23 = .ok (.aload_n 0, 1) := by decide +kernel
theorem dX11_tryFrom_24 : decode cX11_tryFrom 24 = .ok (.iload_n 3, 1) := by decide +kernel
theorem dX11_tryFrom_25 : decode cX11_tryFrom 25 = .ok (.putfield 38, 3) := by decide +kernel
theorem dX11_tryFrom_28 : decode cX11_tryFrom 28 = .ok (.aload_n 0, 1) := by decide +kernel
theorem dX11_tryFrom_29 : decode cX11_tryFrom 29 = .ok (.getfield 31, 3) := by decide +kernel
theorem dX11_tryFrom_32 : decode cX11_tryFrom 32 = .ok (.iconst 0, 1) := by decide +kernel
theorem dX11_tryFrom_33 : decode cX11_tryFrom 33 = .ok (.aload_n 0, 1) := by decide +kernel
theorem dX11_tryFrom_34 : decode cX11_tryFrom 34 = .ok (.getfield 35, 3) := by decide +kernel
theorem dX11_tryFrom_37 : decode cX11_tryFrom 37 = .ok (.iconst 0, 1) := by decide +kernel
theorem dX11_tryFrom_38 : decode cX11_tryFrom 38 = .ok (.iconst 4, 1) := by decide +kernel
theorem dX11_tryFrom_39 : decode cX11_tryFrom 39 = .ok (.invokestatic 317, 3) := by decide +kernel
theorem dX11_tryFrom_42 : decode cX11_tryFrom 42 = .ok (.return_, 1) := by decide +kernel
theorem dX11_tryFrom_43 : decode cX11_tryFrom 43 = .ok (.iconst 0, 1) := by decide +kernel
theorem dX11_tryFrom_44 : decode cX11_tryFrom 44 = .ok (.istore 5, 2) := by decide +kernel
theorem dX11_tryFrom_46 : decode cX11_tryFrom 46 = .ok (.iconst 0, 1) := by decide +kernel
theorem dX11_tryFrom_47 : decode cX11_tryFrom 47 = .ok (.istore 6, 2) := by decide +kernel
theorem dX11_tryFrom_49 : decode cX11_tryFrom 49 = .ok (.iload 6, 2) := by decide +kernel
theorem dX11_tryFrom_51 : decode cX11_tryFrom 51 = .ok (.bipush 8, 2) := by decide +kernel
theorem dX11_tryFrom_53 : decode cX11_tryFrom 53 = .ok (.if_icmp .gt 164, 3) := by decide +kernel
theorem dX11_tryFrom_56 : decode cX11_tryFrom 56 = .ok (.iload 6, 2) := by decide +kernel
theorem dX11_tryFrom_58 : decode cX11_tryFrom 58 = .ok (.bipush 8, 2) := by decide +kernel
theorem dX11_tryFrom_60 : decode cX11_tryFrom 60 = .ok (.if_icmp .ge 20, 3) := by decide +kernel
theorem dX11_tryFrom_63 : decode cX11_tryFrom 63 = .ok (.aload_n 0, 1) := by decide +kernel
theorem dX11_tryFrom_64 : decode cX11_tryFrom 64 = .ok (.getfield 27, 3) := by decide +kernel
theorem dX11_tryFrom_67 : decode cX11_tryFrom 67 = .ok (.iload_n 1, 1) := by decide +kernel
theorem dX11_tryFrom_68 : decode cX11_tryFrom 68 = .ok (.aaload, 1) := by decide +kernel
theorem dX11_tryFrom_69 : decode cX11_tryFrom 69 = .ok (.iload 6, 2) := by decide +kernel
theorem dX11_tryFrom_71 : decode cX11_tryFrom 71 = .ok (.invokevirtual 150, 3) := by decide +kernel
theorem dX11_tryFrom_74 : decode cX11_tryFrom 74 = .ok (.ifCond .eq 6, 3) := by decide +kernel
theorem dX11_tryFrom_77 : decode cX11_tryFrom 77 = .ok (.goto 134, 3) := by decide +kernel
theorem dX11_tryFrom_80 : decode cX11_tryFrom 80 = .ok (.aload_n 0, 1) := by decide +kernel
theorem dX11_tryFrom_81 : decode cX11_tryFrom 81 = .ok (.getfield 27, 3) := by decide +kernel
theorem dX11_tryFrom_84 : decode cX11_tryFrom 84 = .ok (.iload_n 1, 1) := by decide +kernel
theorem dX11_tryFrom_85 : decode cX11_tryFrom 85 = .ok (.iconst 1, 1) := by decide +kernel
theorem dX11_tryFrom_86 : decode cX11_tryFrom 86 = .ok (.iadd, 1) := by decide +kernel
theorem dX11_tryFrom_87 : decode cX11_tryFrom 87 = .ok (.aaload, 1) := by decide +kernel
theorem dX11_tryFrom_88 : decode cX11_tryFrom 88 = .ok (.astore 7, 2) := by decide +kernel
theorem dX11_tryFrom_90 : decode cX11_tryFrom 90 = .ok (.aload 7, 2) := by decide +kernel
theorem dX11_tryFrom_92 : decode cX11_tryFrom 92 = .ok (.aload_n 0, 1) := by decide +kernel
theorem dX11_tryFrom_93 : decode cX11_tryFrom 93 = .ok (.getfield 27, 3) := by decide +kernel
theorem dX11_tryFrom_96 : decode cX11_tryFrom 96 = .ok (.iload_n 1, 1) := by decide +kernel
theorem dX11_tryFrom_97 : decode cX11_tryFrom 97 = .ok (.aaload, 1) := by decide +kernel
theorem dX11_tryFrom_98 : decode cX11_tryFrom 98 = .ok (.invokevirtual 211, 3) := by decide +kernel
theorem dX11_tryFrom_101 : decode cX11_tryFrom 101 = .ok (.iload 6, 2) := by decide +kernel
theorem dX11_tryFrom_103 : decode cX11_tryFrom 103 = .ok (.bipush 8, 2) := by decide +kernel
theorem dX11_tryFrom_105 : decode cX11_tryFrom 105 = .ok (.if_icmp .ge 17, 3) := by decide +kernel
theorem dX11_tryFrom_108 : decode cX11_tryFrom 108 = .ok (.aload_n 0, 1) := by decide +kernel
theorem dX11_tryFrom_109 : decode cX11_tryFrom 109 = .ok (.getfield 80, 3) := by decide +kernel
theorem dX11_tryFrom_112 : decode cX11_tryFrom 112 = .ok (.aload 7, 2) := by decide +kernel
theorem dX11_tryFrom_114 : decode cX11_tryFrom 114 = .ok (.iload 6, 2) := by decide +kernel
theorem dX11_tryFrom_116 : decode cX11_tryFrom 116 = .ok (.invokevirtual 157, 3) := by decide +kernel
theorem dX11_tryFrom_119 : decode cX11_tryFrom 119 = .ok (.goto 4, 3) := by decide +kernel
theorem dX11_tryFrom_122 : decode cX11_tryFrom 122 = .ok (.iconst 0, 1) := by decide +kernel
theorem dX11_tryFrom_123 : decode cX11_tryFrom 123 = .ok (.istore 8, 2) := by decide +kernel
theorem dX11_tryFrom_125 : decode cX11_tryFrom 125 = .ok (.iload 8, 2) := by decide +kernel
theorem dX11_tryFrom_127 : decode cX11_tryFrom 127 = .ok (.iconst 3, 1) := by decide +kernel
theorem dX11_tryFrom_128 : decode cX11_tryFrom 128 = .ok (.if_icmp .eq 10, 3) := by decide +kernel
theorem dX11_tryFrom_131 : decode cX11_tryFrom 131 = .ok (.iload 6, 2) := by decide +kernel
theorem dX11_tryFrom_133 : decode cX11_tryFrom 133 = .ok (.bipush 8, 2) := by decide +kernel
theorem dX11_tryFrom_135 : decode cX11_tryFrom 135 = .ok (.if_icmp .ne 7, 3) := by decide +kernel
theorem dX11_tryFrom_138 : decode cX11_tryFrom 138 = .ok (.iconst 0, 1) := by decide +kernel
theorem dX11_tryFrom_139 : decode cX11_tryFrom 139 = .ok (.goto 13, 3) := by decide +kernel
theorem dX11_tryFrom_142 : decode cX11_tryFrom 142 = .ok (.iload 8, 2) := by decide +kernel
theorem dX11_tryFrom_144 : decode cX11_tryFrom 144 = .ok (.ifCond .ne 7, 3) := by decide +kernel
theorem dX11_tryFrom_147 : decode cX11_tryFrom 147 = .ok (.iconst 1, 1) := by decide +kernel
theorem dX11_tryFrom_148 : decode cX11_tryFrom 148 = .ok (.goto 4, 3) := by decide +kernel
theorem dX11_tryFrom_151 : decode cX11_tryFrom 151 = .ok (.iconst 2, 1) := by decide +kernel
theorem dX11_tryFrom_152 : decode cX11_tryFrom 152 = .ok (.istore 9, 2) := by decide +kernel
theorem dX11_tryFrom_154 : decode cX11_tryFrom 154 = .ok (.iload 5, 2) := by decide +kernel
theorem dX11_tryFrom_156 : decode cX11_tryFrom 156 = .ok (.iload 9, 2) := by decide +kernel
theorem dX11_tryFrom_158 : decode cX11_tryFrom 158 = .ok (.iand, 1) := by decide +kernel
theorem dX11_tryFrom_159 : decode cX11_tryFrom 159 = .ok (.ifCond .eq 6, 3) := by decide +kernel
theorem dX11_tryFrom_162 : decode cX11_tryFrom 162 = .ok (.goto 49, 3) := by decide +kernel
theorem dX11_tryFrom_165 : decode cX11_tryFrom 165 = .ok (.iload 5, 2) := by decide +kernel
theorem dX11_tryFrom_167 : decode cX11_tryFrom 167 = .ok (.iload 9, 2) := by decide +kernel
theorem dX11_tryFrom_169 : decode cX11_tryFrom 169 = .ok (.ior, 1) := by decide +kernel
theorem dX11_tryFrom_170 : decode cX11_tryFrom 170 = .ok (.istore 5, 2) := by decide +kernel
theorem dX11_tryFrom_172 : decode cX11_tryFrom 172 = .ok (.aload_n 0, 1) := by decide +kernel
theorem dX11_tryFrom_173 : decode cX11_tryFrom 173 = .ok (.getfield 31, 3) := by decide +kernel
theorem dX11_tryFrom_176 : decode cX11_tryFrom 176 = .ok (.iload_n 1, 1) := by decide +kernel
theorem dX11_tryFrom_177 : decode cX11_tryFrom 177 = .ok (.iload 6, 2) := by decide +kernel
theorem dX11_tryFrom_179 : decode cX11_tryFrom 179 = .ok (.iastore, 1) := by decide +kernel
theorem dX11_tryFrom_180 : decode cX11_tryFrom 180 = .ok (.aload 7, 2) := by decide +kernel
theorem dX11_tryFrom_182 : decode cX11_tryFrom 182 = .ok (.iconst 1, 1) := by decide +kernel
theorem dX11_tryFrom_183 : decode cX11_tryFrom 183 = .ok (.iload 4, 2) := by decide +kernel
theorem dX11_tryFrom_185 : decode cX11_tryFrom 185 = .ok (.invokevirtual 323, 3) := by decide +kernel
theorem dX11_tryFrom_188 : decode cX11_tryFrom 188 = .ok (.aload_n 0, 1) := by decide +kernel
theorem dX11_tryFrom_189 : decode cX11_tryFrom 189 = .ok (.iload_n 1, 1) := by decide +kernel
theorem dX11_tryFrom_190 : decode cX11_tryFrom 190 = .ok (.iconst 1, 1) := by decide +kernel
theorem dX11_tryFrom_191 : decode cX11_tryFrom 191 = .ok (.iadd, 1) := by decide +kernel
theorem dX11_tryFrom_192 : decode cX11_tryFrom 192 = .ok (.iload_n 2, 1) := by decide +kernel
theorem dX11_tryFrom_193 : decode cX11_tryFrom 193 = .ok (.iload 8, 2) := by decide +kernel
theorem dX11_tryFrom_195 : decode cX11_tryFrom 195 = .ok (.iconst 3, 1) := by decide +kernel
theorem dX11_tryFrom_196 : decode cX11_tryFrom 196 = .ok (.if_icmp .ne 9, 3) := by decide +kernel
theorem dX11_tryFrom_199 : decode cX11_tryFrom 199 = .ok (.iload_n 3, 1) := by decide +kernel
theorem dX11_tryFrom_200 : decode cX11_tryFrom 200 = .ok (.iconst 1, 1) := by decide +kernel
theorem dX11_tryFrom_201 : decode cX11_tryFrom 201 = .ok (.iadd, 1) := by decide +kernel
theorem dX11_tryFrom_202 : decode cX11_tryFrom 202 = .ok (.goto 4, 3) := by decide +kernel
theorem dX11_tryFrom_205 : decode cX11_tryFrom 205 = .ok (.iload_n 3, 1) := by decide +kernel
theorem dX11_tryFrom_206 : decode cX11_tryFrom 206 = .ok (.iload 4, 2) := by decide +kernel
theorem dX11_tryFrom_208 : decode cX11_tryFrom 208 = .ok (.invokevirtual 224, 3) := by decide +kernel
theorem dX11_tryFrom_211 : decode cX11_tryFrom 211 = .ok (.iinc 6 1, 3) := by decide +kernel
theorem dX11_tryFrom_214 : decode cX11_tryFrom 214 = .ok (.goto (-165), 3) := by decide +kernel
theorem dX11_tryFrom_217 : decode cX11_tryFrom 217 = .ok (.return_, 1) := by decide +kernel
theorem dX11_kindsThatFit_0 : decode cX11_kindsThatFit 0 = .ok (.iconst 0, 1) := by decide +kernel
theorem dX11_kindsThatFit_1 : decode cX11_kindsThatFit 1 = .ok (.istore_n 2, 1) := by decide +kernel
theorem dX11_kindsThatFit_2 : decode cX11_kindsThatFit 2 = .ok (.iconst 0, 1) := by decide +kernel
theorem dX11_kindsThatFit_3 : decode cX11_kindsThatFit 3 = .ok (.istore_n 3, 1) := by decide +kernel
theorem dX11_kindsThatFit_4 : decode cX11_kindsThatFit 4 = .ok (.iload_n 3, 1) := by decide +kernel
theorem dX11_kindsThatFit_5 : decode cX11_kindsThatFit 5 = .ok (.bipush 6, 2) := by decide +kernel
theorem dX11_kindsThatFit_7 : decode cX11_kindsThatFit 7 = .ok (.if_icmp .ge 27, 3) := by decide +kernel
theorem dX11_kindsThatFit_10 : decode cX11_kindsThatFit 10 = .ok (.aload_n 0, 1) := by decide +kernel
theorem dX11_kindsThatFit_11 : decode cX11_kindsThatFit 11 = .ok (.getfield 80, 3) := by decide +kernel
theorem dX11_kindsThatFit_14 : decode cX11_kindsThatFit 14 = .ok (.iload_n 1, 1) := by decide +kernel
theorem dX11_kindsThatFit_15 : decode cX11_kindsThatFit 15 = .ok (.iload_n 3, 1) := by decide +kernel
theorem dX11_kindsThatFit_16 : decode cX11_kindsThatFit 16 = .ok (.invokevirtual 261, 3) := by decide +kernel
theorem dX11_kindsThatFit_19 : decode cX11_kindsThatFit 19 = .ok (.ifCond .eq 9, 3) := by decide +kernel
theorem dX11_kindsThatFit_22 : decode cX11_kindsThatFit 22 = .ok (.iload_n 2, 1) := by decide +kernel
theorem dX11_kindsThatFit_23 : decode cX11_kindsThatFit 23 = .ok (.iconst 1, 1) := by decide +kernel
theorem dX11_kindsThatFit_24 : decode cX11_kindsThatFit 24 = .ok (.iload_n 3, 1) := by decide +kernel
theorem dX11_kindsThatFit_25 : decode cX11_kindsThatFit 25 = .ok (.ishl, 1) := by decide +kernel
theorem dX11_kindsThatFit_26 : decode cX11_kindsThatFit 26 = .ok (.ior, 1) := by decide +kernel
theorem dX11_kindsThatFit_27 : decode cX11_kindsThatFit 27 = .ok (.istore_n 2, 1) := by decide +kernel
theorem dX11_kindsThatFit_28 : decode cX11_kindsThatFit 28 = .ok (.iinc 3 1, 3) := by decide +kernel
theorem dX11_kindsThatFit_31 : decode cX11_kindsThatFit 31 = .ok (.goto (-27), 3) := by decide +kernel
theorem dX11_kindsThatFit_34 : decode cX11_kindsThatFit 34 = .ok (.iload_n 2, 1) := by decide +kernel
theorem dX11_kindsThatFit_35 : decode cX11_kindsThatFit 35 = .ok (.ireturn, 1) := by decide +kernel
theorem dX11_gain_0 : decode cX11_gain 0 = .ok (.iload_n 2, 1) := by decide +kernel
theorem dX11_gain_1 : decode cX11_gain 1 = .ok (.ifCond .eq 32, 3) := by decide +kernel
theorem dX11_gain_4 : decode cX11_gain 4 = .ok (.iload_n 3, 1) := by decide +kernel
theorem dX11_gain_5 : decode cX11_gain 5 = .ok (.ifCond .eq 28, 3) := by decide +kernel
theorem dX11_gain_8 : decode cX11_gain 8 = .ok (.aload_n 0, 1) := by decide +kernel
theorem dX11_gain_9 : decode cX11_gain 9 = .ok (.iload_n 1, 1) := by decide +kernel
theorem dX11_gain_10 : decode cX11_gain 10 = .ok (.invokevirtual 326, 3) := by decide +kernel
theorem dX11_gain_13 : decode cX11_gain 13 = .ok (.ifCond .eq 5, 3) := by decide +kernel
theorem dX11_gain_16 : decode cX11_gain 16 = .ok (.iconst 2, 1) := by decide +kernel
theorem dX11_gain_17 : decode cX11_gain 17 = .ok (.ireturn, 1) := by decide +kernel
theorem dX11_gain_18 : decode cX11_gain 18 = .ok (.aload_n 0, 1) := by decide +kernel
theorem dX11_gain_19 : decode cX11_gain 19 = .ok (.iload_n 1, 1) := by decide +kernel
theorem dX11_gain_20 : decode cX11_gain 20 = .ok (.invokevirtual 329, 3) := by decide +kernel
theorem dX11_gain_23 : decode cX11_gain 23 = .ok (.ifCond .eq 8, 3) := by decide +kernel
theorem dX11_gain_26 : decode cX11_gain 26 = .ok (.bipush (-2), 2) := by decide +kernel
theorem dX11_gain_28 : decode cX11_gain 28 = .ok (.goto 4, 3) := by decide +kernel
theorem dX11_gain_31 : decode cX11_gain 31 = .ok (.iconst 0, 1) := by decide +kernel
theorem dX11_gain_32 : decode cX11_gain 32 = .ok (.ireturn, 1) := by decide +kernel
theorem dX11_gain_33 : decode cX11_gain 33 = .ok (.iload_n 2, 1) := by decide +kernel
theorem dX11_gain_34 : decode cX11_gain 34 = .ok (.ifCond .eq 5, 3) := by decide +kernel
theorem dX11_gain_37 : decode cX11_gain 37 = .ok (.iconst (-1), 1) := by decide +kernel
theorem dX11_gain_38 : decode cX11_gain 38 = .ok (.ireturn, 1) := by decide +kernel
theorem dX11_gain_39 : decode cX11_gain 39 = .ok (.iload_n 3, 1) := by decide +kernel
theorem dX11_gain_40 : decode cX11_gain 40 = .ok (.ifCond .eq 7, 3) := by decide +kernel
theorem dX11_gain_43 : decode cX11_gain 43 = .ok (.iconst 1, 1) := by decide +kernel
theorem dX11_gain_44 : decode cX11_gain 44 = .ok (.goto 4, 3) := by decide +kernel
theorem dX11_gain_47 : decode cX11_gain 47 = .ok (.iconst 0, 1) := by decide +kernel
theorem dX11_gain_48 : decode cX11_gain 48 = .ok (.ireturn, 1) := by decide +kernel
theorem dX11_setFraction_0 : decode cX11_setFraction 0 = .ok (.iload_n 2, 1) := by decide +kernel
theorem dX11_setFraction_1 : decode cX11_setFraction 1 = .ok (.istore_n 3, 1) := by decide +kernel
theorem dX11_setFraction_2 : decode cX11_setFraction 2 = .ok (.iload_n 1, 1) := by decide +kernel
theorem dX11_setFraction_3 : decode cX11_setFraction 3 = .ok (.istore 4, 2) := by decide +kernel
theorem dX11_setFraction_5 : decode cX11_setFraction 5 = .ok (.iconst 0, 1) := by decide +kernel
theorem dX11_setFraction_6 : decode cX11_setFraction 6 = .ok (.istore 5, 2) := by decide +kernel
theorem dX11_setFraction_8 : decode cX11_setFraction 8 = .ok (.iload 5, 2) := by decide +kernel
theorem dX11_setFraction_10 : decode cX11_setFraction 10 = .ok (.bipush 100, 2) := by decide +kernel
theorem dX11_setFraction_12 : decode cX11_setFraction 12 = .ok (.if_icmp .ge 27, 3) := by decide +kernel
theorem dX11_setFraction_15 : decode cX11_setFraction 15 = .ok (.iload 4, 2) := by decide +kernel
theorem dX11_setFraction_17 : decode cX11_setFraction 17 = .ok (.ifCond .le 22, 3) := by decide +kernel
theorem dX11_setFraction_20 : decode cX11_setFraction 20 = .ok (.iload_n 3, 1) := by decide +kernel
theorem dX11_setFraction_21 : decode cX11_setFraction 21 = .ok (.iload 4, 2) := by decide +kernel
theorem dX11_setFraction_23 : decode cX11_setFraction 23 = .ok (.irem, 1) := by decide +kernel
theorem dX11_setFraction_24 : decode cX11_setFraction 24 = .ok (.istore 6, 2) := by decide +kernel
theorem dX11_setFraction_26 : decode cX11_setFraction 26 = .ok (.iload 4, 2) := by decide +kernel
theorem dX11_setFraction_28 : decode cX11_setFraction 28 = .ok (.istore_n 3, 1) := by decide +kernel
theorem dX11_setFraction_29 : decode cX11_setFraction 29 = .ok (.iload 6, 2) := by decide +kernel
theorem dX11_setFraction_31 : decode cX11_setFraction 31 = .ok (.istore 4, 2) := by decide +kernel
theorem dX11_setFraction_33 : decode cX11_setFraction 33 = .ok (.iinc 5 1, 3) := by decide +kernel
theorem dX11_setFraction_36 : decode cX11_setFraction 36 = .ok (.goto (-28), 3) := by decide +kernel
theorem dX11_setFraction_39 : decode cX11_setFraction 39 = .ok (.iload_n 3, 1) := by decide +kernel
theorem dX11_setFraction_40 : decode cX11_setFraction 40 = .ok (.ifCond .gt 4, 3) := by decide +kernel
theorem dX11_setFraction_43 : decode cX11_setFraction 43 = .ok (.return_, 1) := by decide +kernel
theorem dX11_setFraction_44 : decode cX11_setFraction 44 = .ok (.aload_n 0, 1) := by decide +kernel
theorem dX11_setFraction_45 : decode cX11_setFraction 45 = .ok (.iload_n 1, 1) := by decide +kernel
theorem dX11_setFraction_46 : decode cX11_setFraction 46 = .ok (.iload_n 3, 1) := by decide +kernel
theorem dX11_setFraction_47 : decode cX11_setFraction 47 = .ok (.idiv, 1) := by decide +kernel
theorem dX11_setFraction_48 : decode cX11_setFraction 48 = .ok (.putfield 42, 3) := by decide +kernel
theorem dX11_setFraction_51 : decode cX11_setFraction 51 = .ok (.aload_n 0, 1) := by decide +kernel
theorem dX11_setFraction_52 : decode cX11_setFraction 52 = .ok (.iload_n 2, 1) := by decide +kernel
theorem dX11_setFraction_53 : decode cX11_setFraction 53 = .ok (.iload_n 3, 1) := by decide +kernel
theorem dX11_setFraction_54 : decode cX11_setFraction 54 = .ok (.idiv, 1) := by decide +kernel
theorem dX11_setFraction_55 : decode cX11_setFraction 55 = .ok (.putfield 45, 3) := by decide +kernel
theorem dX11_setFraction_58 : decode cX11_setFraction 58 = .ok (.return_, 1) := by decide +kernel
theorem dX11_howMany_0 : decode cX11_howMany 0 = .ok (.iload_n 1, 1) := by decide +kernel
theorem dX11_howMany_1 : decode cX11_howMany 1 = .ok (.tableswitch 99 0 5 #[39, 47, 58, 69, 83, 91], 39) := by decide +kernel
theorem dX11_howMany_40 : decode cX11_howMany 40 = .ok (.aload_n 0, 1) := by decide +kernel
theorem dX11_howMany_41 : decode cX11_howMany 41 = .ok (.getfield 80, 3) := by decide +kernel
theorem dX11_howMany_44 : decode cX11_howMany 44 = .ok (.getfield 99, 3) := by decide +kernel
theorem dX11_howMany_47 : decode cX11_howMany 47 = .ok (.ireturn, 1) := by decide +kernel
theorem dX11_howMany_48 : decode cX11_howMany 48 = .ok (.aload_n 0, 1) := by decide +kernel
theorem dX11_howMany_49 : decode cX11_howMany 49 = .ok (.getfield 80, 3) := by decide +kernel
theorem dX11_howMany_52 : decode cX11_howMany 52 = .ok (.getfield 137, 3) := by decide +kernel
theorem dX11_howMany_55 : decode cX11_howMany 55 = .ok (.getfield 177, 3) := by decide +kernel
theorem dX11_howMany_58 : decode cX11_howMany 58 = .ok (.ireturn, 1) := by decide +kernel
theorem dX11_howMany_59 : decode cX11_howMany 59 = .ok (.aload_n 0, 1) := by decide +kernel
theorem dX11_howMany_60 : decode cX11_howMany 60 = .ok (.getfield 80, 3) := by decide +kernel
theorem dX11_howMany_63 : decode cX11_howMany 63 = .ok (.getfield 137, 3) := by decide +kernel
theorem dX11_howMany_66 : decode cX11_howMany 66 = .ok (.getfield 165, 3) := by decide +kernel
theorem dX11_howMany_69 : decode cX11_howMany 69 = .ok (.ireturn, 1) := by decide +kernel
theorem dX11_howMany_70 : decode cX11_howMany 70 = .ok (.aload_n 0, 1) := by decide +kernel
theorem dX11_howMany_71 : decode cX11_howMany 71 = .ok (.getfield 80, 3) := by decide +kernel
theorem dX11_howMany_74 : decode cX11_howMany 74 = .ok (.getfield 137, 3) := by decide +kernel
theorem dX11_howMany_77 : decode cX11_howMany 77 = .ok (.getfield 295, 3) := by decide +kernel
theorem dX11_howMany_80 : decode cX11_howMany 80 = .ok (.invokestatic 264, 3) := by decide +kernel
theorem dX11_howMany_83 : decode cX11_howMany 83 = .ok (.ireturn, 1) := by decide +kernel
theorem dX11_howMany_84 : decode cX11_howMany 84 = .ok (.aload_n 0, 1) := by decide +kernel
theorem dX11_howMany_85 : decode cX11_howMany 85 = .ok (.getfield 80, 3) := by decide +kernel
theorem dX11_howMany_88 : decode cX11_howMany 88 = .ok (.getfield 241, 3) := by decide +kernel
theorem dX11_howMany_91 : decode cX11_howMany 91 = .ok (.ireturn, 1) := by decide +kernel
theorem dX11_howMany_92 : decode cX11_howMany 92 = .ok (.aload_n 0, 1) := by decide +kernel
theorem dX11_howMany_93 : decode cX11_howMany 93 = .ok (.getfield 80, 3) := by decide +kernel
theorem dX11_howMany_96 : decode cX11_howMany 96 = .ok (.getfield 171, 3) := by decide +kernel
theorem dX11_howMany_99 : decode cX11_howMany 99 = .ok (.ireturn, 1) := by decide +kernel
theorem dX11_howMany_100 : decode cX11_howMany 100 = .ok (.aload_n 0, 1) := by decide +kernel
theorem dX11_howMany_101 : decode cX11_howMany 101 = .ok (.getfield 16, 3) := by decide +kernel
theorem dX11_howMany_104 : decode cX11_howMany 104 = .ok (.getfield 113, 3) := by decide +kernel
theorem dX11_howMany_107 : decode cX11_howMany 107 = .ok (.ireturn, 1) := by decide +kernel
theorem dX12_bad_0 : decode cX12_bad 0 = .ok (.aload_n 0, 1) := by decide +kernel
theorem dX12_bad_1 : decode cX12_bad 1 = .ok (.getfield 1, 3) := by decide +kernel
theorem dX12_bad_4 : decode cX12_bad 4 = .ok (.iconst 0, 1) := by decide +kernel
theorem dX12_bad_5 : decode cX12_bad 5 = .ok (.dup2, 1) := by decide +kernel
theorem dX12_bad_6 : decode cX12_bad 6 = .ok (.iaload, 1) := by decide +kernel
theorem dX12_bad_7 : decode cX12_bad 7 = .ok (.iconst 1, 1) := by decide +kernel
theorem dX12_bad_8 : decode cX12_bad 8 = .ok (.iadd, 1) := by decide +kernel
theorem dX12_bad_9 : decode cX12_bad 9 = .ok (.iastore, 1) := by decide +kernel
theorem dX12_bad_10 : decode cX12_bad 10 = .ok (.bipush (-2), 2) := by decide +kernel
theorem dX12_bad_12 : decode cX12_bad 12 = .ok (.ireturn, 1) := by decide +kernel
theorem dX12_ten_0 : decode cX12_ten 0 = .ok (.aload_n 0, 1) := by decide +kernel
theorem dX12_ten_1 : decode cX12_ten 1 = .ok (.getfield 1, 3) := by decide +kernel
theorem dX12_ten_4 : decode cX12_ten 4 = .ok (.iconst 0, 1) := by decide +kernel
theorem dX12_ten_5 : decode cX12_ten 5 = .ok (.dup2, 1) := by decide +kernel
theorem dX12_ten_6 : decode cX12_ten 6 = .ok (.iaload, 1) := by decide +kernel
theorem dX12_ten_7 : decode cX12_ten 7 = .ok (.iconst 1, 1) := by decide +kernel
theorem dX12_ten_8 : decode cX12_ten 8 = .ok (.iadd, 1) := by decide +kernel
theorem dX12_ten_9 : decode cX12_ten 9 = .ok (.iastore, 1) := by decide +kernel
theorem dX12_ten_10 : decode cX12_ten 10 = .ok (.bipush (-10), 2) := by decide +kernel
theorem dX12_ten_12 : decode cX12_ten 12 = .ok (.ireturn, 1) := by decide +kernel
theorem dX12_no_0 : decode cX12_no 0 = .ok (.aload_n 0, 1) := by decide +kernel
theorem dX12_no_1 : decode cX12_no 1 = .ok (.getfield 1, 3) := by decide +kernel
theorem dX12_no_4 : decode cX12_no 4 = .ok (.iconst 1, 1) := by decide +kernel
theorem dX12_no_5 : decode cX12_no 5 = .ok (.dup2, 1) := by decide +kernel
theorem dX12_no_6 : decode cX12_no 6 = .ok (.iaload, 1) := by decide +kernel
theorem dX12_no_7 : decode cX12_no 7 = .ok (.iconst 1, 1) := by decide +kernel
theorem dX12_no_8 : decode cX12_no 8 = .ok (.iadd, 1) := by decide +kernel
theorem dX12_no_9 : decode cX12_no 9 = .ok (.iastore, 1) := by decide +kernel
theorem dX12_no_10 : decode cX12_no 10 = .ok (.bipush (-3), 2) := by decide +kernel
theorem dX12_no_12 : decode cX12_no 12 = .ok (.ireturn, 1) := by decide +kernel
theorem dX12_full_0 : decode cX12_full 0 = .ok (.aload_n 0, 1) := by decide +kernel
theorem dX12_full_1 : decode cX12_full 1 = .ok (.getfield 1, 3) := by decide +kernel
theorem dX12_full_4 : decode cX12_full 4 = .ok (.iconst 2, 1) := by decide +kernel
theorem dX12_full_5 : decode cX12_full 5 = .ok (.dup2, 1) := by decide +kernel
theorem dX12_full_6 : decode cX12_full 6 = .ok (.iaload, 1) := by decide +kernel
theorem dX12_full_7 : decode cX12_full 7 = .ok (.iconst 1, 1) := by decide +kernel
theorem dX12_full_8 : decode cX12_full 8 = .ok (.iadd, 1) := by decide +kernel
theorem dX12_full_9 : decode cX12_full 9 = .ok (.iastore, 1) := by decide +kernel
theorem dX12_full_10 : decode cX12_full 10 = .ok (.bipush (-4), 2) := by decide +kernel
theorem dX12_full_12 : decode cX12_full 12 = .ok (.ireturn, 1) := by decide +kernel
theorem dX12_in_0 : decode cX12_in 0 = .ok (.iload_n 0, 1) := by decide +kernel
theorem dX12_in_1 : decode cX12_in 1 = .ok (.iload_n 1, 1) := by decide +kernel
theorem dX12_in_2 : decode cX12_in 2 = .ok (.if_icmp .lt 12, 3) := by decide +kernel
theorem dX12_in_5 : decode cX12_in 5 = .ok (.iload_n 0, 1) := by decide +kernel
theorem dX12_in_6 : decode cX12_in 6 = .ok (.iload_n 2, 1) := by decide +kernel
theorem dX12_in_7 : decode cX12_in 7 = .ok (.if_icmp .gt 7, 3) := by decide +kernel
theorem dX12_in_10 : decode cX12_in 10 = .ok (.iconst 1, 1) := by decide +kernel
theorem dX12_in_11 : decode cX12_in 11 = .ok (.goto 4, 3) := by decide +kernel
theorem dX12_in_14 : decode cX12_in 14 = .ok (.iconst 0, 1) := by decide +kernel
theorem dX12_in_15 : decode cX12_in 15 = .ok (.ireturn, 1) := by decide +kernel
theorem dX12_has_0 : decode cX12_has 0 = .ok (.iload_n 0, 1) := by decide +kernel
theorem dX12_has_1 : decode cX12_has 1 = .ok (.iload_n 1, 1) := by decide +kernel
theorem dX12_has_2 : decode cX12_has 2 = .ok (.ishr, 1) := by decide +kernel
theorem dX12_has_3 : decode cX12_has 3 = .ok (.iconst 1, 1) := by decide +kernel
theorem dX12_has_4 : decode cX12_has 4 = .ok (.iand, 1) := by decide +kernel
theorem dX12_has_5 : decode cX12_has 5 = .ok (.iconst 1, 1) := by decide +kernel
theorem dX12_has_6 : decode cX12_has 6 = .ok (.if_icmp .ne 7, 3) := by decide +kernel
theorem dX12_has_9 : decode cX12_has 9 = .ok (.iconst 1, 1) := by decide +kernel
theorem dX12_has_10 : decode cX12_has 10 = .ok (.goto 4, 3) := by decide +kernel
theorem dX12_has_13 : decode cX12_has 13 = .ok (.iconst 0, 1) := by decide +kernel
theorem dX12_has_14 : decode cX12_has 14 = .ok (.ireturn, 1) := by decide +kernel
theorem dX12_bits_0 : decode cX12_bits 0 = .ok (.iconst 0, 1) := by decide +kernel
theorem dX12_bits_1 : decode cX12_bits 1 = .ok (.istore_n 1, 1) := by decide +kernel
theorem dX12_bits_2 : decode cX12_bits 2 = .ok (.iconst 0, 1) := by decide +kernel
theorem dX12_bits_3 : decode cX12_bits 3 = .ok (.istore_n 2, 1) := by decide +kernel
theorem dX12_bits_4 : decode cX12_bits 4 = .ok (.iload_n 2, 1) := by decide +kernel
theorem dX12_bits_5 : decode cX12_bits 5 = .ok (.bipush 8, 2) := by decide +kernel
theorem dX12_bits_7 : decode cX12_bits 7 = .ok (.if_icmp .ge 17, 3) := by decide +kernel
theorem dX12_bits_10 : decode cX12_bits 10 = .ok (.iload_n 1, 1) := by decide +kernel
theorem dX12_bits_11 : decode cX12_bits 11 = .ok (.iload_n 0, 1) := by decide +kernel
theorem dX12_bits_12 : decode cX12_bits 12 = .ok (.iload_n 2, 1) := by decide +kernel
theorem dX12_bits_13 : decode cX12_bits 13 = .ok (.ishr, 1) := by decide +kernel
theorem dX12_bits_14 : decode cX12_bits 14 = .ok (.iconst 1, 1) := by decide +kernel
theorem dX12_bits_15 : decode cX12_bits 15 = .ok (.iand, 1) := by decide +kernel
theorem dX12_bits_16 : decode cX12_bits 16 = .ok (.iadd, 1) := by decide +kernel
theorem dX12_bits_17 : decode cX12_bits 17 = .ok (.istore_n 1, 1) := by decide +kernel
theorem dX12_bits_18 : decode cX12_bits 18 = .ok (.iinc 2 1, 3) := by decide +kernel
theorem dX12_bits_21 : decode cX12_bits 21 = .ok (.goto (-17), 3) := by decide +kernel
theorem dX12_bits_24 : decode cX12_bits 24 = .ok (.iload_n 1, 1) := by decide +kernel
theorem dX12_bits_25 : decode cX12_bits 25 = .ok (.ireturn, 1) := by decide +kernel
theorem dX12_kept_0 : decode cX12_kept 0 = .ok (.iload_n 0, 1) := by decide +kernel
theorem dX12_kept_1 : decode cX12_kept 1 = .ok (.ifCond .ge 7, 3) := by decide +kernel
theorem dX12_kept_4 : decode cX12_kept 4 = .ok (.iconst 0, 1) := by decide +kernel
theorem dX12_kept_5 : decode cX12_kept 5 = .ok (.goto 15, 3) := by decide +kernel
theorem dX12_kept_8 : decode cX12_kept 8 = .ok (.iload_n 0, 1) := by decide +kernel
theorem dX12_kept_9 : decode cX12_kept 9 = .ok (.bipush 99, 2) := by decide +kernel
theorem dX12_kept_11 : decode cX12_kept 11 = .ok (.if_icmp .le 8, 3) := by decide +kernel
theorem dX12_kept_14 : decode cX12_kept 14 = .ok (.bipush 99, 2) := by decide +kernel
theorem dX12_kept_16 : decode cX12_kept 16 = .ok (.goto 4, 3) := by decide +kernel
theorem dX12_kept_19 : decode cX12_kept 19 = .ok (.iload_n 0, 1) := by decide +kernel
theorem dX12_kept_20 : decode cX12_kept 20 = .ok (.ireturn, 1) := by decide +kernel
theorem dX12_init_0 : decode cX12_init 0 = .ok (.aload_n 0, 1) := by decide +kernel
theorem dX12_init_1 : decode cX12_init 1 = .ok (.invokespecial 7, 3) := by decide +kernel
theorem dX12_init_4 : decode cX12_init 4 = .ok (.aload_n 0, 1) := by decide +kernel
theorem dX12_init_5 : decode cX12_init 5 = .ok (.iconst 3, 1) := by decide +kernel
theorem dX12_init_6 : decode cX12_init 6 = .ok (.newarray .int, 2) := by decide +kernel
theorem dX12_init_8 : decode cX12_init 8 = .ok (.putfield 1, 3) := by decide +kernel
theorem dX12_init_11 : decode cX12_init 11 = .ok (.aload_n 0, 1) := by decide +kernel
theorem dX12_init_12 : decode cX12_init 12 = .ok (.bipush 50, 2) := by decide +kernel
theorem dX12_init_14 : decode cX12_init 14 = .ok (.putfield 13, 3) := by decide +kernel
theorem dX12_init_17 : decode cX12_init 17 = .ok (.aload_n 0, 1) := by decide +kernel
theorem dX12_init_18 : decode cX12_init 18 = .ok (.iconst (-1), 1) := by decide +kernel
theorem dX12_init_19 : decode cX12_init 19 = .ok (.putfield 17, 3) := by decide +kernel
theorem dX12_init_22 : decode cX12_init 22 = .ok (.aload_n 0, 1) := by decide +kernel
theorem dX12_init_23 : decode cX12_init 23 = .ok (.iconst (-1), 1) := by decide +kernel
theorem dX12_init_24 : decode cX12_init 24 = .ok (.putfield 20, 3) := by decide +kernel
theorem dX12_init_27 : decode cX12_init 27 = .ok (.aload_n 0, 1) := by decide +kernel
theorem dX12_init_28 : decode cX12_init 28 = .ok (.bipush 6, 2) := by decide +kernel
theorem dX12_init_30 : decode cX12_init 30 = .ok (.newarray .int, 2) := by decide +kernel
theorem dX12_init_32 : decode cX12_init 32 = .ok (.putfield 23, 3) := by decide +kernel
theorem dX12_init_35 : decode cX12_init 35 = .ok (.aload_n 0, 1) := by decide +kernel
theorem dX12_init_36 : decode cX12_init 36 = .ok (.bipush 6, 2) := by decide +kernel
theorem dX12_init_38 : decode cX12_init 38 = .ok (.newarray .int, 2) := by decide +kernel
theorem dX12_init_40 : decode cX12_init 40 = .ok (.putfield 26, 3) := by decide +kernel
theorem dX12_init_43 : decode cX12_init 43 = .ok (.aload_n 0, 1) := by decide +kernel
theorem dX12_init_44 : decode cX12_init 44 = .ok (.bipush 6, 2) := by decide +kernel
theorem dX12_init_46 : decode cX12_init 46 = .ok (.newarray .int, 2) := by decide +kernel
theorem dX12_init_48 : decode cX12_init 48 = .ok (.putfield 29, 3) := by decide +kernel
theorem dX12_init_51 : decode cX12_init 51 = .ok (.aload_n 0, 1) := by decide +kernel
theorem dX12_init_52 : decode cX12_init 52 = .ok (.bipush 6, 2) := by decide +kernel
theorem dX12_init_54 : decode cX12_init 54 = .ok (.newarray .int, 2) := by decide +kernel
theorem dX12_init_56 : decode cX12_init 56 = .ok (.putfield 32, 3) := by decide +kernel
theorem dX12_init_59 : decode cX12_init 59 = .ok (.aload_n 0, 1) := by decide +kernel
theorem dX12_init_60 : decode cX12_init 60 = .ok (.bipush 6, 2) := by decide +kernel
theorem dX12_init_62 : decode cX12_init 62 = .ok (.newarray .int, 2) := by decide +kernel
theorem dX12_init_64 : decode cX12_init 64 = .ok (.putfield 35, 3) := by decide +kernel
theorem dX12_init_67 : decode cX12_init 67 = .ok (.aload_n 0, 1) := by decide +kernel
theorem dX12_init_68 : decode cX12_init 68 = .ok (.bipush 6, 2) := by decide +kernel
theorem dX12_init_70 : decode cX12_init 70 = .ok (.newarray .int, 2) := by decide +kernel
theorem dX12_init_72 : decode cX12_init 72 = .ok (.putfield 38, 3) := by decide +kernel
theorem dX12_init_75 : decode cX12_init 75 = .ok (.aload_n 0, 1) := by decide +kernel
theorem dX12_init_76 : decode cX12_init 76 = .ok (.bipush 6, 2) := by decide +kernel
theorem dX12_init_78 : decode cX12_init 78 = .ok (.newarray .int, 2) := by decide +kernel
theorem dX12_init_80 : decode cX12_init 80 = .ok (.putfield 41, 3) := by decide +kernel
theorem dX12_init_83 : decode cX12_init 83 = .ok (.aload_n 0, 1) := by decide +kernel
theorem dX12_init_84 : decode cX12_init 84 = .ok (.bipush 6, 2) := by decide +kernel
theorem dX12_init_86 : decode cX12_init 86 = .ok (.newarray .int, 2) := by decide +kernel
theorem dX12_init_88 : decode cX12_init 88 = .ok (.putfield 44, 3) := by decide +kernel
theorem dX12_init_91 : decode cX12_init 91 = .ok (.aload_n 0, 1) := by decide +kernel
theorem dX12_init_92 : decode cX12_init 92 = .ok (.bipush 6, 2) := by decide +kernel
theorem dX12_init_94 : decode cX12_init 94 = .ok (.newarray .int, 2) := by decide +kernel
theorem dX12_init_96 : decode cX12_init 96 = .ok (.putfield 47, 3) := by decide +kernel
theorem dX12_init_99 : decode cX12_init 99 = .ok (.aload_n 0, 1) := by decide +kernel
theorem dX12_init_100 : decode cX12_init 100 = .ok (.sipush 150, 3) := by decide +kernel
theorem dX12_init_103 : decode cX12_init 103 = .ok (.newarray .int, 2) := by decide +kernel
theorem dX12_init_105 : decode cX12_init 105 = .ok (.putfield 50, 3) := by decide +kernel
theorem dX12_init_108 : decode cX12_init 108 = .ok (.aload_n 0, 1) := by decide +kernel
theorem dX12_init_109 : decode cX12_init 109 = .ok (.bipush 24, 2) := by decide +kernel
theorem dX12_init_111 : decode cX12_init 111 = .ok (.newarray .int, 2) := by decide +kernel
theorem dX12_init_113 : decode cX12_init 113 = .ok (.putfield 53, 3) := by decide +kernel
theorem dX12_init_116 : decode cX12_init 116 = .ok (.aload_n 0, 1) := by decide +kernel
theorem dX12_init_117 : decode cX12_init 117 = .ok (.bipush 40, 2) := by decide +kernel
theorem dX12_init_119 : decode cX12_init 119 = .ok (.newarray .int, 2) := by decide +kernel
theorem dX12_init_121 : decode cX12_init 121 = .ok (.putfield 56, 3) := by decide +kernel
theorem dX12_init_124 : decode cX12_init 124 = .ok (.aload_n 0, 1) := by decide +kernel
theorem dX12_init_125 : decode cX12_init 125 = .ok (.iconst 5, 1) := by decide +kernel
theorem dX12_init_126 : decode cX12_init 126 = .ok (.newarray .int, 2) := by decide +kernel
theorem dX12_init_128 : decode cX12_init 128 = .ok (.putfield 59, 3) := by decide +kernel
theorem dX12_init_131 : decode cX12_init 131 = .ok (.aload_n 0, 1) := by decide +kernel
theorem dX12_init_132 : decode cX12_init 132 = .ok (.iconst 4, 1) := by decide +kernel
theorem dX12_init_133 : decode cX12_init 133 = .ok (.newarray .int, 2) := by decide +kernel
theorem dX12_init_135 : decode cX12_init 135 = .ok (.putfield 62, 3) := by decide +kernel
theorem dX12_init_138 : decode cX12_init 138 = .ok (.aload_n 0, 1) := by decide +kernel
theorem dX12_init_139 : decode cX12_init 139 = .ok (.iconst 4, 1) := by decide +kernel
theorem dX12_init_140 : decode cX12_init 140 = .ok (.newarray .int, 2) := by decide +kernel
theorem dX12_init_142 : decode cX12_init 142 = .ok (.putfield 65, 3) := by decide +kernel
theorem dX12_init_145 : decode cX12_init 145 = .ok (.aload_n 0, 1) := by decide +kernel
theorem dX12_init_146 : decode cX12_init 146 = .ok (.lconst 1, 1) := by decide +kernel
theorem dX12_init_147 : decode cX12_init 147 = .ok (.putfield 68, 3) := by decide +kernel
theorem dX12_init_150 : decode cX12_init 150 = .ok (.aload_n 0, 1) := by decide +kernel
theorem dX12_init_151 : decode cX12_init 151 = .ok (.sipush 204, 3) := by decide +kernel
theorem dX12_init_154 : decode cX12_init 154 = .ok (.newarray .int, 2) := by decide +kernel
theorem dX12_init_156 : decode cX12_init 156 = .ok (.putfield 72, 3) := by decide +kernel
theorem dX12_init_159 : decode cX12_init 159 = .ok (.aload_n 0, 1) := by decide +kernel
theorem dX12_init_160 : decode cX12_init 160 = .ok (.iconst 2, 1) := by decide +kernel
theorem dX12_init_161 : decode cX12_init 161 = .ok (.newarray .int, 2) := by decide +kernel
theorem dX12_init_163 : decode cX12_init 163 = .ok (.putfield 75, 3) := by decide +kernel
theorem dX12_init_166 : decode cX12_init 166 = .ok (.aload_n 0, 1) := by decide +kernel
theorem dX12_init_167 : decode cX12_init 167 = .ok (.bipush 50, 2) := by decide +kernel
theorem dX12_init_169 : decode cX12_init 169 = .ok (.invokevirtual 78, 3) := by decide +kernel
theorem dX12_init_172 : decode cX12_init 172 = .ok (.return_, 1) := by decide +kernel
theorem dX12_begin_0 : decode cX12_begin 0 = .ok (.aload_n 0, 1) := by decide +kernel
theorem dX12_begin_1 : decode cX12_begin 1 = .ok (.iload_n 1, 1) := by decide +kernel
theorem dX12_begin_2 : decode cX12_begin 2 = .ok (.putfield 13, 3) := by decide +kernel
theorem dX12_begin_5 : decode cX12_begin 5 = .ok (.aload_n 0, 1) := by decide +kernel
theorem dX12_begin_6 : decode cX12_begin 6 = .ok (.iconst 0, 1) := by decide +kernel
theorem dX12_begin_7 : decode cX12_begin 7 = .ok (.putfield 82, 3) := by decide +kernel
theorem dX12_begin_10 : decode cX12_begin 10 = .ok (.aload_n 0, 1) := by decide +kernel
theorem dX12_begin_11 : decode cX12_begin 11 = .ok (.iconst 0, 1) := by decide +kernel
theorem dX12_begin_12 : decode cX12_begin 12 = .ok (.putfield 85, 3) := by decide +kernel
theorem dX12_begin_15 : decode cX12_begin 15 = .ok (.aload_n 0, 1) := by decide +kernel
theorem dX12_begin_16 : decode cX12_begin 16 = .ok (.iconst 0, 1) := by decide +kernel
theorem dX12_begin_17 : decode cX12_begin 17 = .ok (.putfield 88, 3) := by decide +kernel
theorem dX12_begin_20 : decode cX12_begin 20 = .ok (.aload_n 0, 1) := by decide +kernel
theorem dX12_begin_21 : decode cX12_begin 21 = .ok (.iconst (-1), 1) := by decide +kernel
theorem dX12_begin_22 : decode cX12_begin 22 = .ok (.putfield 17, 3) := by decide +kernel
theorem dX12_begin_25 : decode cX12_begin 25 = .ok (.aload_n 0, 1) := by decide +kernel
theorem dX12_begin_26 : decode cX12_begin 26 = .ok (.iconst (-1), 1) := by decide +kernel
theorem dX12_begin_27 : decode cX12_begin 27 = .ok (.putfield 20, 3) := by decide +kernel
theorem dX12_begin_30 : decode cX12_begin 30 = .ok (.aload_n 0, 1) := by decide +kernel
theorem dX12_begin_31 : decode cX12_begin 31 = .ok (.iconst 0, 1) := by decide +kernel
theorem dX12_begin_32 : decode cX12_begin 32 = .ok (.putfield 91, 3) := by decide +kernel
theorem dX12_begin_35 : decode cX12_begin 35 = .ok (.aload_n 0, 1) := by decide +kernel
theorem dX12_begin_36 : decode cX12_begin 36 = .ok (.iconst 0, 1) := by decide +kernel
theorem dX12_begin_37 : decode cX12_begin 37 = .ok (.putfield 94, 3) := by decide +kernel
theorem dX12_begin_40 : decode cX12_begin 40 = .ok (.return_, 1) := by decide +kernel
theorem dX12_isHeir_0 : decode cX12_isHeir 0 = .ok (.iload_n 1, 1) := by decide +kernel
theorem dX12_isHeir_1 : decode cX12_isHeir 1 = .ok (.iconst 0, 1) := by decide +kernel
theorem dX12_isHeir_2 : decode cX12_isHeir 2 = .ok (.aload_n 0, 1) := by decide +kernel
theorem dX12_isHeir_3 : decode cX12_isHeir 3 = .ok (.getfield 82, 3) := by decide +kernel
theorem dX12_isHeir_6 : decode cX12_isHeir 6 = .ok (.iconst 1, 1) := by decide +kernel
theorem dX12_isHeir_7 : decode cX12_isHeir 7 = .ok (.isub, 1) := by decide +kernel
theorem dX12_isHeir_8 : decode cX12_isHeir 8 = .ok (.invokestatic 97, 3) := by decide +kernel
theorem dX12_isHeir_11 : decode cX12_isHeir 11 = .ok (.ireturn, 1) := by decide +kernel
theorem dX12_isAct_0 : decode cX12_isAct 0 = .ok (.iload_n 0, 1) := by decide +kernel
theorem dX12_isAct_1 : decode cX12_isAct 1 = .ok (.iconst 0, 1) := by decide +kernel
theorem dX12_isAct_2 : decode cX12_isAct 2 = .ok (.bipush 7, 2) := by decide +kernel
theorem dX12_isAct_4 : decode cX12_isAct 4 = .ok (.invokestatic 97, 3) := by decide +kernel
theorem dX12_isAct_7 : decode cX12_isAct 7 = .ok (.ireturn, 1) := by decide +kernel
theorem dX12_isPair_0 : decode cX12_isPair 0 = .ok (.aload_n 0, 1) := by decide +kernel
theorem dX12_isPair_1 : decode cX12_isPair 1 = .ok (.getfield 17, 3) := by decide +kernel
theorem dX12_isPair_4 : decode cX12_isPair 4 = .ok (.iconst (-1), 1) := by decide +kernel
theorem dX12_isPair_5 : decode cX12_isPair 5 = .ok (.if_icmp .eq 7, 3) := by decide +kernel
theorem dX12_isPair_8 : decode cX12_isPair 8 = .ok (.iconst 1, 1) := by decide +kernel
theorem dX12_isPair_9 : decode cX12_isPair 9 = .ok (.goto 4, 3) := by decide +kernel
theorem dX12_isPair_12 : decode cX12_isPair 12 = .ok (.iconst 0, 1) := by decide +kernel
theorem dX12_isPair_13 : decode cX12_isPair 13 = .ok (.ireturn, 1) := by decide +kernel
theorem dX12_court_0 : decode cX12_court 0 = .ok (.iload_n 1, 1) := by decide +kernel
theorem dX12_court_1 : decode cX12_court 1 = .ok (.iconst 0, 1) := by decide +kernel
theorem dX12_court_2 : decode cX12_court 2 = .ok (.bipush 99, 2) := by decide +kernel
theorem dX12_court_4 : decode cX12_court 4 = .ok (.invokestatic 97, 3) := by decide +kernel
theorem dX12_court_7 : decode cX12_court 7 = .ok (.ifCond .ne 8, 3) := by decide +kernel
theorem dX12_court_10 : decode cX12_court 10 = .ok (.aload_n 0, 1) := by decide +kernel
theorem dX12_court_11 : decode cX12_court 11 = .ok (.invokevirtual 101, 3) := by decide +kernel
theorem dX12_court_14 : decode cX12_court 14 = .ok (.ireturn, 1) := by decide +kernel
theorem dX12_court_15 : decode cX12_court 15 = .ok (.aload_n 0, 1) := by decide +kernel
theorem dX12_court_16 : decode cX12_court 16 = .ok (.getfield 82, 3) := by decide +kernel
theorem dX12_court_19 : decode cX12_court 19 = .ok (.istore_n 2, 1) := by decide +kernel
theorem dX12_court_20 : decode cX12_court 20 = .ok (.aload_n 0, 1) := by decide +kernel
theorem dX12_court_21 : decode cX12_court 21 = .ok (.iload_n 1, 1) := by decide +kernel
theorem dX12_court_22 : decode cX12_court 22 = .ok (.invokevirtual 78, 3) := by decide +kernel
theorem dX12_court_25 : decode cX12_court 25 = .ok (.iload_n 2, 1) := by decide +kernel
theorem dX12_court_26 : decode cX12_court 26 = .ok (.ireturn, 1) := by decide +kernel
theorem dX12_addHeir_0 : decode cX12_addHeir 0 = .ok (.aload_n 0, 1) := by decide +kernel
theorem dX12_addHeir_1 : decode cX12_addHeir 1 = .ok (.getfield 23, 3) := by decide +kernel
theorem dX12_addHeir_4 : decode cX12_addHeir 4 = .ok (.aload_n 0, 1) := by decide +kernel
theorem dX12_addHeir_5 : decode cX12_addHeir 5 = .ok (.getfield 82, 3) := by decide +kernel
theorem dX12_addHeir_8 : decode cX12_addHeir 8 = .ok (.iload_n 1, 1) := by decide +kernel
theorem dX12_addHeir_9 : decode cX12_addHeir 9 = .ok (.iastore, 1) := by decide +kernel
theorem dX12_addHeir_10 : decode cX12_addHeir 10 = .ok (.aload_n 0, 1) := by decide +kernel
theorem dX12_addHeir_11 : decode cX12_addHeir 11 = .ok (.getfield 26, 3) := by decide +kernel
theorem dX12_addHeir_14 : decode cX12_addHeir 14 = .ok (.aload_n 0, 1) := by decide +kernel
theorem dX12_addHeir_15 : decode cX12_addHeir 15 = .ok (.getfield 82, 3) := by decide +kernel
theorem dX12_addHeir_18 : decode cX12_addHeir 18 = .ok (.iload_n 2, 1) := by decide +kernel
theorem dX12_addHeir_19 : decode cX12_addHeir 19 = .ok (.iastore, 1) := by decide +kernel
theorem dX12_addHeir_20 : decode cX12_addHeir 20 = .ok (.aload_n 0, 1) := by decide +kernel
theorem dX12_addHeir_21 : decode cX12_addHeir 21 = .ok (.getfield 29, 3) := by decide +kernel
theorem dX12_addHeir_24 : decode cX12_addHeir 24 = .ok (.aload_n 0, 1) := by decide +kernel
theorem dX12_addHeir_25 : decode cX12_addHeir 25 = .ok (.getfield 82, 3) := by decide +kernel
theorem dX12_addHeir_28 : decode cX12_addHeir 28 = .ok (.iload_n 3, 1) := by decide +kernel
theorem dX12_addHeir_29 : decode cX12_addHeir 29 = .ok (.iastore, 1) := by decide +kernel
theorem dX12_addHeir_30 : decode cX12_addHeir 30 = .ok (.aload_n 0, 1) := by decide +kernel
theorem dX12_addHeir_31 : decode cX12_addHeir 31 = .ok (.getfield 32, 3) := by decide +kernel
theorem dX12_addHeir_34 : decode cX12_addHeir 34 = .ok (.aload_n 0, 1) := by decide +kernel
theorem dX12_addHeir_35 : decode cX12_addHeir 35 = .ok (.getfield 82, 3) := by decide +kernel
theorem dX12_addHeir_38 : decode cX12_addHeir 38 = .ok (.iload 4, 2) := by decide +kernel
theorem dX12_addHeir_40 : decode cX12_addHeir 40 = .ok (.iastore, 1) := by decide +kernel
theorem dX12_addHeir_41 : decode cX12_addHeir 41 = .ok (.aload_n 0, 1) := by decide +kernel
theorem dX12_addHeir_42 : decode cX12_addHeir 42 = .ok (.dup, 1) := by decide +kernel
theorem dX12_addHeir_43 : decode cX12_addHeir 43 = .ok (.getfield 82, 3) := by decide +kernel
theorem dX12_addHeir_46 : decode cX12_addHeir 46 = .ok (.iconst 1, 1) := by decide +kernel
theorem dX12_addHeir_47 : decode cX12_addHeir 47 = .ok (.iadd, 1) := by decide +kernel
theorem dX12_addHeir_48 : decode cX12_addHeir 48 = .ok (.putfield 82, 3) := by decide +kernel
theorem dX12_addHeir_51 : decode cX12_addHeir 51 = .ok (.aload_n 0, 1) := by decide +kernel
theorem dX12_addHeir_52 : decode cX12_addHeir 52 = .ok (.iconst 0, 1) := by decide +kernel
theorem dX12_addHeir_53 : decode cX12_addHeir 53 = .ok (.putfield 94, 3) := by decide +kernel
theorem dX12_addHeir_56 : decode cX12_addHeir 56 = .ok (.aload_n 0, 1) := by decide +kernel
theorem dX12_addHeir_57 : decode cX12_addHeir 57 = .ok (.getfield 82, 3) := by decide +kernel
theorem dX12_addHeir_60 : decode cX12_addHeir 60 = .ok (.iconst 1, 1) := by decide +kernel
theorem dX12_addHeir_61 : decode cX12_addHeir 61 = .ok (.isub, 1) := by decide +kernel
theorem dX12_addHeir_62 : decode cX12_addHeir 62 = .ok (.ireturn, 1) := by decide +kernel
theorem dX12_heir_0 : decode cX12_heir 0 = .ok (.iload_n 1, 1) := by decide +kernel
theorem dX12_heir_1 : decode cX12_heir 1 = .ok (.iconst 0, 1) := by decide +kernel
theorem dX12_heir_2 : decode cX12_heir 2 = .ok (.iconst 5, 1) := by decide +kernel
theorem dX12_heir_3 : decode cX12_heir 3 = .ok (.invokestatic 97, 3) := by decide +kernel
theorem dX12_heir_6 : decode cX12_heir 6 = .ok (.ifCond .eq 36, 3) := by decide +kernel
theorem dX12_heir_9 : decode cX12_heir 9 = .ok (.iload_n 2, 1) := by decide +kernel
theorem dX12_heir_10 : decode cX12_heir 10 = .ok (.iconst 0, 1) := by decide +kernel
theorem dX12_heir_11 : decode cX12_heir 11 = .ok (.sipush 255, 3) := by decide +kernel
theorem dX12_heir_14 : decode cX12_heir 14 = .ok (.invokestatic 97, 3) := by decide +kernel
theorem dX12_heir_17 : decode cX12_heir 17 = .ok (.ifCond .eq 25, 3) := by decide +kernel
theorem dX12_heir_20 : decode cX12_heir 20 = .ok (.iload_n 3, 1) := by decide +kernel
theorem dX12_heir_21 : decode cX12_heir 21 = .ok (.iconst 0, 1) := by decide +kernel
theorem dX12_heir_22 : decode cX12_heir 22 = .ok (.sipush 255, 3) := by decide +kernel
theorem dX12_heir_25 : decode cX12_heir 25 = .ok (.invokestatic 97, 3) := by decide +kernel
theorem dX12_heir_28 : decode cX12_heir 28 = .ok (.ifCond .eq 14, 3) := by decide +kernel
theorem dX12_heir_31 : decode cX12_heir 31 = .ok (.iload 4, 2) := by decide +kernel
theorem dX12_heir_33 : decode cX12_heir 33 = .ok (.iconst 0, 1) := by decide +kernel
theorem dX12_heir_34 : decode cX12_heir 34 = .ok (.bipush 20, 2) := by decide +kernel
theorem dX12_heir_36 : decode cX12_heir 36 = .ok (.invokestatic 97, 3) := by decide +kernel
theorem dX12_heir_39 : decode cX12_heir 39 = .ok (.ifCond .ne 8, 3) := by decide +kernel
theorem dX12_heir_42 : decode cX12_heir 42 = .ok (.aload_n 0, 1) := by decide +kernel
theorem dX12_heir_43 : decode cX12_heir 43 = .ok (.invokevirtual 101, 3) := by decide +kernel
theorem dX12_heir_46 : decode cX12_heir 46 = .ok (.ireturn, 1) := by decide +kernel
theorem dX12_heir_47 : decode cX12_heir 47 = .ok (.aload_n 0, 1) := by decide +kernel
theorem dX12_heir_48 : decode cX12_heir 48 = .ok (.getfield 82, 3) := by decide +kernel
theorem dX12_heir_51 : decode cX12_heir 51 = .ok (.bipush 6, 2) := by decide +kernel
theorem dX12_heir_53 : decode cX12_heir 53 = .ok (.if_icmp .ne 10, 3) := by decide +kernel
theorem dX12_heir_56 : decode cX12_heir 56 = .ok (.aload_n 0, 1) := by decide +kernel
theorem dX12_heir_57 : decode cX12_heir 57 = .ok (.invokevirtual 105, 3) := by decide +kernel
theorem dX12_heir_60 : decode cX12_heir 60 = .ok (.goto 12, 3) := by decide +kernel
theorem dX12_heir_63 : decode cX12_heir 63 = .ok (.aload_n 0, 1) := by decide +kernel
theorem dX12_heir_64 : decode cX12_heir 64 = .ok (.iload_n 1, 1) := by decide +kernel
theorem dX12_heir_65 : decode cX12_heir 65 = .ok (.iload_n 2, 1) := by decide +kernel
theorem dX12_heir_66 : decode cX12_heir 66 = .ok (.iload_n 3, 1) := by decide +kernel
theorem dX12_heir_67 : decode cX12_heir 67 = .ok (.iload 4, 2) := by decide +kernel
theorem dX12_heir_69 : decode cX12_heir 69 = .ok (.invokevirtual 108, 3) := by decide +kernel
theorem dX12_heir_72 : decode cX12_heir 72 = .ok (.ireturn, 1) := by decide +kernel
theorem dX12_type_0 : decode cX12_type 0 = .ok (.iload_n 1, 1) := by decide +kernel
theorem dX12_type_1 : decode cX12_type 1 = .ok (.iconst 0, 1) := by decide +kernel
theorem dX12_type_2 : decode cX12_type 2 = .ok (.bipush 127, 2) := by decide +kernel
theorem dX12_type_4 : decode cX12_type 4 = .ok (.invokestatic 97, 3) := by decide +kernel
theorem dX12_type_7 : decode cX12_type 7 = .ok (.ifCond .ne 8, 3) := by decide +kernel
theorem dX12_type_10 : decode cX12_type 10 = .ok (.aload_n 0, 1) := by decide +kernel
theorem dX12_type_11 : decode cX12_type 11 = .ok (.invokevirtual 101, 3) := by decide +kernel
theorem dX12_type_14 : decode cX12_type 14 = .ok (.ireturn, 1) := by decide +kernel
theorem dX12_type_15 : decode cX12_type 15 = .ok (.aload_n 0, 1) := by decide +kernel
theorem dX12_type_16 : decode cX12_type 16 = .ok (.getfield 112, 3) := by decide +kernel
theorem dX12_type_19 : decode cX12_type 19 = .ok (.sipush 150, 3) := by decide +kernel
theorem dX12_type_22 : decode cX12_type 22 = .ok (.if_icmp .ne 8, 3) := by decide +kernel
theorem dX12_type_25 : decode cX12_type 25 = .ok (.aload_n 0, 1) := by decide +kernel
theorem dX12_type_26 : decode cX12_type 26 = .ok (.invokevirtual 105, 3) := by decide +kernel
theorem dX12_type_29 : decode cX12_type 29 = .ok (.ireturn, 1) := by decide +kernel
theorem dX12_type_30 : decode cX12_type 30 = .ok (.aload_n 0, 1) := by decide +kernel
theorem dX12_type_31 : decode cX12_type 31 = .ok (.getfield 50, 3) := by decide +kernel
theorem dX12_type_34 : decode cX12_type 34 = .ok (.aload_n 0, 1) := by decide +kernel
theorem dX12_type_35 : decode cX12_type 35 = .ok (.getfield 112, 3) := by decide +kernel
theorem dX12_type_38 : decode cX12_type 38 = .ok (.iload_n 1, 1) := by decide +kernel
theorem dX12_type_39 : decode cX12_type 39 = .ok (.iastore, 1) := by decide +kernel
theorem dX12_type_40 : decode cX12_type 40 = .ok (.aload_n 0, 1) := by decide +kernel
theorem dX12_type_41 : decode cX12_type 41 = .ok (.dup, 1) := by decide +kernel
theorem dX12_type_42 : decode cX12_type 42 = .ok (.getfield 112, 3) := by decide +kernel
theorem dX12_type_45 : decode cX12_type 45 = .ok (.iconst 1, 1) := by decide +kernel
theorem dX12_type_46 : decode cX12_type 46 = .ok (.iadd, 1) := by decide +kernel
theorem dX12_type_47 : decode cX12_type 47 = .ok (.putfield 112, 3) := by decide +kernel
theorem dX12_type_50 : decode cX12_type 50 = .ok (.aload_n 0, 1) := by decide +kernel
theorem dX12_type_51 : decode cX12_type 51 = .ok (.getfield 112, 3) := by decide +kernel
theorem dX12_type_54 : decode cX12_type 54 = .ok (.ireturn, 1) := by decide +kernel
theorem dX12_clear_0 : decode cX12_clear 0 = .ok (.aload_n 0, 1) := by decide +kernel
theorem dX12_clear_1 : decode cX12_clear 1 = .ok (.getfield 112, 3) := by decide +kernel
theorem dX12_clear_4 : decode cX12_clear 4 = .ok (.istore_n 1, 1) := by decide +kernel
theorem dX12_clear_5 : decode cX12_clear 5 = .ok (.aload_n 0, 1) := by decide +kernel
theorem dX12_clear_6 : decode cX12_clear 6 = .ok (.iconst 0, 1) := by decide +kernel
theorem dX12_clear_7 : decode cX12_clear 7 = .ok (.putfield 112, 3) := by decide +kernel
theorem dX12_clear_10 : decode cX12_clear 10 = .ok (.iload_n 1, 1) := by decide +kernel
theorem dX12_clear_11 : decode cX12_clear 11 = .ok (.ireturn, 1) := by decide +kernel
theorem dX12_here_0 : decode cX12_here 0 = .ok (.aload_n 0, 1) := by decide +kernel
theorem dX12_here_1 : decode cX12_here 1 = .ok (.getfield 115, 3) := by decide +kernel
theorem dX12_here_4 : decode cX12_here 4 = .ok (.aload_n 0, 1) := by decide +kernel
theorem dX12_here_5 : decode cX12_here 5 = .ok (.getfield 112, 3) := by decide +kernel
theorem dX12_here_8 : decode cX12_here 8 = .ok (.if_icmp .ge 15, 3) := by decide +kernel
theorem dX12_here_11 : decode cX12_here 11 = .ok (.aload_n 0, 1) := by decide +kernel
theorem dX12_here_12 : decode cX12_here 12 = .ok (.getfield 50, 3) := by decide +kernel
theorem dX12_here_15 : decode cX12_here 15 = .ok (.aload_n 0, 1) := by decide +kernel
theorem dX12_here_16 : decode cX12_here 16 = .ok (.getfield 115, 3) := by decide +kernel
theorem dX12_here_19 : decode cX12_here 19 = .ok (.iaload, 1) := by decide +kernel
theorem dX12_here_20 : decode cX12_here 20 = .ok (.goto 4, 3) := by decide +kernel
theorem dX12_here_23 : decode cX12_here 23 = .ok (.iconst (-1), 1) := by decide +kernel
theorem dX12_here_24 : decode cX12_here 24 = .ok (.ireturn, 1) := by decide +kernel
theorem dX12_skip_0 : decode cX12_skip 0 = .ok (.aload_n 0, 1) := by decide +kernel
theorem dX12_skip_1 : decode cX12_skip 1 = .ok (.invokevirtual 118, 3) := by decide +kernel
theorem dX12_skip_4 : decode cX12_skip 4 = .ok (.bipush 32, 2) := by decide +kernel
theorem dX12_skip_6 : decode cX12_skip 6 = .ok (.if_icmp .ne 16, 3) := by decide +kernel
theorem dX12_skip_9 : decode cX12_skip 9 = .ok (.aload_n 0, 1) := by decide +kernel
theorem dX12_skip_10 : decode cX12_skip 10 = .ok (.dup, 1) := by decide +kernel
theorem dX12_skip_11 : decode cX12_skip 11 = .ok (.getfield 115, 3) := by decide +kernel
theorem dX12_skip_14 : decode cX12_skip 14 = .ok (.iconst 1, 1) := by decide +kernel
theorem dX12_skip_15 : decode cX12_skip 15 = .ok (.iadd, 1) := by decide +kernel
theorem dX12_skip_16 : decode cX12_skip 16 = .ok (.putfield 115, 3) := by decide +kernel
theorem dX12_skip_19 : decode cX12_skip 19 = .ok (.goto (-19), 3) := by decide +kernel
theorem dX12_skip_22 : decode cX12_skip 22 = .ok (.return_, 1) := by decide +kernel
theorem dX12_isLetter_0 : decode cX12_isLetter 0 = .ok (.iload_n 0, 1) := by decide +kernel
theorem dX12_isLetter_1 : decode cX12_isLetter 1 = .ok (.bipush 97, 2) := by decide +kernel
theorem dX12_isLetter_3 : decode cX12_isLetter 3 = .ok (.bipush 122, 2) := by decide +kernel
theorem dX12_isLetter_5 : decode cX12_isLetter 5 = .ok (.invokestatic 97, 3) := by decide +kernel
theorem dX12_isLetter_8 : decode cX12_isLetter 8 = .ok (.ireturn, 1) := by decide +kernel
theorem dX12_isFigure_0 : decode cX12_isFigure 0 = .ok (.iload_n 0, 1) := by decide +kernel
theorem dX12_isFigure_1 : decode cX12_isFigure 1 = .ok (.bipush 48, 2) := by decide +kernel
