theorem dX12_isFigure_3 : decode cX12_isFigure 3 = .ok (.bipush 57, 2) := by decide +kernel
theorem dX12_isFigure_5 : decode cX12_isFigure 5 = .ok (.invokestatic 97, 3) := by decide +kernel
theorem dX12_isFigure_8 : decode cX12_isFigure 8 = .ok (.ireturn, 1) := by decide +kernel
theorem dX12_wordSize_0 : decode cX12_wordSize 0 = .ok (.iconst 0, 1) := by decide +kernel
theorem dX12_wordSize_1 : decode cX12_wordSize 1 = .ok (.istore_n 1, 1) := by decide +kernel
theorem dX12_wordSize_2 : decode cX12_wordSize 2 = .ok (.aload_n 0, 1) := by decide +kernel
theorem dX12_wordSize_3 : decode cX12_wordSize 3 = .ok (.getfield 115, 3) := by decide +kernel
theorem dX12_wordSize_6 : decode cX12_wordSize 6 = .ok (.iload_n 1, 1) := by decide +kernel
theorem dX12_wordSize_7 : decode cX12_wordSize 7 = .ok (.iadd, 1) := by decide +kernel
theorem dX12_wordSize_8 : decode cX12_wordSize 8 = .ok (.aload_n 0, 1) := by decide +kernel
theorem dX12_wordSize_9 : decode cX12_wordSize 9 = .ok (.getfield 112, 3) := by decide +kernel
theorem dX12_wordSize_12 : decode cX12_wordSize 12 = .ok (.if_icmp .ge 26, 3) := by decide +kernel
theorem dX12_wordSize_15 : decode cX12_wordSize 15 = .ok (.aload_n 0, 1) := by decide +kernel
theorem dX12_wordSize_16 : decode cX12_wordSize 16 = .ok (.getfield 50, 3) := by decide +kernel
theorem dX12_wordSize_19 : decode cX12_wordSize 19 = .ok (.aload_n 0, 1) := by decide +kernel
theorem dX12_wordSize_20 : decode cX12_wordSize 20 = .ok (.getfield 115, 3) := by decide +kernel
theorem dX12_wordSize_23 : decode cX12_wordSize 23 = .ok (.iload_n 1, 1) := by decide +kernel
theorem dX12_wordSize_24 : decode cX12_wordSize 24 = .ok (.iadd, 1) := by decide +kernel
theorem dX12_wordSize_25 : decode cX12_wordSize 25 = .ok (.iaload, 1) := by decide +kernel
theorem dX12_wordSize_26 : decode cX12_wordSize 26 = .ok (.invokestatic 121, 3) := by decide +kernel
theorem dX12_wordSize_29 : decode cX12_wordSize 29 = .ok (.ifCond .eq 9, 3) := by decide +kernel
theorem dX12_wordSize_32 : decode cX12_wordSize 32 = .ok (.iinc 1 1, 3) := by decide +kernel
theorem dX12_wordSize_35 : decode cX12_wordSize 35 = .ok (.goto (-33), 3) := by decide +kernel
theorem dX12_wordSize_38 : decode cX12_wordSize 38 = .ok (.iload_n 1, 1) := by decide +kernel
theorem dX12_wordSize_39 : decode cX12_wordSize 39 = .ok (.ireturn, 1) := by decide +kernel
theorem dX12_letter_0 : decode cX12_letter 0 = .ok (.aload_n 0, 1) := by decide +kernel
theorem dX12_letter_1 : decode cX12_letter 1 = .ok (.getfield 50, 3) := by decide +kernel
theorem dX12_letter_4 : decode cX12_letter 4 = .ok (.aload_n 0, 1) := by decide +kernel
theorem dX12_letter_5 : decode cX12_letter 5 = .ok (.getfield 115, 3) := by decide +kernel
theorem dX12_letter_8 : decode cX12_letter 8 = .ok (.iload_n 1, 1) := by decide +kernel
theorem dX12_letter_9 : decode cX12_letter 9 = .ok (.iadd, 1) := by decide +kernel
theorem dX12_letter_10 : decode cX12_letter 10 = .ok (.iaload, 1) := by decide +kernel
theorem dX12_letter_11 : decode cX12_letter 11 = .ok (.ireturn, 1) := by decide +kernel
theorem dX12_spells_0 : decode cX12_spells 0 = .ok (.aload_n 0, 1) := by decide +kernel
theorem dX12_spells_1 : decode cX12_spells 1 = .ok (.invokevirtual 125, 3) := by decide +kernel
theorem dX12_spells_4 : decode cX12_spells 4 = .ok (.iconst 4, 1) := by decide +kernel
theorem dX12_spells_5 : decode cX12_spells 5 = .ok (.if_icmp .ne 44, 3) := by decide +kernel
theorem dX12_spells_8 : decode cX12_spells 8 = .ok (.aload_n 0, 1) := by decide +kernel
theorem dX12_spells_9 : decode cX12_spells 9 = .ok (.iconst 0, 1) := by decide +kernel
theorem dX12_spells_10 : decode cX12_spells 10 = .ok (.invokevirtual 128, 3) := by decide +kernel
theorem dX12_spells_13 : decode cX12_spells 13 = .ok (.iload_n 1, 1) := by decide +kernel
theorem dX12_spells_14 : decode cX12_spells 14 = .ok (.if_icmp .ne 35, 3) := by decide +kernel
theorem dX12_spells_17 : decode cX12_spells 17 = .ok (.aload_n 0, 1) := by decide +kernel
theorem dX12_spells_18 : decode cX12_spells 18 = .ok (.iconst 1, 1) := by decide +kernel
theorem dX12_spells_19 : decode cX12_spells 19 = .ok (.invokevirtual 128, 3) := by decide +kernel
theorem dX12_spells_22 : decode cX12_spells 22 = .ok (.iload_n 2, 1) := by decide +kernel
theorem dX12_spells_23 : decode cX12_spells 23 = .ok (.if_icmp .ne 26, 3) := by decide +kernel
theorem dX12_spells_26 : decode cX12_spells 26 = .ok (.aload_n 0, 1) := by decide +kernel
theorem dX12_spells_27 : decode cX12_spells 27 = .ok (.iconst 2, 1) := by decide +kernel
theorem dX12_spells_28 : decode cX12_spells 28 = .ok (.invokevirtual 128, 3) := by decide +kernel
theorem dX12_spells_31 : decode cX12_spells 31 = .ok (.iload_n 3, 1) := by decide +kernel
theorem dX12_spells_32 : decode cX12_spells 32 = .ok (.if_icmp .ne 17, 3) := by decide +kernel
theorem dX12_spells_35 : decode cX12_spells 35 = .ok (.aload_n 0, 1) := by decide +kernel
theorem dX12_spells_36 : decode cX12_spells 36 = .ok (.iconst 3, 1) := by decide +kernel
theorem dX12_spells_37 : decode cX12_spells 37 = .ok (.invokevirtual 128, 3) := by decide +kernel
theorem dX12_spells_40 : decode cX12_spells 40 = .ok (.iload 4, 2) := by decide +kernel
theorem dX12_spells_42 : decode cX12_spells 42 = .ok (.if_icmp .ne 7, 3) := by decide +kernel
theorem dX12_spells_45 : decode cX12_spells 45 = .ok (.iconst 1, 1) := by decide +kernel
theorem dX12_spells_46 : decode cX12_spells 46 = .ok (.goto 4, 3) := by decide +kernel
theorem dX12_spells_49 : decode cX12_spells 49 = .ok (.iconst 0, 1) := by decide +kernel
theorem dX12_spells_50 : decode cX12_spells 50 = .ok (.ireturn, 1) := by decide +kernel
theorem dX12_wordHere_0 : decode cX12_wordHere 0 = .ok (.aload_n 0, 1) := by decide +kernel
theorem dX12_wordHere_1 : decode cX12_wordHere 1 = .ok (.invokevirtual 125, 3) := by decide +kernel
theorem dX12_wordHere_4 : decode cX12_wordHere 4 = .ok (.iconst 5, 1) := by decide +kernel
theorem dX12_wordHere_5 : decode cX12_wordHere 5 = .ok (.if_icmp .ne 57, 3) := by decide +kernel
theorem dX12_wordHere_8 : decode cX12_wordHere 8 = .ok (.aload_n 0, 1) := by decide +kernel
theorem dX12_wordHere_9 : decode cX12_wordHere 9 = .ok (.iconst 0, 1) := by decide +kernel
theorem dX12_wordHere_10 : decode cX12_wordHere 10 = .ok (.invokevirtual 128, 3) := by decide +kernel
theorem dX12_wordHere_13 : decode cX12_wordHere 13 = .ok (.bipush 99, 2) := by decide +kernel
theorem dX12_wordHere_15 : decode cX12_wordHere 15 = .ok (.if_icmp .ne 47, 3) := by decide +kernel
theorem dX12_wordHere_18 : decode cX12_wordHere 18 = .ok (.aload_n 0, 1) := by decide +kernel
theorem dX12_wordHere_19 : decode cX12_wordHere 19 = .ok (.iconst 1, 1) := by decide +kernel
theorem dX12_wordHere_20 : decode cX12_wordHere 20 = .ok (.invokevirtual 128, 3) := by decide +kernel
theorem dX12_wordHere_23 : decode cX12_wordHere 23 = .ok (.bipush 111, 2) := by decide +kernel
theorem dX12_wordHere_25 : decode cX12_wordHere 25 = .ok (.if_icmp .ne 37, 3) := by decide +kernel
theorem dX12_wordHere_28 : decode cX12_wordHere 28 = .ok (.aload_n 0, 1) := by decide +kernel
theorem dX12_wordHere_29 : decode cX12_wordHere 29 = .ok (.iconst 2, 1) := by decide +kernel
theorem dX12_wordHere_30 : decode cX12_wordHere 30 = .ok (.invokevirtual 128, 3) := by decide +kernel
theorem dX12_wordHere_33 : decode cX12_wordHere 33 = .ok (.bipush 117, 2) := by decide +kernel
theorem dX12_wordHere_35 : decode cX12_wordHere 35 = .ok (.if_icmp .ne 27, 3) := by decide +kernel
theorem dX12_wordHere_38 : decode cX12_wordHere 38 = .ok (.aload_n 0, 1) := by decide +kernel
theorem dX12_wordHere_39 : decode cX12_wordHere 39 = .ok (.iconst 3, 1) := by decide +kernel
theorem dX12_wordHere_40 : decode cX12_wordHere 40 = .ok (.invokevirtual 128, 3) := by decide +kernel
theorem dX12_wordHere_43 : decode cX12_wordHere 43 = .ok (.bipush 114, 2) := by decide +kernel
theorem dX12_wordHere_45 : decode cX12_wordHere 45 = .ok (.if_icmp .ne 17, 3) := by decide +kernel
theorem dX12_wordHere_48 : decode cX12_wordHere 48 = .ok (.aload_n 0, 1) := by decide +kernel
theorem dX12_wordHere_49 : decode cX12_wordHere 49 = .ok (.iconst 4, 1) := by decide +kernel
theorem dX12_wordHere_50 : decode cX12_wordHere 50 = .ok (.invokevirtual 128, 3) := by decide +kernel
theorem dX12_wordHere_53 : decode cX12_wordHere 53 = .ok (.bipush 116, 2) := by decide +kernel
theorem dX12_wordHere_55 : decode cX12_wordHere 55 = .ok (.if_icmp .ne 7, 3) := by decide +kernel
theorem dX12_wordHere_58 : decode cX12_wordHere 58 = .ok (.iconst 1, 1) := by decide +kernel
theorem dX12_wordHere_59 : decode cX12_wordHere 59 = .ok (.goto 4, 3) := by decide +kernel
theorem dX12_wordHere_62 : decode cX12_wordHere 62 = .ok (.iconst 0, 1) := by decide +kernel
theorem dX12_wordHere_63 : decode cX12_wordHere 63 = .ok (.istore_n 1, 1) := by decide +kernel
theorem dX12_wordHere_64 : decode cX12_wordHere 64 = .ok (.iload_n 1, 1) := by decide +kernel
theorem dX12_wordHere_65 : decode cX12_wordHere 65 = .ok (.ifCond .eq 7, 3) := by decide +kernel
theorem dX12_wordHere_68 : decode cX12_wordHere 68 = .ok (.iconst 0, 1) := by decide +kernel
theorem dX12_wordHere_69 : decode cX12_wordHere 69 = .ok (.goto 80, 3) := by decide +kernel
theorem dX12_wordHere_72 : decode cX12_wordHere 72 = .ok (.aload_n 0, 1) := by decide +kernel
theorem dX12_wordHere_73 : decode cX12_wordHere 73 = .ok (.bipush 104, 2) := by decide +kernel
theorem dX12_wordHere_75 : decode cX12_wordHere 75 = .ok (.bipush 101, 2) := by decide +kernel
theorem dX12_wordHere_77 : decode cX12_wordHere 77 = .ok (.bipush 105, 2) := by decide +kernel
theorem dX12_wordHere_79 : decode cX12_wordHere 79 = .ok (.bipush 114, 2) := by decide +kernel
theorem dX12_wordHere_81 : decode cX12_wordHere 81 = .ok (.invokevirtual 132, 3) := by decide +kernel
theorem dX12_wordHere_84 : decode cX12_wordHere 84 = .ok (.ifCond .eq 7, 3) := by decide +kernel
theorem dX12_wordHere_87 : decode cX12_wordHere 87 = .ok (.iconst 1, 1) := by decide +kernel
theorem dX12_wordHere_88 : decode cX12_wordHere 88 = .ok (.goto 61, 3) := by decide +kernel
theorem dX12_wordHere_91 : decode cX12_wordHere 91 = .ok (.aload_n 0, 1) := by decide +kernel
theorem dX12_wordHere_92 : decode cX12_wordHere 92 = .ok (.bipush 108, 2) := by decide +kernel
theorem dX12_wordHere_94 : decode cX12_wordHere 94 = .ok (.bipush 105, 2) := by decide +kernel
theorem dX12_wordHere_96 : decode cX12_wordHere 96 = .ok (.bipush 107, 2) := by decide +kernel
theorem dX12_wordHere_98 : decode cX12_wordHere 98 = .ok (.bipush 101, 2) := by decide +kernel
theorem dX12_wordHere_100 : decode cX12_wordHere 100 = .ok (.invokevirtual 132, 3) := by decide +kernel
theorem dX12_wordHere_103 : decode cX12_wordHere 103 = .ok (.ifCond .eq 7, 3) := by decide +kernel
theorem dX12_wordHere_106 : decode cX12_wordHere 106 = .ok (.iconst 2, 1) := by decide +kernel
theorem dX12_wordHere_107 : decode cX12_wordHere 107 = .ok (.goto 42, 3) := by decide +kernel
theorem dX12_wordHere_110 : decode cX12_wordHere 110 = .ok (.aload_n 0, 1) := by decide +kernel
theorem dX12_wordHere_111 : decode cX12_wordHere 111 = .ok (.bipush 104, 2) := by decide +kernel
theorem dX12_wordHere_113 : decode cX12_wordHere 113 = .ok (.bipush 97, 2) := by decide +kernel
theorem dX12_wordHere_115 : decode cX12_wordHere 115 = .ok (.bipush 116, 2) := by decide +kernel
theorem dX12_wordHere_117 : decode cX12_wordHere 117 = .ok (.bipush 101, 2) := by decide +kernel
theorem dX12_wordHere_119 : decode cX12_wordHere 119 = .ok (.invokevirtual 132, 3) := by decide +kernel
theorem dX12_wordHere_122 : decode cX12_wordHere 122 = .ok (.ifCond .eq 7, 3) := by decide +kernel
theorem dX12_wordHere_125 : decode cX12_wordHere 125 = .ok (.iconst 3, 1) := by decide +kernel
theorem dX12_wordHere_126 : decode cX12_wordHere 126 = .ok (.goto 23, 3) := by decide +kernel
theorem dX12_wordHere_129 : decode cX12_wordHere 129 = .ok (.aload_n 0, 1) := by decide +kernel
theorem dX12_wordHere_130 : decode cX12_wordHere 130 = .ok (.bipush 112, 2) := by decide +kernel
theorem dX12_wordHere_132 : decode cX12_wordHere 132 = .ok (.bipush 97, 2) := by decide +kernel
theorem dX12_wordHere_134 : decode cX12_wordHere 134 = .ok (.bipush 105, 2) := by decide +kernel
theorem dX12_wordHere_136 : decode cX12_wordHere 136 = .ok (.bipush 114, 2) := by decide +kernel
theorem dX12_wordHere_138 : decode cX12_wordHere 138 = .ok (.invokevirtual 132, 3) := by decide +kernel
theorem dX12_wordHere_141 : decode cX12_wordHere 141 = .ok (.ifCond .eq 7, 3) := by decide +kernel
theorem dX12_wordHere_144 : decode cX12_wordHere 144 = .ok (.iconst 4, 1) := by decide +kernel
theorem dX12_wordHere_145 : decode cX12_wordHere 145 = .ok (.goto 4, 3) := by decide +kernel
theorem dX12_wordHere_148 : decode cX12_wordHere 148 = .ok (.iconst (-1), 1) := by decide +kernel
theorem dX12_wordHere_149 : decode cX12_wordHere 149 = .ok (.ireturn, 1) := by decide +kernel
theorem dX12_number_0 : decode cX12_number 0 = .ok (.aload_n 0, 1) := by decide +kernel
theorem dX12_number_1 : decode cX12_number 1 = .ok (.invokevirtual 136, 3) := by decide +kernel
theorem dX12_number_4 : decode cX12_number 4 = .ok (.iconst 0, 1) := by decide +kernel
theorem dX12_number_5 : decode cX12_number 5 = .ok (.istore_n 3, 1) := by decide +kernel
theorem dX12_number_6 : decode cX12_number 6 = .ok (.iconst 0, 1) := by decide +kernel
theorem dX12_number_7 : decode cX12_number 7 = .ok (.istore 4, 2) := by decide +kernel
theorem dX12_number_9 : decode cX12_number 9 = .ok (.aload_n 0, 1) := by decide +kernel
theorem dX12_number_10 : decode cX12_number 10 = .ok (.getfield 115, 3) := by decide +kernel
theorem dX12_number_13 : decode cX12_number 13 = .ok (.iload_n 3, 1) := by decide +kernel
theorem dX12_number_14 : decode cX12_number 14 = .ok (.iadd, 1) := by decide +kernel
theorem dX12_number_15 : decode cX12_number 15 = .ok (.aload_n 0, 1) := by decide +kernel
theorem dX12_number_16 : decode cX12_number 16 = .ok (.getfield 112, 3) := by decide +kernel
theorem dX12_number_19 : decode cX12_number 19 = .ok (.if_icmp .ge 58, 3) := by decide +kernel
theorem dX12_number_22 : decode cX12_number 22 = .ok (.aload_n 0, 1) := by decide +kernel
theorem dX12_number_23 : decode cX12_number 23 = .ok (.getfield 50, 3) := by decide +kernel
theorem dX12_number_26 : decode cX12_number 26 = .ok (.aload_n 0, 1) := by decide +kernel
theorem dX12_number_27 : decode cX12_number 27 = .ok (.getfield 115, 3) := by decide +kernel
theorem dX12_number_30 : decode cX12_number 30 = .ok (.iload_n 3, 1) := by decide +kernel
theorem dX12_number_31 : decode cX12_number 31 = .ok (.iadd, 1) := by decide +kernel
theorem dX12_number_32 : decode cX12_number 32 = .ok (.iaload, 1) := by decide +kernel
theorem dX12_number_33 : decode cX12_number 33 = .ok (.invokestatic 139, 3) := by decide +kernel
theorem dX12_number_36 : decode cX12_number 36 = .ok (.ifCond .eq 41, 3) := by decide +kernel
theorem dX12_number_39 : decode cX12_number 39 = .ok (.iload_n 3, 1) := by decide +kernel
theorem dX12_number_40 : decode cX12_number 40 = .ok (.iconst 2, 1) := by decide +kernel
theorem dX12_number_41 : decode cX12_number 41 = .ok (.if_icmp .ge 26, 3) := by decide +kernel
theorem dX12_number_44 : decode cX12_number 44 = .ok (.bipush 10, 2) := by decide +kernel
theorem dX12_number_46 : decode cX12_number 46 = .ok (.iload 4, 2) := by decide +kernel
theorem dX12_number_48 : decode cX12_number 48 = .ok (.imul, 1) := by decide +kernel
theorem dX12_number_49 : decode cX12_number 49 = .ok (.aload_n 0, 1) := by decide +kernel
theorem dX12_number_50 : decode cX12_number 50 = .ok (.getfield 50, 3) := by decide +kernel
theorem dX12_number_53 : decode cX12_number 53 = .ok (.aload_n 0, 1) := by decide +kernel
theorem dX12_number_54 : decode cX12_number 54 = .ok (.getfield 115, 3) := by decide +kernel
theorem dX12_number_57 : decode cX12_number 57 = .ok (.iload_n 3, 1) := by decide +kernel
theorem dX12_number_58 : decode cX12_number 58 = .ok (.iadd, 1) := by decide +kernel
theorem dX12_number_59 : decode cX12_number 59 = .ok (.iaload, 1) := by decide +kernel
theorem dX12_number_60 : decode cX12_number 60 = .ok (.iadd, 1) := by decide +kernel
theorem dX12_number_61 : decode cX12_number 61 = .ok (.bipush 48, 2) := by decide +kernel
theorem dX12_number_63 : decode cX12_number 63 = .ok (.isub, 1) := by decide +kernel
theorem dX12_number_64 : decode cX12_number 64 = .ok (.goto 5, 3) := by decide +kernel
theorem dX12_number_67 : decode cX12_number 67 = .ok (.iload 4, 2) := by decide +kernel
theorem dX12_number_69 : decode cX12_number 69 = .ok (.istore 4, 2) := by decide +kernel
theorem dX12_number_71 : decode cX12_number 71 = .ok (.iinc 3 1, 3) := by decide +kernel
theorem dX12_number_74 : decode cX12_number 74 = .ok (.goto (-65), 3) := by decide +kernel
theorem dX12_number_77 : decode cX12_number 77 = .ok (.iload_n 3, 1) := by decide +kernel
theorem dX12_number_78 : decode cX12_number 78 = .ok (.iconst 1, 1) := by decide +kernel
theorem dX12_number_79 : decode cX12_number 79 = .ok (.iconst 2, 1) := by decide +kernel
theorem dX12_number_80 : decode cX12_number 80 = .ok (.invokestatic 97, 3) := by decide +kernel
theorem dX12_number_83 : decode cX12_number 83 = .ok (.ifCond .eq 13, 3) := by decide +kernel
theorem dX12_number_86 : decode cX12_number 86 = .ok (.iload 4, 2) := by decide +kernel
theorem dX12_number_88 : decode cX12_number 88 = .ok (.iload_n 1, 1) := by decide +kernel
theorem dX12_number_89 : decode cX12_number 89 = .ok (.iload_n 2, 1) := by decide +kernel
theorem dX12_number_90 : decode cX12_number 90 = .ok (.invokestatic 97, 3) := by decide +kernel
theorem dX12_number_93 : decode cX12_number 93 = .ok (.ifCond .ne 5, 3) := by decide +kernel
theorem dX12_number_96 : decode cX12_number 96 = .ok (.iconst 0, 1) := by decide +kernel
theorem dX12_number_97 : decode cX12_number 97 = .ok (.ireturn, 1) := by decide +kernel
theorem dX12_number_98 : decode cX12_number 98 = .ok (.aload_n 0, 1) := by decide +kernel
theorem dX12_number_99 : decode cX12_number 99 = .ok (.iload 4, 2) := by decide +kernel
theorem dX12_number_101 : decode cX12_number 101 = .ok (.putfield 142, 3) := by decide +kernel
theorem dX12_number_104 : decode cX12_number 104 = .ok (.aload_n 0, 1) := by decide +kernel
theorem dX12_number_105 : decode cX12_number 105 = .ok (.dup, 1) := by decide +kernel
theorem dX12_number_106 : decode cX12_number 106 = .ok (.getfield 115, 3) := by decide +kernel
theorem dX12_number_109 : decode cX12_number 109 = .ok (.iload_n 3, 1) := by decide +kernel
theorem dX12_number_110 : decode cX12_number 110 = .ok (.iadd, 1) := by decide +kernel
theorem dX12_number_111 : decode cX12_number 111 = .ok (.putfield 115, 3) := by decide +kernel
theorem dX12_number_114 : decode cX12_number 114 = .ok (.iconst 1, 1) := by decide +kernel
theorem dX12_number_115 : decode cX12_number 115 = .ok (.ireturn, 1) := by decide +kernel
theorem dX12_ends_0 : decode cX12_ends 0 = .ok (.aload_n 0, 1) := by decide +kernel
theorem dX12_ends_1 : decode cX12_ends 1 = .ok (.invokevirtual 136, 3) := by decide +kernel
theorem dX12_ends_4 : decode cX12_ends 4 = .ok (.aload_n 0, 1) := by decide +kernel
theorem dX12_ends_5 : decode cX12_ends 5 = .ok (.invokevirtual 118, 3) := by decide +kernel
theorem dX12_ends_8 : decode cX12_ends 8 = .ok (.bipush 59, 2) := by decide +kernel
theorem dX12_ends_10 : decode cX12_ends 10 = .ok (.if_icmp .eq 5, 3) := by decide +kernel
theorem dX12_ends_13 : decode cX12_ends 13 = .ok (.iconst 0, 1) := by decide +kernel
theorem dX12_ends_14 : decode cX12_ends 14 = .ok (.ireturn, 1) := by decide +kernel
theorem dX12_ends_15 : decode cX12_ends 15 = .ok (.aload_n 0, 1) := by decide +kernel
theorem dX12_ends_16 : decode cX12_ends 16 = .ok (.dup, 1) := by decide +kernel
theorem dX12_ends_17 : decode cX12_ends 17 = .ok (.getfield 115, 3) := by decide +kernel
theorem dX12_ends_20 : decode cX12_ends 20 = .ok (.iconst 1, 1) := by decide +kernel
theorem dX12_ends_21 : decode cX12_ends 21 = .ok (.iadd, 1) := by decide +kernel
theorem dX12_ends_22 : decode cX12_ends 22 = .ok (.putfield 115, 3) := by decide +kernel
theorem dX12_ends_25 : decode cX12_ends 25 = .ok (.iconst 1, 1) := by decide +kernel
theorem dX12_ends_26 : decode cX12_ends 26 = .ok (.ireturn, 1) := by decide +kernel
theorem dX12_readsHeir_0 : decode cX12_readsHeir 0 = .ok (.aload_n 0, 1) := by decide +kernel
theorem dX12_readsHeir_1 : decode cX12_readsHeir 1 = .ok (.iconst 0, 1) := by decide +kernel
theorem dX12_readsHeir_2 : decode cX12_readsHeir 2 = .ok (.iconst 5, 1) := by decide +kernel
theorem dX12_readsHeir_3 : decode cX12_readsHeir 3 = .ok (.invokevirtual 145, 3) := by decide +kernel
theorem dX12_readsHeir_6 : decode cX12_readsHeir 6 = .ok (.ifCond .ne 5, 3) := by decide +kernel
theorem dX12_readsHeir_9 : decode cX12_readsHeir 9 = .ok (.iconst 0, 1) := by decide +kernel
theorem dX12_readsHeir_10 : decode cX12_readsHeir 10 = .ok (.ireturn, 1) := by decide +kernel
theorem dX12_readsHeir_11 : decode cX12_readsHeir 11 = .ok (.aload_n 0, 1) := by decide +kernel
theorem dX12_readsHeir_12 : decode cX12_readsHeir 12 = .ok (.getfield 142, 3) := by decide +kernel
theorem dX12_readsHeir_15 : decode cX12_readsHeir 15 = .ok (.istore_n 1, 1) := by decide +kernel
theorem dX12_readsHeir_16 : decode cX12_readsHeir 16 = .ok (.aload_n 0, 1) := by decide +kernel
theorem dX12_readsHeir_17 : decode cX12_readsHeir 17 = .ok (.iconst 0, 1) := by decide +kernel
theorem dX12_readsHeir_18 : decode cX12_readsHeir 18 = .ok (.bipush 20, 2) := by decide +kernel
theorem dX12_readsHeir_20 : decode cX12_readsHeir 20 = .ok (.invokevirtual 145, 3) := by decide +kernel
theorem dX12_readsHeir_23 : decode cX12_readsHeir 23 = .ok (.ifCond .ne 5, 3) := by decide +kernel
theorem dX12_readsHeir_26 : decode cX12_readsHeir 26 = .ok (.iconst 0, 1) := by decide +kernel
theorem dX12_readsHeir_27 : decode cX12_readsHeir 27 = .ok (.ireturn, 1) := by decide +kernel
theorem dX12_readsHeir_28 : decode cX12_readsHeir 28 = .ok (.iconst 4, 1) := by decide +kernel
theorem dX12_readsHeir_29 : decode cX12_readsHeir 29 = .ok (.aload_n 0, 1) := by decide +kernel
theorem dX12_readsHeir_30 : decode cX12_readsHeir 30 = .ok (.getfield 149, 3) := by decide +kernel
theorem dX12_readsHeir_33 : decode cX12_readsHeir 33 = .ok (.imul, 1) := by decide +kernel
theorem dX12_readsHeir_34 : decode cX12_readsHeir 34 = .ok (.istore_n 2, 1) := by decide +kernel
theorem dX12_readsHeir_35 : decode cX12_readsHeir 35 = .ok (.aload_n 0, 1) := by decide +kernel
theorem dX12_readsHeir_36 : decode cX12_readsHeir 36 = .ok (.getfield 53, 3) := by decide +kernel
theorem dX12_readsHeir_39 : decode cX12_readsHeir 39 = .ok (.iload_n 2, 1) := by decide +kernel
theorem dX12_readsHeir_40 : decode cX12_readsHeir 40 = .ok (.iload_n 1, 1) := by decide +kernel
theorem dX12_readsHeir_41 : decode cX12_readsHeir 41 = .ok (.iastore, 1) := by decide +kernel
theorem dX12_readsHeir_42 : decode cX12_readsHeir 42 = .ok (.aload_n 0, 1) := by decide +kernel
theorem dX12_readsHeir_43 : decode cX12_readsHeir 43 = .ok (.getfield 53, 3) := by decide +kernel
theorem dX12_readsHeir_46 : decode cX12_readsHeir 46 = .ok (.iload_n 2, 1) := by decide +kernel
theorem dX12_readsHeir_47 : decode cX12_readsHeir 47 = .ok (.iconst 1, 1) := by decide +kernel
theorem dX12_readsHeir_48 : decode cX12_readsHeir 48 = .ok (.iadd, 1) := by decide +kernel
theorem dX12_readsHeir_49 : decode cX12_readsHeir 49 = .ok (.iconst 0, 1) := by decide +kernel
theorem dX12_readsHeir_50 : decode cX12_readsHeir 50 = .ok (.iastore, 1) := by decide +kernel
theorem dX12_readsHeir_51 : decode cX12_readsHeir 51 = .ok (.aload_n 0, 1) := by decide +kernel
theorem dX12_readsHeir_52 : decode cX12_readsHeir 52 = .ok (.getfield 53, 3) := by decide +kernel
theorem dX12_readsHeir_55 : decode cX12_readsHeir 55 = .ok (.iload_n 2, 1) := by decide +kernel
theorem dX12_readsHeir_56 : decode cX12_readsHeir 56 = .ok (.iconst 2, 1) := by decide +kernel
theorem dX12_readsHeir_57 : decode cX12_readsHeir 57 = .ok (.iadd, 1) := by decide +kernel
theorem dX12_readsHeir_58 : decode cX12_readsHeir 58 = .ok (.iconst 0, 1) := by decide +kernel
theorem dX12_readsHeir_59 : decode cX12_readsHeir 59 = .ok (.iastore, 1) := by decide +kernel
theorem dX12_readsHeir_60 : decode cX12_readsHeir 60 = .ok (.aload_n 0, 1) := by decide +kernel
theorem dX12_readsHeir_61 : decode cX12_readsHeir 61 = .ok (.getfield 53, 3) := by decide +kernel
theorem dX12_readsHeir_64 : decode cX12_readsHeir 64 = .ok (.iload_n 2, 1) := by decide +kernel
theorem dX12_readsHeir_65 : decode cX12_readsHeir 65 = .ok (.iconst 3, 1) := by decide +kernel
theorem dX12_readsHeir_66 : decode cX12_readsHeir 66 = .ok (.iadd, 1) := by decide +kernel
theorem dX12_readsHeir_67 : decode cX12_readsHeir 67 = .ok (.aload_n 0, 1) := by decide +kernel
theorem dX12_readsHeir_68 : decode cX12_readsHeir 68 = .ok (.getfield 142, 3) := by decide +kernel
theorem dX12_readsHeir_71 : decode cX12_readsHeir 71 = .ok (.iastore, 1) := by decide +kernel
theorem dX12_readsHeir_72 : decode cX12_readsHeir 72 = .ok (.aload_n 0, 1) := by decide +kernel
theorem dX12_readsHeir_73 : decode cX12_readsHeir 73 = .ok (.dup, 1) := by decide +kernel
theorem dX12_readsHeir_74 : decode cX12_readsHeir 74 = .ok (.getfield 149, 3) := by decide +kernel
theorem dX12_readsHeir_77 : decode cX12_readsHeir 77 = .ok (.iconst 1, 1) := by decide +kernel
theorem dX12_readsHeir_78 : decode cX12_readsHeir 78 = .ok (.iadd, 1) := by decide +kernel
theorem dX12_readsHeir_79 : decode cX12_readsHeir 79 = .ok (.putfield 149, 3) := by decide +kernel
theorem dX12_readsHeir_82 : decode cX12_readsHeir 82 = .ok (.aload_n 0, 1) := by decide +kernel
theorem dX12_readsHeir_83 : decode cX12_readsHeir 83 = .ok (.invokevirtual 152, 3) := by decide +kernel
theorem dX12_readsHeir_86 : decode cX12_readsHeir 86 = .ok (.ireturn, 1) := by decide +kernel
theorem dX12_readsActs_0 : decode cX12_readsActs 0 = .ok (.aload_n 0, 1) := by decide +kernel
theorem dX12_readsActs_1 : decode cX12_readsActs 1 = .ok (.iconst 0, 1) := by decide +kernel
theorem dX12_readsActs_2 : decode cX12_readsActs 2 = .ok (.aload_n 0, 1) := by decide +kernel
theorem dX12_readsActs_3 : decode cX12_readsActs 3 = .ok (.getfield 149, 3) := by decide +kernel
theorem dX12_readsActs_6 : decode cX12_readsActs 6 = .ok (.iconst 1, 1) := by decide +kernel
theorem dX12_readsActs_7 : decode cX12_readsActs 7 = .ok (.isub, 1) := by decide +kernel
theorem dX12_readsActs_8 : decode cX12_readsActs 8 = .ok (.invokevirtual 145, 3) := by decide +kernel
theorem dX12_readsActs_11 : decode cX12_readsActs 11 = .ok (.ifCond .ne 5, 3) := by decide +kernel
theorem dX12_readsActs_14 : decode cX12_readsActs 14 = .ok (.iconst 0, 1) := by decide +kernel
theorem dX12_readsActs_15 : decode cX12_readsActs 15 = .ok (.ireturn, 1) := by decide +kernel
theorem dX12_readsActs_16 : decode cX12_readsActs 16 = .ok (.aload_n 0, 1) := by decide +kernel
theorem dX12_readsActs_17 : decode cX12_readsActs 17 = .ok (.getfield 142, 3) := by decide +kernel
theorem dX12_readsActs_20 : decode cX12_readsActs 20 = .ok (.istore_n 2, 1) := by decide +kernel
theorem dX12_readsActs_21 : decode cX12_readsActs 21 = .ok (.iconst 0, 1) := by decide +kernel
theorem dX12_readsActs_22 : decode cX12_readsActs 22 = .ok (.istore_n 3, 1) := by decide +kernel
theorem dX12_readsActs_23 : decode cX12_readsActs 23 = .ok (.aload_n 0, 1) := by decide +kernel
theorem dX12_readsActs_24 : decode cX12_readsActs 24 = .ok (.invokevirtual 136, 3) := by decide +kernel
theorem dX12_readsActs_27 : decode cX12_readsActs 27 = .ok (.aload_n 0, 1) := by decide +kernel
theorem dX12_readsActs_28 : decode cX12_readsActs 28 = .ok (.invokevirtual 118, 3) := by decide +kernel
theorem dX12_readsActs_31 : decode cX12_readsActs 31 = .ok (.invokestatic 139, 3) := by decide +kernel
theorem dX12_readsActs_34 : decode cX12_readsActs 34 = .ok (.ifCond .eq 31, 3) := by decide +kernel
theorem dX12_readsActs_37 : decode cX12_readsActs 37 = .ok (.aload_n 0, 1) := by decide +kernel
theorem dX12_readsActs_38 : decode cX12_readsActs 38 = .ok (.iconst 0, 1) := by decide +kernel
theorem dX12_readsActs_39 : decode cX12_readsActs 39 = .ok (.bipush 7, 2) := by decide +kernel
theorem dX12_readsActs_41 : decode cX12_readsActs 41 = .ok (.invokevirtual 145, 3) := by decide +kernel
theorem dX12_readsActs_44 : decode cX12_readsActs 44 = .ok (.ifCond .ne 5, 3) := by decide +kernel
theorem dX12_readsActs_47 : decode cX12_readsActs 47 = .ok (.iconst 0, 1) := by decide +kernel
theorem dX12_readsActs_48 : decode cX12_readsActs 48 = .ok (.ireturn, 1) := by decide +kernel
theorem dX12_readsActs_49 : decode cX12_readsActs 49 = .ok (.iload_n 3, 1) := by decide +kernel
theorem dX12_readsActs_50 : decode cX12_readsActs 50 = .ok (.iconst 1, 1) := by decide +kernel
theorem dX12_readsActs_51 : decode cX12_readsActs 51 = .ok (.aload_n 0, 1) := by decide +kernel
theorem dX12_readsActs_52 : decode cX12_readsActs 52 = .ok (.getfield 142, 3) := by decide +kernel
theorem dX12_readsActs_55 : decode cX12_readsActs 55 = .ok (.ishl, 1) := by decide +kernel
theorem dX12_readsActs_56 : decode cX12_readsActs 56 = .ok (.ior, 1) := by decide +kernel
theorem dX12_readsActs_57 : decode cX12_readsActs 57 = .ok (.istore_n 3, 1) := by decide +kernel
theorem dX12_readsActs_58 : decode cX12_readsActs 58 = .ok (.aload_n 0, 1) := by decide +kernel
theorem dX12_readsActs_59 : decode cX12_readsActs 59 = .ok (.invokevirtual 136, 3) := by decide +kernel
theorem dX12_readsActs_62 : decode cX12_readsActs 62 = .ok (.goto (-35), 3) := by decide +kernel
theorem dX12_readsActs_65 : decode cX12_readsActs 65 = .ok (.aload_n 0, 1) := by decide +kernel
theorem dX12_readsActs_66 : decode cX12_readsActs 66 = .ok (.getfield 53, 3) := by decide +kernel
theorem dX12_readsActs_69 : decode cX12_readsActs 69 = .ok (.iconst 4, 1) := by decide +kernel
theorem dX12_readsActs_70 : decode cX12_readsActs 70 = .ok (.iload_n 2, 1) := by decide +kernel
theorem dX12_readsActs_71 : decode cX12_readsActs 71 = .ok (.imul, 1) := by decide +kernel
theorem dX12_readsActs_72 : decode cX12_readsActs 72 = .ok (.iload_n 1, 1) := by decide +kernel
theorem dX12_readsActs_73 : decode cX12_readsActs 73 = .ok (.iadd, 1) := by decide +kernel
theorem dX12_readsActs_74 : decode cX12_readsActs 74 = .ok (.iload_n 3, 1) := by decide +kernel
theorem dX12_readsActs_75 : decode cX12_readsActs 75 = .ok (.iastore, 1) := by decide +kernel
theorem dX12_readsActs_76 : decode cX12_readsActs 76 = .ok (.aload_n 0, 1) := by decide +kernel
theorem dX12_readsActs_77 : decode cX12_readsActs 77 = .ok (.invokevirtual 152, 3) := by decide +kernel
theorem dX12_readsActs_80 : decode cX12_readsActs 80 = .ok (.ireturn, 1) := by decide +kernel
theorem dX12_readsPair_0 : decode cX12_readsPair 0 = .ok (.aload_n 0, 1) := by decide +kernel
theorem dX12_readsPair_1 : decode cX12_readsPair 1 = .ok (.iconst 0, 1) := by decide +kernel
theorem dX12_readsPair_2 : decode cX12_readsPair 2 = .ok (.aload_n 0, 1) := by decide +kernel
theorem dX12_readsPair_3 : decode cX12_readsPair 3 = .ok (.getfield 149, 3) := by decide +kernel
theorem dX12_readsPair_6 : decode cX12_readsPair 6 = .ok (.iconst 1, 1) := by decide +kernel
theorem dX12_readsPair_7 : decode cX12_readsPair 7 = .ok (.isub, 1) := by decide +kernel
theorem dX12_readsPair_8 : decode cX12_readsPair 8 = .ok (.invokevirtual 145, 3) := by decide +kernel
theorem dX12_readsPair_11 : decode cX12_readsPair 11 = .ok (.ifCond .ne 5, 3) := by decide +kernel
theorem dX12_readsPair_14 : decode cX12_readsPair 14 = .ok (.iconst 0, 1) := by decide +kernel
theorem dX12_readsPair_15 : decode cX12_readsPair 15 = .ok (.ireturn, 1) := by decide +kernel
theorem dX12_readsPair_16 : decode cX12_readsPair 16 = .ok (.aload_n 0, 1) := by decide +kernel
theorem dX12_readsPair_17 : decode cX12_readsPair 17 = .ok (.getfield 142, 3) := by decide +kernel
theorem dX12_readsPair_20 : decode cX12_readsPair 20 = .ok (.istore_n 1, 1) := by decide +kernel
theorem dX12_readsPair_21 : decode cX12_readsPair 21 = .ok (.aload_n 0, 1) := by decide +kernel
theorem dX12_readsPair_22 : decode cX12_readsPair 22 = .ok (.invokevirtual 136, 3) := by decide +kernel
theorem dX12_readsPair_25 : decode cX12_readsPair 25 = .ok (.aload_n 0, 1) := by decide +kernel
theorem dX12_readsPair_26 : decode cX12_readsPair 26 = .ok (.getfield 115, 3) := by decide +kernel
theorem dX12_readsPair_29 : decode cX12_readsPair 29 = .ok (.istore_n 2, 1) := by decide +kernel
theorem dX12_readsPair_30 : decode cX12_readsPair 30 = .ok (.aload_n 0, 1) := by decide +kernel
theorem dX12_readsPair_31 : decode cX12_readsPair 31 = .ok (.iconst 0, 1) := by decide +kernel
theorem dX12_readsPair_32 : decode cX12_readsPair 32 = .ok (.aload_n 0, 1) := by decide +kernel
theorem dX12_readsPair_33 : decode cX12_readsPair 33 = .ok (.getfield 149, 3) := by decide +kernel
theorem dX12_readsPair_36 : decode cX12_readsPair 36 = .ok (.iconst 1, 1) := by decide +kernel
theorem dX12_readsPair_37 : decode cX12_readsPair 37 = .ok (.isub, 1) := by decide +kernel
theorem dX12_readsPair_38 : decode cX12_readsPair 38 = .ok (.invokevirtual 145, 3) := by decide +kernel
theorem dX12_readsPair_41 : decode cX12_readsPair 41 = .ok (.ifCond .ne 5, 3) := by decide +kernel
theorem dX12_readsPair_44 : decode cX12_readsPair 44 = .ok (.iconst 0, 1) := by decide +kernel
theorem dX12_readsPair_45 : decode cX12_readsPair 45 = .ok (.ireturn, 1) := by decide +kernel
theorem dX12_readsPair_46 : decode cX12_readsPair 46 = .ok (.aload_n 0, 1) := by decide +kernel
theorem dX12_readsPair_47 : decode cX12_readsPair 47 = .ok (.getfield 142, 3) := by decide +kernel
theorem dX12_readsPair_50 : decode cX12_readsPair 50 = .ok (.iload_n 1, 1) := by decide +kernel
theorem dX12_readsPair_51 : decode cX12_readsPair 51 = .ok (.if_icmp .ne 10, 3) := by decide +kernel
theorem dX12_readsPair_54 : decode cX12_readsPair 54 = .ok (.aload_n 0, 1) := by decide +kernel
theorem dX12_readsPair_55 : decode cX12_readsPair 55 = .ok (.iload_n 2, 1) := by decide +kernel
theorem dX12_readsPair_56 : decode cX12_readsPair 56 = .ok (.putfield 115, 3) := by decide +kernel
theorem dX12_readsPair_59 : decode cX12_readsPair 59 = .ok (.iconst 0, 1) := by decide +kernel
theorem dX12_readsPair_60 : decode cX12_readsPair 60 = .ok (.ireturn, 1) := by decide +kernel
theorem dX12_readsPair_61 : decode cX12_readsPair 61 = .ok (.aload_n 0, 1) := by decide +kernel
theorem dX12_readsPair_62 : decode cX12_readsPair 62 = .ok (.iload_n 1, 1) := by decide +kernel
theorem dX12_readsPair_63 : decode cX12_readsPair 63 = .ok (.putfield 156, 3) := by decide +kernel
theorem dX12_readsPair_66 : decode cX12_readsPair 66 = .ok (.aload_n 0, 1) := by decide +kernel
theorem dX12_readsPair_67 : decode cX12_readsPair 67 = .ok (.aload_n 0, 1) := by decide +kernel
theorem dX12_readsPair_68 : decode cX12_readsPair 68 = .ok (.getfield 142, 3) := by decide +kernel
theorem dX12_readsPair_71 : decode cX12_readsPair 71 = .ok (.putfield 159, 3) := by decide +kernel
theorem dX12_readsPair_74 : decode cX12_readsPair 74 = .ok (.aload_n 0, 1) := by decide +kernel
theorem dX12_readsPair_75 : decode cX12_readsPair 75 = .ok (.invokevirtual 152, 3) := by decide +kernel
theorem dX12_readsPair_78 : decode cX12_readsPair 78 = .ok (.ireturn, 1) := by decide +kernel
theorem dX12_readsItem_0 : decode cX12_readsItem 0 = .ok (.aload_n 0, 1) := by decide +kernel
theorem dX12_readsItem_1 : decode cX12_readsItem 1 = .ok (.invokevirtual 162, 3) := by decide +kernel
theorem dX12_readsItem_4 : decode cX12_readsItem 4 = .ok (.istore_n 1, 1) := by decide +kernel
theorem dX12_readsItem_5 : decode cX12_readsItem 5 = .ok (.iload_n 1, 1) := by decide +kernel
theorem dX12_readsItem_6 : decode cX12_readsItem 6 = .ok (.iconst 1, 1) := by decide +kernel
theorem dX12_readsItem_7 : decode cX12_readsItem 7 = .ok (.if_icmp .lt 17, 3) := by decide +kernel
theorem dX12_readsItem_10 : decode cX12_readsItem 10 = .ok (.iload_n 1, 1) := by decide +kernel
theorem dX12_readsItem_11 : decode cX12_readsItem 11 = .ok (.iconst 1, 1) := by decide +kernel
theorem dX12_readsItem_12 : decode cX12_readsItem 12 = .ok (.if_icmp .ne 14, 3) := by decide +kernel
theorem dX12_readsItem_15 : decode cX12_readsItem 15 = .ok (.aload_n 0, 1) := by decide +kernel
theorem dX12_readsItem_16 : decode cX12_readsItem 16 = .ok (.getfield 149, 3) := by decide +kernel
theorem dX12_readsItem_19 : decode cX12_readsItem 19 = .ok (.bipush 6, 2) := by decide +kernel
theorem dX12_readsItem_21 : decode cX12_readsItem 21 = .ok (.if_icmp .ne 5, 3) := by decide +kernel
theorem dX12_readsItem_24 : decode cX12_readsItem 24 = .ok (.iconst 0, 1) := by decide +kernel
theorem dX12_readsItem_25 : decode cX12_readsItem 25 = .ok (.ireturn, 1) := by decide +kernel
theorem dX12_readsItem_26 : decode cX12_readsItem 26 = .ok (.aload_n 0, 1) := by decide +kernel
theorem dX12_readsItem_27 : decode cX12_readsItem 27 = .ok (.dup, 1) := by decide +kernel
theorem dX12_readsItem_28 : decode cX12_readsItem 28 = .ok (.getfield 115, 3) := by decide +kernel
theorem dX12_readsItem_31 : decode cX12_readsItem 31 = .ok (.iconst 4, 1) := by decide +kernel
theorem dX12_readsItem_32 : decode cX12_readsItem 32 = .ok (.iadd, 1) := by decide +kernel
theorem dX12_readsItem_33 : decode cX12_readsItem 33 = .ok (.putfield 115, 3) := by decide +kernel
theorem dX12_readsItem_36 : decode cX12_readsItem 36 = .ok (.iload_n 1, 1) := by decide +kernel
theorem dX12_readsItem_37 : decode cX12_readsItem 37 = .ok (.iconst 1, 1) := by decide +kernel
theorem dX12_readsItem_38 : decode cX12_readsItem 38 = .ok (.if_icmp .ne 10, 3) := by decide +kernel
theorem dX12_readsItem_41 : decode cX12_readsItem 41 = .ok (.aload_n 0, 1) := by decide +kernel
theorem dX12_readsItem_42 : decode cX12_readsItem 42 = .ok (.invokevirtual 165, 3) := by decide +kernel
theorem dX12_readsItem_45 : decode cX12_readsItem 45 = .ok (.goto 22, 3) := by decide +kernel
theorem dX12_readsItem_48 : decode cX12_readsItem 48 = .ok (.iload_n 1, 1) := by decide +kernel
theorem dX12_readsItem_49 : decode cX12_readsItem 49 = .ok (.iconst 4, 1) := by decide +kernel
theorem dX12_readsItem_50 : decode cX12_readsItem 50 = .ok (.if_icmp .ne 10, 3) := by decide +kernel
theorem dX12_readsItem_53 : decode cX12_readsItem 53 = .ok (.aload_n 0, 1) := by decide +kernel
theorem dX12_readsItem_54 : decode cX12_readsItem 54 = .ok (.invokevirtual 168, 3) := by decide +kernel
theorem dX12_readsItem_57 : decode cX12_readsItem 57 = .ok (.goto 10, 3) := by decide +kernel
theorem dX12_readsItem_60 : decode cX12_readsItem 60 = .ok (.aload_n 0, 1) := by decide +kernel
theorem dX12_readsItem_61 : decode cX12_readsItem 61 = .ok (.iload_n 1, 1) := by decide +kernel
theorem dX12_readsItem_62 : decode cX12_readsItem 62 = .ok (.iconst 1, 1) := by decide +kernel
theorem dX12_readsItem_63 : decode cX12_readsItem 63 = .ok (.isub, 1) := by decide +kernel
theorem dX12_readsItem_64 : decode cX12_readsItem 64 = .ok (.invokevirtual 171, 3) := by decide +kernel
theorem dX12_readsItem_67 : decode cX12_readsItem 67 = .ok (.ireturn, 1) := by decide +kernel
theorem dX12_readsFirst_0 : decode cX12_readsFirst 0 = .ok (.aload_n 0, 1) := by decide +kernel
theorem dX12_readsFirst_1 : decode cX12_readsFirst 1 = .ok (.invokevirtual 136, 3) := by decide +kernel
theorem dX12_readsFirst_4 : decode cX12_readsFirst 4 = .ok (.aload_n 0, 1) := by decide +kernel
theorem dX12_readsFirst_5 : decode cX12_readsFirst 5 = .ok (.invokevirtual 162, 3) := by decide +kernel
theorem dX12_readsFirst_8 : decode cX12_readsFirst 8 = .ok (.ifCond .eq 5, 3) := by decide +kernel
theorem dX12_readsFirst_11 : decode cX12_readsFirst 11 = .ok (.iconst 0, 1) := by decide +kernel
theorem dX12_readsFirst_12 : decode cX12_readsFirst 12 = .ok (.ireturn, 1) := by decide +kernel
theorem dX12_readsFirst_13 : decode cX12_readsFirst 13 = .ok (.aload_n 0, 1) := by decide +kernel
theorem dX12_readsFirst_14 : decode cX12_readsFirst 14 = .ok (.dup, 1) := by decide +kernel
theorem dX12_readsFirst_15 : decode cX12_readsFirst 15 = .ok (.getfield 115, 3) := by decide +kernel
theorem dX12_readsFirst_18 : decode cX12_readsFirst 18 = .ok (.iconst 5, 1) := by decide +kernel
theorem dX12_readsFirst_19 : decode cX12_readsFirst 19 = .ok (.iadd, 1) := by decide +kernel
theorem dX12_readsFirst_20 : decode cX12_readsFirst 20 = .ok (.putfield 115, 3) := by decide +kernel
theorem dX12_readsFirst_23 : decode cX12_readsFirst 23 = .ok (.aload_n 0, 1) := by decide +kernel
theorem dX12_readsFirst_24 : decode cX12_readsFirst 24 = .ok (.iconst 0, 1) := by decide +kernel
theorem dX12_readsFirst_25 : decode cX12_readsFirst 25 = .ok (.bipush 99, 2) := by decide +kernel
theorem dX12_readsFirst_27 : decode cX12_readsFirst 27 = .ok (.invokevirtual 145, 3) := by decide +kernel
theorem dX12_readsFirst_30 : decode cX12_readsFirst 30 = .ok (.ifCond .ne 5, 3) := by decide +kernel
theorem dX12_readsFirst_33 : decode cX12_readsFirst 33 = .ok (.iconst 0, 1) := by decide +kernel
theorem dX12_readsFirst_34 : decode cX12_readsFirst 34 = .ok (.ireturn, 1) := by decide +kernel
theorem dX12_readsFirst_35 : decode cX12_readsFirst 35 = .ok (.aload_n 0, 1) := by decide +kernel
theorem dX12_readsFirst_36 : decode cX12_readsFirst 36 = .ok (.aload_n 0, 1) := by decide +kernel
theorem dX12_readsFirst_37 : decode cX12_readsFirst 37 = .ok (.getfield 142, 3) := by decide +kernel
theorem dX12_readsFirst_40 : decode cX12_readsFirst 40 = .ok (.putfield 174, 3) := by decide +kernel
theorem dX12_readsFirst_43 : decode cX12_readsFirst 43 = .ok (.aload_n 0, 1) := by decide +kernel
theorem dX12_readsFirst_44 : decode cX12_readsFirst 44 = .ok (.invokevirtual 152, 3) := by decide +kernel
theorem dX12_readsFirst_47 : decode cX12_readsFirst 47 = .ok (.ireturn, 1) := by decide +kernel
theorem dX12_readsCourt_0 : decode cX12_readsCourt 0 = .ok (.aload_n 0, 1) := by decide +kernel
theorem dX12_readsCourt_1 : decode cX12_readsCourt 1 = .ok (.iconst 0, 1) := by decide +kernel
theorem dX12_readsCourt_2 : decode cX12_readsCourt 2 = .ok (.putfield 115, 3) := by decide +kernel
theorem dX12_readsCourt_5 : decode cX12_readsCourt 5 = .ok (.aload_n 0, 1) := by decide +kernel
theorem dX12_readsCourt_6 : decode cX12_readsCourt 6 = .ok (.iconst 0, 1) := by decide +kernel
theorem dX12_readsCourt_7 : decode cX12_readsCourt 7 = .ok (.putfield 149, 3) := by decide +kernel
theorem dX12_readsCourt_10 : decode cX12_readsCourt 10 = .ok (.aload_n 0, 1) := by decide +kernel
theorem dX12_readsCourt_11 : decode cX12_readsCourt 11 = .ok (.iconst (-1), 1) := by decide +kernel
theorem dX12_readsCourt_12 : decode cX12_readsCourt 12 = .ok (.putfield 156, 3) := by decide +kernel
theorem dX12_readsCourt_15 : decode cX12_readsCourt 15 = .ok (.aload_n 0, 1) := by decide +kernel
theorem dX12_readsCourt_16 : decode cX12_readsCourt 16 = .ok (.iconst (-1), 1) := by decide +kernel
theorem dX12_readsCourt_17 : decode cX12_readsCourt 17 = .ok (.putfield 159, 3) := by decide +kernel
theorem dX12_readsCourt_20 : decode cX12_readsCourt 20 = .ok (.aload_n 0, 1) := by decide +kernel
theorem dX12_readsCourt_21 : decode cX12_readsCourt 21 = .ok (.invokevirtual 177, 3) := by decide +kernel
theorem dX12_readsCourt_24 : decode cX12_readsCourt 24 = .ok (.ifCond .ne 5, 3) := by decide +kernel
theorem dX12_readsCourt_27 : decode cX12_readsCourt 27 = .ok (.iconst (-1), 1) := by decide +kernel
theorem dX12_readsCourt_28 : decode cX12_readsCourt 28 = .ok (.ireturn, 1) := by decide +kernel
theorem dX12_readsCourt_29 : decode cX12_readsCourt 29 = .ok (.iconst 1, 1) := by decide +kernel
theorem dX12_readsCourt_30 : decode cX12_readsCourt 30 = .ok (.istore_n 1, 1) := by decide +kernel
theorem dX12_readsCourt_31 : decode cX12_readsCourt 31 = .ok (.aload_n 0, 1) := by decide +kernel
theorem dX12_readsCourt_32 : decode cX12_readsCourt 32 = .ok (.invokevirtual 136, 3) := by decide +kernel
theorem dX12_readsCourt_35 : decode cX12_readsCourt 35 = .ok (.aload_n 0, 1) := by decide +kernel
theorem dX12_readsCourt_36 : decode cX12_readsCourt 36 = .ok (.getfield 115, 3) := by decide +kernel
theorem dX12_readsCourt_39 : decode cX12_readsCourt 39 = .ok (.aload_n 0, 1) := by decide +kernel
theorem dX12_readsCourt_40 : decode cX12_readsCourt 40 = .ok (.getfield 112, 3) := by decide +kernel
theorem dX12_readsCourt_43 : decode cX12_readsCourt 43 = .ok (.if_icmp .ge 22, 3) := by decide +kernel
theorem dX12_readsCourt_46 : decode cX12_readsCourt 46 = .ok (.aload_n 0, 1) := by decide +kernel
theorem dX12_readsCourt_47 : decode cX12_readsCourt 47 = .ok (.invokevirtual 180, 3) := by decide +kernel
theorem dX12_readsCourt_50 : decode cX12_readsCourt 50 = .ok (.ifCond .ne 5, 3) := by decide +kernel
theorem dX12_readsCourt_53 : decode cX12_readsCourt 53 = .ok (.iconst (-1), 1) := by decide +kernel
theorem dX12_readsCourt_54 : decode cX12_readsCourt 54 = .ok (.ireturn, 1) := by decide +kernel
theorem dX12_readsCourt_55 : decode cX12_readsCourt 55 = .ok (.iinc 1 1, 3) := by decide +kernel
theorem dX12_readsCourt_58 : decode cX12_readsCourt 58 = .ok (.aload_n 0, 1) := by decide +kernel
theorem dX12_readsCourt_59 : decode cX12_readsCourt 59 = .ok (.invokevirtual 136, 3) := by decide +kernel
theorem dX12_readsCourt_62 : decode cX12_readsCourt 62 = .ok (.goto (-27), 3) := by decide +kernel
theorem dX12_readsCourt_65 : decode cX12_readsCourt 65 = .ok (.iload_n 1, 1) := by decide +kernel
theorem dX12_readsCourt_66 : decode cX12_readsCourt 66 = .ok (.ireturn, 1) := by decide +kernel
theorem dX12_read_0 : decode cX12_read 0 = .ok (.aload_n 0, 1) := by decide +kernel
theorem dX12_read_1 : decode cX12_read 1 = .ok (.invokevirtual 183, 3) := by decide +kernel
theorem dX12_read_4 : decode cX12_read 4 = .ok (.istore_n 1, 1) := by decide +kernel
theorem dX12_read_5 : decode cX12_read 5 = .ok (.iload_n 1, 1) := by decide +kernel
theorem dX12_read_6 : decode cX12_read 6 = .ok (.ifCond .ge 11, 3) := by decide +kernel
theorem dX12_read_9 : decode cX12_read 9 = .ok (.bipush (-10), 2) := by decide +kernel
theorem dX12_read_11 : decode cX12_read 11 = .ok (.aload_n 0, 1) := by decide +kernel
theorem dX12_read_12 : decode cX12_read 12 = .ok (.getfield 115, 3) := by decide +kernel
theorem dX12_read_15 : decode cX12_read 15 = .ok (.isub, 1) := by decide +kernel
theorem dX12_read_16 : decode cX12_read 16 = .ok (.ireturn, 1) := by decide +kernel
theorem dX12_read_17 : decode cX12_read 17 = .ok (.aload_n 0, 1) := by decide +kernel
theorem dX12_read_18 : decode cX12_read 18 = .ok (.aload_n 0, 1) := by decide +kernel
theorem dX12_read_19 : decode cX12_read 19 = .ok (.getfield 174, 3) := by decide +kernel
theorem dX12_read_22 : decode cX12_read 22 = .ok (.invokevirtual 78, 3) := by decide +kernel
theorem dX12_read_25 : decode cX12_read 25 = .ok (.iconst 0, 1) := by decide +kernel
theorem dX12_read_26 : decode cX12_read 26 = .ok (.istore_n 2, 1) := by decide +kernel
theorem dX12_read_27 : decode cX12_read 27 = .ok (.iload_n 2, 1) := by decide +kernel
theorem dX12_read_28 : decode cX12_read 28 = .ok (.aload_n 0, 1) := by decide +kernel
theorem dX12_read_29 : decode cX12_read 29 = .ok (.getfield 149, 3) := by decide +kernel
theorem dX12_read_32 : decode cX12_read 32 = .ok (.if_icmp .ge 52, 3) := by decide +kernel
theorem dX12_read_35 : decode cX12_read 35 = .ok (.aload_n 0, 1) := by decide +kernel
theorem dX12_read_36 : decode cX12_read 36 = .ok (.aload_n 0, 1) := by decide +kernel
theorem dX12_read_37 : decode cX12_read 37 = .ok (.getfield 53, 3) := by decide +kernel
theorem dX12_read_40 : decode cX12_read 40 = .ok (.iconst 4, 1) := by decide +kernel
theorem dX12_read_41 : decode cX12_read 41 = .ok (.iload_n 2, 1) := by decide +kernel
theorem dX12_read_42 : decode cX12_read 42 = .ok (.imul, 1) := by decide +kernel
theorem dX12_read_43 : decode cX12_read 43 = .ok (.iaload, 1) := by decide +kernel
theorem dX12_read_44 : decode cX12_read 44 = .ok (.aload_n 0, 1) := by decide +kernel
theorem dX12_read_45 : decode cX12_read 45 = .ok (.getfield 53, 3) := by decide +kernel
theorem dX12_read_48 : decode cX12_read 48 = .ok (.iconst 4, 1) := by decide +kernel
theorem dX12_read_49 : decode cX12_read 49 = .ok (.iload_n 2, 1) := by decide +kernel
theorem dX12_read_50 : decode cX12_read 50 = .ok (.imul, 1) := by decide +kernel
theorem dX12_read_51 : decode cX12_read 51 = .ok (.iconst 1, 1) := by decide +kernel
theorem dX12_read_52 : decode cX12_read 52 = .ok (.iadd, 1) := by decide +kernel
theorem dX12_read_53 : decode cX12_read 53 = .ok (.iaload, 1) := by decide +kernel
theorem dX12_read_54 : decode cX12_read 54 = .ok (.aload_n 0, 1) := by decide +kernel
theorem dX12_read_55 : decode cX12_read 55 = .ok (.getfield 53, 3) := by decide +kernel
theorem dX12_read_58 : decode cX12_read 58 = .ok (.iconst 4, 1) := by decide +kernel
theorem dX12_read_59 : decode cX12_read 59 = .ok (.iload_n 2, 1) := by decide +kernel
theorem dX12_read_60 : decode cX12_read 60 = .ok (.imul, 1) := by decide +kernel
theorem dX12_read_61 : decode cX12_read 61 = .ok (.iconst 2, 1) := by decide +kernel
theorem dX12_read_62 : decode cX12_read 62 = .ok (.iadd, 1) := by decide +kernel
theorem dX12_read_63 : decode cX12_read 63 = .ok (.iaload, 1) := by decide +kernel
theorem dX12_read_64 : decode cX12_read 64 = .ok (.aload_n 0, 1) := by decide +kernel
theorem dX12_read_65 : decode cX12_read 65 = .ok (.getfield 53, 3) := by decide +kernel
theorem dX12_read_68 : decode cX12_read 68 = .ok (.iconst 4, 1) := by decide +kernel
theorem dX12_read_69 : decode cX12_read 69 = .ok (.iload_n 2, 1) := by decide +kernel
theorem dX12_read_70 : decode cX12_read 70 = .ok (.imul, 1) := by decide +kernel
theorem dX12_read_71 : decode cX12_read 71 = .ok (.iconst 3, 1) := by decide +kernel
theorem dX12_read_72 : decode cX12_read 72 = .ok (.iadd, 1) := by decide +kernel
theorem dX12_read_73 : decode cX12_read 73 = .ok (.iaload, 1) := by decide +kernel
theorem dX12_read_74 : decode cX12_read 74 = .ok (.invokevirtual 108, 3) := by decide +kernel
theorem dX12_read_77 : decode cX12_read 77 = .ok (.pop, 1) := by decide +kernel
theorem dX12_read_78 : decode cX12_read 78 = .ok (.iinc 2 1, 3) := by decide +kernel
theorem dX12_read_81 : decode cX12_read 81 = .ok (.goto (-54), 3) := by decide +kernel
theorem dX12_read_84 : decode cX12_read 84 = .ok (.aload_n 0, 1) := by decide +kernel
theorem dX12_read_85 : decode cX12_read 85 = .ok (.aload_n 0, 1) := by decide +kernel
theorem dX12_read_86 : decode cX12_read 86 = .ok (.getfield 156, 3) := by decide +kernel
theorem dX12_read_89 : decode cX12_read 89 = .ok (.putfield 17, 3) := by decide +kernel
theorem dX12_read_92 : decode cX12_read 92 = .ok (.aload_n 0, 1) := by decide +kernel
theorem dX12_read_93 : decode cX12_read 93 = .ok (.aload_n 0, 1) := by decide +kernel
theorem dX12_read_94 : decode cX12_read 94 = .ok (.getfield 159, 3) := by decide +kernel
theorem dX12_read_97 : decode cX12_read 97 = .ok (.putfield 20, 3) := by decide +kernel
theorem dX12_read_100 : decode cX12_read 100 = .ok (.iload_n 1, 1) := by decide +kernel
theorem dX12_read_101 : decode cX12_read 101 = .ok (.ireturn, 1) := by decide +kernel
theorem dX12_heartOf_0 : decode cX12_heartOf 0 = .ok (.aload_n 0, 1) := by decide +kernel
theorem dX12_heartOf_1 : decode cX12_heartOf 1 = .ok (.getfield 26, 3) := by decide +kernel
theorem dX12_heartOf_4 : decode cX12_heartOf 4 = .ok (.iload_n 1, 1) := by decide +kernel
theorem dX12_heartOf_5 : decode cX12_heartOf 5 = .ok (.iaload, 1) := by decide +kernel
theorem dX12_heartOf_6 : decode cX12_heartOf 6 = .ok (.iload_n 2, 1) := by decide +kernel
theorem dX12_heartOf_7 : decode cX12_heartOf 7 = .ok (.invokestatic 186, 3) := by decide +kernel
theorem dX12_heartOf_10 : decode cX12_heartOf 10 = .ok (.istore_n 3, 1) := by decide +kernel
theorem dX12_heartOf_11 : decode cX12_heartOf 11 = .ok (.aload_n 0, 1) := by decide +kernel
theorem dX12_heartOf_12 : decode cX12_heartOf 12 = .ok (.getfield 29, 3) := by decide +kernel
theorem dX12_heartOf_15 : decode cX12_heartOf 15 = .ok (.iload_n 1, 1) := by decide +kernel
theorem dX12_heartOf_16 : decode cX12_heartOf 16 = .ok (.iaload, 1) := by decide +kernel
theorem dX12_heartOf_17 : decode cX12_heartOf 17 = .ok (.iload_n 2, 1) := by decide +kernel
theorem dX12_heartOf_18 : decode cX12_heartOf 18 = .ok (.invokestatic 186, 3) := by decide +kernel
theorem dX12_heartOf_21 : decode cX12_heartOf 21 = .ok (.istore 4, 2) := by decide +kernel
theorem dX12_heartOf_23 : decode cX12_heartOf 23 = .ok (.iload_n 3, 1) := by decide +kernel
theorem dX12_heartOf_24 : decode cX12_heartOf 24 = .ok (.ifCond .eq 12, 3) := by decide +kernel
theorem dX12_heartOf_27 : decode cX12_heartOf 27 = .ok (.iload 4, 2) := by decide +kernel
theorem dX12_heartOf_29 : decode cX12_heartOf 29 = .ok (.ifCond .ne 7, 3) := by decide +kernel
theorem dX12_heartOf_32 : decode cX12_heartOf 32 = .ok (.iconst 0, 1) := by decide +kernel
theorem dX12_heartOf_33 : decode cX12_heartOf 33 = .ok (.goto 17, 3) := by decide +kernel
theorem dX12_heartOf_36 : decode cX12_heartOf 36 = .ok (.iload 4, 2) := by decide +kernel
theorem dX12_heartOf_38 : decode cX12_heartOf 38 = .ok (.ifCond .eq 11, 3) := by decide +kernel
theorem dX12_heartOf_41 : decode cX12_heartOf 41 = .ok (.iload_n 3, 1) := by decide +kernel
theorem dX12_heartOf_42 : decode cX12_heartOf 42 = .ok (.ifCond .ne 7, 3) := by decide +kernel
theorem dX12_heartOf_45 : decode cX12_heartOf 45 = .ok (.iconst 1, 1) := by decide +kernel
theorem dX12_heartOf_46 : decode cX12_heartOf 46 = .ok (.goto 4, 3) := by decide +kernel
theorem dX12_heartOf_49 : decode cX12_heartOf 49 = .ok (.iconst 2, 1) := by decide +kernel
theorem dX12_heartOf_50 : decode cX12_heartOf 50 = .ok (.ireturn, 1) := by decide +kernel
theorem dX12_liftsBy_0 : decode cX12_liftsBy 0 = .ok (.iload_n 1, 1) := by decide +kernel
theorem dX12_liftsBy_1 : decode cX12_liftsBy 1 = .ok (.ifCond .eq 14, 3) := by decide +kernel
theorem dX12_liftsBy_4 : decode cX12_liftsBy 4 = .ok (.iload_n 1, 1) := by decide +kernel
theorem dX12_liftsBy_5 : decode cX12_liftsBy 5 = .ok (.iconst 2, 1) := by decide +kernel
theorem dX12_liftsBy_6 : decode cX12_liftsBy 6 = .ok (.if_icmp .ne 13, 3) := by decide +kernel
theorem dX12_liftsBy_9 : decode cX12_liftsBy 9 = .ok (.iload_n 2, 1) := by decide +kernel
theorem dX12_liftsBy_10 : decode cX12_liftsBy 10 = .ok (.bipush 60, 2) := by decide +kernel
theorem dX12_liftsBy_12 : decode cX12_liftsBy 12 = .ok (.if_icmp .ge 7, 3) := by decide +kernel
theorem dX12_liftsBy_15 : decode cX12_liftsBy 15 = .ok (.iconst 1, 1) := by decide +kernel
theorem dX12_liftsBy_16 : decode cX12_liftsBy 16 = .ok (.goto 4, 3) := by decide +kernel
theorem dX12_liftsBy_19 : decode cX12_liftsBy 19 = .ok (.iconst 0, 1) := by decide +kernel
theorem dX12_liftsBy_20 : decode cX12_liftsBy 20 = .ok (.istore 4, 2) := by decide +kernel
theorem dX12_liftsBy_22 : decode cX12_liftsBy 22 = .ok (.iload 4, 2) := by decide +kernel
theorem dX12_liftsBy_24 : decode cX12_liftsBy 24 = .ok (.ifCond .eq 13, 3) := by decide +kernel
theorem dX12_liftsBy_27 : decode cX12_liftsBy 27 = .ok (.iload_n 2, 1) := by decide +kernel
theorem dX12_liftsBy_28 : decode cX12_liftsBy 28 = .ok (.bipush 80, 2) := by decide +kernel
theorem dX12_liftsBy_30 : decode cX12_liftsBy 30 = .ok (.if_icmp .ge 7, 3) := by decide +kernel
theorem dX12_liftsBy_33 : decode cX12_liftsBy 33 = .ok (.iconst 1, 1) := by decide +kernel
theorem dX12_liftsBy_34 : decode cX12_liftsBy 34 = .ok (.goto 4, 3) := by decide +kernel
theorem dX12_liftsBy_37 : decode cX12_liftsBy 37 = .ok (.iconst 0, 1) := by decide +kernel
theorem dX12_liftsBy_38 : decode cX12_liftsBy 38 = .ok (.istore 5, 2) := by decide +kernel
theorem dX12_liftsBy_40 : decode cX12_liftsBy 40 = .ok (.iload_n 0, 1) := by decide +kernel
theorem dX12_liftsBy_41 : decode cX12_liftsBy 41 = .ok (.tableswitch 83 1 5 #[35, 83, 38, 48, 66], 35) := by decide +kernel
theorem dX12_liftsBy_76 : decode cX12_liftsBy 76 = .ok (.iload 5, 2) := by decide +kernel
theorem dX12_liftsBy_78 : decode cX12_liftsBy 78 = .ok (.ireturn, 1) := by decide +kernel
theorem dX12_liftsBy_79 : decode cX12_liftsBy 79 = .ok (.iload_n 1, 1) := by decide +kernel
theorem dX12_liftsBy_80 : decode cX12_liftsBy 80 = .ok (.ifCond .ne 7, 3) := by decide +kernel
theorem dX12_liftsBy_83 : decode cX12_liftsBy 83 = .ok (.iconst 1, 1) := by decide +kernel
theorem dX12_liftsBy_84 : decode cX12_liftsBy 84 = .ok (.goto 4, 3) := by decide +kernel
theorem dX12_liftsBy_87 : decode cX12_liftsBy 87 = .ok (.iconst 0, 1) := by decide +kernel
theorem dX12_liftsBy_88 : decode cX12_liftsBy 88 = .ok (.ireturn, 1) := by decide +kernel
theorem dX12_liftsBy_89 : decode cX12_liftsBy 89 = .ok (.iload 5, 2) := by decide +kernel
theorem dX12_liftsBy_91 : decode cX12_liftsBy 91 = .ok (.ifCond .ne 10, 3) := by decide +kernel
theorem dX12_liftsBy_94 : decode cX12_liftsBy 94 = .ok (.iload_n 3, 1) := by decide +kernel
theorem dX12_liftsBy_95 : decode cX12_liftsBy 95 = .ok (.bipush 7, 2) := by decide +kernel
theorem dX12_liftsBy_97 : decode cX12_liftsBy 97 = .ok (.irem, 1) := by decide +kernel
theorem dX12_liftsBy_98 : decode cX12_liftsBy 98 = .ok (.ifCond .ne 7, 3) := by decide +kernel
theorem dX12_liftsBy_101 : decode cX12_liftsBy 101 = .ok (.iconst 1, 1) := by decide +kernel
theorem dX12_liftsBy_102 : decode cX12_liftsBy 102 = .ok (.goto 4, 3) := by decide +kernel
theorem dX12_liftsBy_105 : decode cX12_liftsBy 105 = .ok (.iconst 0, 1) := by decide +kernel
theorem dX12_liftsBy_106 : decode cX12_liftsBy 106 = .ok (.ireturn, 1) := by decide +kernel
theorem dX12_liftsBy_107 : decode cX12_liftsBy 107 = .ok (.iload 4, 2) := by decide +kernel
theorem dX12_liftsBy_109 : decode cX12_liftsBy 109 = .ok (.ifCond .ne 9, 3) := by decide +kernel
theorem dX12_liftsBy_112 : decode cX12_liftsBy 112 = .ok (.iload_n 2, 1) := by decide +kernel
theorem dX12_liftsBy_113 : decode cX12_liftsBy 113 = .ok (.bipush 30, 2) := by decide +kernel
theorem dX12_liftsBy_115 : decode cX12_liftsBy 115 = .ok (.if_icmp .ge 7, 3) := by decide +kernel
theorem dX12_liftsBy_118 : decode cX12_liftsBy 118 = .ok (.iconst 1, 1) := by decide +kernel
theorem dX12_liftsBy_119 : decode cX12_liftsBy 119 = .ok (.goto 4, 3) := by decide +kernel
theorem dX12_liftsBy_122 : decode cX12_liftsBy 122 = .ok (.iconst 0, 1) := by decide +kernel
theorem dX12_liftsBy_123 : decode cX12_liftsBy 123 = .ok (.ireturn, 1) := by decide +kernel
theorem dX12_liftsBy_124 : decode cX12_liftsBy 124 = .ok (.iload 4, 2) := by decide +kernel
theorem dX12_liftsBy_126 : decode cX12_liftsBy 126 = .ok (.ireturn, 1) := by decide +kernel
theorem dX12_lifts_0 : decode cX12_lifts 0 = .ok (.aload_n 0, 1) := by decide +kernel
theorem dX12_lifts_1 : decode cX12_lifts 1 = .ok (.getfield 23, 3) := by decide +kernel
theorem dX12_lifts_4 : decode cX12_lifts 4 = .ok (.iload_n 1, 1) := by decide +kernel
theorem dX12_lifts_5 : decode cX12_lifts 5 = .ok (.iaload, 1) := by decide +kernel
theorem dX12_lifts_6 : decode cX12_lifts 6 = .ok (.aload_n 0, 1) := by decide +kernel
theorem dX12_lifts_7 : decode cX12_lifts 7 = .ok (.iload_n 1, 1) := by decide +kernel
theorem dX12_lifts_8 : decode cX12_lifts 8 = .ok (.iload_n 2, 1) := by decide +kernel
theorem dX12_lifts_9 : decode cX12_lifts 9 = .ok (.invokevirtual 189, 3) := by decide +kernel
theorem dX12_lifts_12 : decode cX12_lifts 12 = .ok (.aload_n 0, 1) := by decide +kernel
theorem dX12_lifts_13 : decode cX12_lifts 13 = .ok (.getfield 13, 3) := by decide +kernel
theorem dX12_lifts_16 : decode cX12_lifts 16 = .ok (.aload_n 0, 1) := by decide +kernel
theorem dX12_lifts_17 : decode cX12_lifts 17 = .ok (.getfield 85, 3) := by decide +kernel
theorem dX12_lifts_20 : decode cX12_lifts 20 = .ok (.invokestatic 193, 3) := by decide +kernel
theorem dX12_lifts_23 : decode cX12_lifts 23 = .ok (.ireturn, 1) := by decide +kernel
theorem dX12_makesOf_0 : decode cX12_makesOf 0 = .ok (.aload_n 0, 1) := by decide +kernel
theorem dX12_makesOf_1 : decode cX12_makesOf 1 = .ok (.getfield 32, 3) := by decide +kernel
theorem dX12_makesOf_4 : decode cX12_makesOf 4 = .ok (.iload_n 1, 1) := by decide +kernel
theorem dX12_makesOf_5 : decode cX12_makesOf 5 = .ok (.iaload, 1) := by decide +kernel
theorem dX12_makesOf_6 : decode cX12_makesOf 6 = .ok (.iconst 5, 1) := by decide +kernel
theorem dX12_makesOf_7 : decode cX12_makesOf 7 = .ok (.idiv, 1) := by decide +kernel
theorem dX12_makesOf_8 : decode cX12_makesOf 8 = .ok (.istore_n 2, 1) := by decide +kernel
theorem dX12_makesOf_9 : decode cX12_makesOf 9 = .ok (.aload_n 0, 1) := by decide +kernel
theorem dX12_makesOf_10 : decode cX12_makesOf 10 = .ok (.getfield 23, 3) := by decide +kernel
theorem dX12_makesOf_13 : decode cX12_makesOf 13 = .ok (.iload_n 1, 1) := by decide +kernel
theorem dX12_makesOf_14 : decode cX12_makesOf 14 = .ok (.iaload, 1) := by decide +kernel
theorem dX12_makesOf_15 : decode cX12_makesOf 15 = .ok (.tableswitch 53 1 5 #[33, 37, 53, 41, 47], 33) := by decide +kernel
theorem dX12_makesOf_48 : decode cX12_makesOf 48 = .ok (.iload_n 2, 1) := by decide +kernel
theorem dX12_makesOf_49 : decode cX12_makesOf 49 = .ok (.iconst 1, 1) := by decide +kernel
theorem dX12_makesOf_50 : decode cX12_makesOf 50 = .ok (.iadd, 1) := by decide +kernel
theorem dX12_makesOf_51 : decode cX12_makesOf 51 = .ok (.ireturn, 1) := by decide +kernel
theorem dX12_makesOf_52 : decode cX12_makesOf 52 = .ok (.iload_n 2, 1) := by decide +kernel
theorem dX12_makesOf_53 : decode cX12_makesOf 53 = .ok (.iconst 3, 1) := by decide +kernel
theorem dX12_makesOf_54 : decode cX12_makesOf 54 = .ok (.isub, 1) := by decide +kernel
theorem dX12_makesOf_55 : decode cX12_makesOf 55 = .ok (.ireturn, 1) := by decide +kernel
theorem dX12_makesOf_56 : decode cX12_makesOf 56 = .ok (.iload_n 2, 1) := by decide +kernel
theorem dX12_makesOf_57 : decode cX12_makesOf 57 = .ok (.iconst 1, 1) := by decide +kernel
theorem dX12_makesOf_58 : decode cX12_makesOf 58 = .ok (.iadd, 1) := by decide +kernel
theorem dX12_makesOf_59 : decode cX12_makesOf 59 = .ok (.iconst 2, 1) := by decide +kernel
theorem dX12_makesOf_60 : decode cX12_makesOf 60 = .ok (.idiv, 1) := by decide +kernel
theorem dX12_makesOf_61 : decode cX12_makesOf 61 = .ok (.ireturn, 1) := by decide +kernel
theorem dX12_makesOf_62 : decode cX12_makesOf 62 = .ok (.iconst 2, 1) := by decide +kernel
theorem dX12_makesOf_63 : decode cX12_makesOf 63 = .ok (.iload_n 2, 1) := by decide +kernel
theorem dX12_makesOf_64 : decode cX12_makesOf 64 = .ok (.iconst 3, 1) := by decide +kernel
theorem dX12_makesOf_65 : decode cX12_makesOf 65 = .ok (.isub, 1) := by decide +kernel
theorem dX12_makesOf_66 : decode cX12_makesOf 66 = .ok (.imul, 1) := by decide +kernel
theorem dX12_makesOf_67 : decode cX12_makesOf 67 = .ok (.ireturn, 1) := by decide +kernel
theorem dX12_makesOf_68 : decode cX12_makesOf 68 = .ok (.iload_n 2, 1) := by decide +kernel
theorem dX12_makesOf_69 : decode cX12_makesOf 69 = .ok (.ireturn, 1) := by decide +kernel
theorem dX12_growth_0 : decode cX12_growth 0 = .ok (.aload_n 0, 1) := by decide +kernel
theorem dX12_growth_1 : decode cX12_growth 1 = .ok (.invokevirtual 196, 3) := by decide +kernel
theorem dX12_growth_4 : decode cX12_growth 4 = .ok (.ifCond .eq 23, 3) := by decide +kernel
theorem dX12_growth_7 : decode cX12_growth 7 = .ok (.aload_n 0, 1) := by decide +kernel
theorem dX12_growth_8 : decode cX12_growth 8 = .ok (.aload_n 0, 1) := by decide +kernel
theorem dX12_growth_9 : decode cX12_growth 9 = .ok (.getfield 17, 3) := by decide +kernel
theorem dX12_growth_12 : decode cX12_growth 12 = .ok (.invokevirtual 199, 3) := by decide +kernel
theorem dX12_growth_15 : decode cX12_growth 15 = .ok (.aload_n 0, 1) := by decide +kernel
theorem dX12_growth_16 : decode cX12_growth 16 = .ok (.aload_n 0, 1) := by decide +kernel
theorem dX12_growth_17 : decode cX12_growth 17 = .ok (.getfield 20, 3) := by decide +kernel
theorem dX12_growth_20 : decode cX12_growth 20 = .ok (.invokevirtual 199, 3) := by decide +kernel
theorem dX12_growth_23 : decode cX12_growth 23 = .ok (.iadd, 1) := by decide +kernel
theorem dX12_growth_24 : decode cX12_growth 24 = .ok (.goto 4, 3) := by decide +kernel
theorem dX12_growth_27 : decode cX12_growth 27 = .ok (.iconst 0, 1) := by decide +kernel
theorem dX12_growth_28 : decode cX12_growth 28 = .ok (.iconst 2, 1) := by decide +kernel
theorem dX12_growth_29 : decode cX12_growth 29 = .ok (.isub, 1) := by decide +kernel
theorem dX12_growth_30 : decode cX12_growth 30 = .ok (.ireturn, 1) := by decide +kernel
theorem dX12_pass_0 : decode cX12_pass 0 = .ok (.aload_n 0, 1) := by decide +kernel
theorem dX12_pass_1 : decode cX12_pass 1 = .ok (.aload_n 0, 1) := by decide +kernel
theorem dX12_pass_2 : decode cX12_pass 2 = .ok (.getfield 13, 3) := by decide +kernel
theorem dX12_pass_5 : decode cX12_pass 5 = .ok (.aload_n 0, 1) := by decide +kernel
theorem dX12_pass_6 : decode cX12_pass 6 = .ok (.invokevirtual 202, 3) := by decide +kernel
theorem dX12_pass_9 : decode cX12_pass 9 = .ok (.iadd, 1) := by decide +kernel
theorem dX12_pass_10 : decode cX12_pass 10 = .ok (.invokestatic 205, 3) := by decide +kernel
theorem dX12_pass_13 : decode cX12_pass 13 = .ok (.putfield 13, 3) := by decide +kernel
theorem dX12_pass_16 : decode cX12_pass 16 = .ok (.aload_n 0, 1) := by decide +kernel
theorem dX12_pass_17 : decode cX12_pass 17 = .ok (.dup, 1) := by decide +kernel
theorem dX12_pass_18 : decode cX12_pass 18 = .ok (.getfield 85, 3) := by decide +kernel
theorem dX12_pass_21 : decode cX12_pass 21 = .ok (.iconst 1, 1) := by decide +kernel
theorem dX12_pass_22 : decode cX12_pass 22 = .ok (.iadd, 1) := by decide +kernel
theorem dX12_pass_23 : decode cX12_pass 23 = .ok (.putfield 85, 3) := by decide +kernel
theorem dX12_pass_26 : decode cX12_pass 26 = .ok (.return_, 1) := by decide +kernel
theorem dX12_lifting_0 : decode cX12_lifting 0 = .ok (.aload_n 0, 1) := by decide +kernel
theorem dX12_lifting_1 : decode cX12_lifting 1 = .ok (.aload_n 0, 1) := by decide +kernel
theorem dX12_lifting_2 : decode cX12_lifting 2 = .ok (.getfield 17, 3) := by decide +kernel
theorem dX12_lifting_5 : decode cX12_lifting 5 = .ok (.iload_n 1, 1) := by decide +kernel
theorem dX12_lifting_6 : decode cX12_lifting 6 = .ok (.invokevirtual 208, 3) := by decide +kernel
theorem dX12_lifting_9 : decode cX12_lifting 9 = .ok (.ifCond .eq 7, 3) := by decide +kernel
theorem dX12_lifting_12 : decode cX12_lifting 12 = .ok (.iconst 1, 1) := by decide +kernel
theorem dX12_lifting_13 : decode cX12_lifting 13 = .ok (.goto 4, 3) := by decide +kernel
theorem dX12_lifting_16 : decode cX12_lifting 16 = .ok (.iconst 0, 1) := by decide +kernel
theorem dX12_lifting_17 : decode cX12_lifting 17 = .ok (.aload_n 0, 1) := by decide +kernel
theorem dX12_lifting_18 : decode cX12_lifting 18 = .ok (.aload_n 0, 1) := by decide +kernel
theorem dX12_lifting_19 : decode cX12_lifting 19 = .ok (.getfield 20, 3) := by decide +kernel
theorem dX12_lifting_22 : decode cX12_lifting 22 = .ok (.iload_n 1, 1) := by decide +kernel
theorem dX12_lifting_23 : decode cX12_lifting 23 = .ok (.invokevirtual 208, 3) := by decide +kernel
theorem dX12_lifting_26 : decode cX12_lifting 26 = .ok (.ifCond .eq 7, 3) := by decide +kernel
theorem dX12_lifting_29 : decode cX12_lifting 29 = .ok (.iconst 2, 1) := by decide +kernel
theorem dX12_lifting_30 : decode cX12_lifting 30 = .ok (.goto 4, 3) := by decide +kernel
theorem dX12_lifting_33 : decode cX12_lifting 33 = .ok (.iconst 0, 1) := by decide +kernel
theorem dX12_lifting_34 : decode cX12_lifting 34 = .ok (.ior, 1) := by decide +kernel
theorem dX12_lifting_35 : decode cX12_lifting 35 = .ok (.ireturn, 1) := by decide +kernel
theorem dX12_asks_0 : decode cX12_asks 0 = .ok (.aload_n 0, 1) := by decide +kernel
theorem dX12_asks_1 : decode cX12_asks 1 = .ok (.iload_n 1, 1) := by decide +kernel
theorem dX12_asks_2 : decode cX12_asks 2 = .ok (.invokevirtual 211, 3) := by decide +kernel
theorem dX12_asks_5 : decode cX12_asks 5 = .ok (.istore_n 2, 1) := by decide +kernel
theorem dX12_asks_6 : decode cX12_asks 6 = .ok (.aload_n 0, 1) := by decide +kernel
theorem dX12_asks_7 : decode cX12_asks 7 = .ok (.dup, 1) := by decide +kernel
theorem dX12_asks_8 : decode cX12_asks 8 = .ok (.getfield 88, 3) := by decide +kernel
theorem dX12_asks_11 : decode cX12_asks 11 = .ok (.iload_n 2, 1) := by decide +kernel
theorem dX12_asks_12 : decode cX12_asks 12 = .ok (.iconst 3, 1) := by decide +kernel
theorem dX12_asks_13 : decode cX12_asks 13 = .ok (.if_icmp .ne 9, 3) := by decide +kernel
theorem dX12_asks_16 : decode cX12_asks 16 = .ok (.iconst 1, 1) := by decide +kernel
theorem dX12_asks_17 : decode cX12_asks 17 = .ok (.iload_n 1, 1) := by decide +kernel
theorem dX12_asks_18 : decode cX12_asks 18 = .ok (.ishl, 1) := by decide +kernel
theorem dX12_asks_19 : decode cX12_asks 19 = .ok (.goto 4, 3) := by decide +kernel
theorem dX12_asks_22 : decode cX12_asks 22 = .ok (.iconst 0, 1) := by decide +kernel
theorem dX12_asks_23 : decode cX12_asks 23 = .ok (.ior, 1) := by decide +kernel
theorem dX12_asks_24 : decode cX12_asks 24 = .ok (.putfield 88, 3) := by decide +kernel
theorem dX12_asks_27 : decode cX12_asks 27 = .ok (.aload_n 0, 1) := by decide +kernel
theorem dX12_asks_28 : decode cX12_asks 28 = .ok (.aload_n 0, 1) := by decide +kernel
theorem dX12_asks_29 : decode cX12_asks 29 = .ok (.getfield 13, 3) := by decide +kernel
theorem dX12_asks_32 : decode cX12_asks 32 = .ok (.iload_n 2, 1) := by decide +kernel
theorem dX12_asks_33 : decode cX12_asks 33 = .ok (.iconst 3, 1) := by decide +kernel
theorem dX12_asks_34 : decode cX12_asks 34 = .ok (.if_icmp .ne 8, 3) := by decide +kernel
theorem dX12_asks_37 : decode cX12_asks 37 = .ok (.bipush (-2), 2) := by decide +kernel
theorem dX12_asks_39 : decode cX12_asks 39 = .ok (.goto 12, 3) := by decide +kernel
theorem dX12_asks_42 : decode cX12_asks 42 = .ok (.iload_n 2, 1) := by decide +kernel
theorem dX12_asks_43 : decode cX12_asks 43 = .ok (.ifCond .ne 7, 3) := by decide +kernel
theorem dX12_asks_46 : decode cX12_asks 46 = .ok (.iconst 1, 1) := by decide +kernel
theorem dX12_asks_47 : decode cX12_asks 47 = .ok (.goto 4, 3) := by decide +kernel
theorem dX12_asks_50 : decode cX12_asks 50 = .ok (.iconst 5, 1) := by decide +kernel
theorem dX12_asks_51 : decode cX12_asks 51 = .ok (.iadd, 1) := by decide +kernel
theorem dX12_asks_52 : decode cX12_asks 52 = .ok (.invokestatic 205, 3) := by decide +kernel
theorem dX12_asks_55 : decode cX12_asks 55 = .ok (.putfield 13, 3) := by decide +kernel
theorem dX12_asks_58 : decode cX12_asks 58 = .ok (.iload_n 2, 1) := by decide +kernel
theorem dX12_asks_59 : decode cX12_asks 59 = .ok (.ireturn, 1) := by decide +kernel
theorem dX12_lays_0 : decode cX12_lays 0 = .ok (.aload_n 1, 1) := by decide +kernel
theorem dX12_lays_1 : decode cX12_lays 1 = .ok (.iload_n 2, 1) := by decide +kernel
theorem dX12_lays_2 : decode cX12_lays 2 = .ok (.aload_n 0, 1) := by decide +kernel
theorem dX12_lays_3 : decode cX12_lays 3 = .ok (.getfield 13, 3) := by decide +kernel
theorem dX12_lays_6 : decode cX12_lays 6 = .ok (.iastore, 1) := by decide +kernel
theorem dX12_lays_7 : decode cX12_lays 7 = .ok (.aload_n 1, 1) := by decide +kernel
theorem dX12_lays_8 : decode cX12_lays 8 = .ok (.iload_n 2, 1) := by decide +kernel
theorem dX12_lays_9 : decode cX12_lays 9 = .ok (.iconst 1, 1) := by decide +kernel
theorem dX12_lays_10 : decode cX12_lays 10 = .ok (.iadd, 1) := by decide +kernel
theorem dX12_lays_11 : decode cX12_lays 11 = .ok (.aload_n 0, 1) := by decide +kernel
theorem dX12_lays_12 : decode cX12_lays 12 = .ok (.getfield 85, 3) := by decide +kernel
theorem dX12_lays_15 : decode cX12_lays 15 = .ok (.iastore, 1) := by decide +kernel
theorem dX12_lays_16 : decode cX12_lays 16 = .ok (.aload_n 1, 1) := by decide +kernel
theorem dX12_lays_17 : decode cX12_lays 17 = .ok (.iload_n 2, 1) := by decide +kernel
theorem dX12_lays_18 : decode cX12_lays 18 = .ok (.iconst 2, 1) := by decide +kernel
theorem dX12_lays_19 : decode cX12_lays 19 = .ok (.iadd, 1) := by decide +kernel
theorem dX12_lays_20 : decode cX12_lays 20 = .ok (.aload_n 0, 1) := by decide +kernel
theorem dX12_lays_21 : decode cX12_lays 21 = .ok (.getfield 88, 3) := by decide +kernel
theorem dX12_lays_24 : decode cX12_lays 24 = .ok (.iastore, 1) := by decide +kernel
theorem dX12_lays_25 : decode cX12_lays 25 = .ok (.aload_n 1, 1) := by decide +kernel
theorem dX12_lays_26 : decode cX12_lays 26 = .ok (.iload_n 2, 1) := by decide +kernel
theorem dX12_lays_27 : decode cX12_lays 27 = .ok (.iconst 3, 1) := by decide +kernel
theorem dX12_lays_28 : decode cX12_lays 28 = .ok (.iadd, 1) := by decide +kernel
theorem dX12_lays_29 : decode cX12_lays 29 = .ok (.aload_n 0, 1) := by decide +kernel
theorem dX12_lays_30 : decode cX12_lays 30 = .ok (.getfield 17, 3) := by decide +kernel
theorem dX12_lays_33 : decode cX12_lays 33 = .ok (.iastore, 1) := by decide +kernel
theorem dX12_lays_34 : decode cX12_lays 34 = .ok (.aload_n 1, 1) := by decide +kernel
theorem dX12_lays_35 : decode cX12_lays 35 = .ok (.iload_n 2, 1) := by decide +kernel
theorem dX12_lays_36 : decode cX12_lays 36 = .ok (.iconst 4, 1) := by decide +kernel
theorem dX12_lays_37 : decode cX12_lays 37 = .ok (.iadd, 1) := by decide +kernel
theorem dX12_lays_38 : decode cX12_lays 38 = .ok (.aload_n 0, 1) := by decide +kernel
theorem dX12_lays_39 : decode cX12_lays 39 = .ok (.getfield 20, 3) := by decide +kernel
theorem dX12_lays_42 : decode cX12_lays 42 = .ok (.iastore, 1) := by decide +kernel
theorem dX12_lays_43 : decode cX12_lays 43 = .ok (.return_, 1) := by decide +kernel
theorem dX12_takes_0 : decode cX12_takes 0 = .ok (.aload_n 0, 1) := by decide +kernel
theorem dX12_takes_1 : decode cX12_takes 1 = .ok (.aload_n 1, 1) := by decide +kernel
theorem dX12_takes_2 : decode cX12_takes 2 = .ok (.iload_n 2, 1) := by decide +kernel
theorem dX12_takes_3 : decode cX12_takes 3 = .ok (.iaload, 1) := by decide +kernel
theorem dX12_takes_4 : decode cX12_takes 4 = .ok (.putfield 13, 3) := by decide +kernel
theorem dX12_takes_7 : decode cX12_takes 7 = .ok (.aload_n 0, 1) := by decide +kernel
theorem dX12_takes_8 : decode cX12_takes 8 = .ok (.aload_n 1, 1) := by decide +kernel
theorem dX12_takes_9 : decode cX12_takes 9 = .ok (.iload_n 2, 1) := by decide +kernel
theorem dX12_takes_10 : decode cX12_takes 10 = .ok (.iconst 1, 1) := by decide +kernel
theorem dX12_takes_11 : decode cX12_takes 11 = .ok (.iadd, 1) := by decide +kernel
theorem dX12_takes_12 : decode cX12_takes 12 = .ok (.iaload, 1) := by decide +kernel
theorem dX12_takes_13 : decode cX12_takes 13 = .ok (.putfield 85, 3) := by decide +kernel
theorem dX12_takes_16 : decode cX12_takes 16 = .ok (.aload_n 0, 1) := by decide +kernel
theorem dX12_takes_17 : decode cX12_takes 17 = .ok (.aload_n 1, 1) := by decide +kernel
theorem dX12_takes_18 : decode cX12_takes 18 = .ok (.iload_n 2, 1) := by decide +kernel
theorem dX12_takes_19 : decode cX12_takes 19 = .ok (.iconst 2, 1) := by decide +kernel
theorem dX12_takes_20 : decode cX12_takes 20 = .ok (.iadd, 1) := by decide +kernel
theorem dX12_takes_21 : decode cX12_takes 21 = .ok (.iaload, 1) := by decide +kernel
theorem dX12_takes_22 : decode cX12_takes 22 = .ok (.putfield 88, 3) := by decide +kernel
theorem dX12_takes_25 : decode cX12_takes 25 = .ok (.aload_n 0, 1) := by decide +kernel
theorem dX12_takes_26 : decode cX12_takes 26 = .ok (.aload_n 1, 1) := by decide +kernel
theorem dX12_takes_27 : decode cX12_takes 27 = .ok (.iload_n 2, 1) := by decide +kernel
theorem dX12_takes_28 : decode cX12_takes 28 = .ok (.iconst 3, 1) := by decide +kernel
theorem dX12_takes_29 : decode cX12_takes 29 = .ok (.iadd, 1) := by decide +kernel
theorem dX12_takes_30 : decode cX12_takes 30 = .ok (.iaload, 1) := by decide +kernel
theorem dX12_takes_31 : decode cX12_takes 31 = .ok (.putfield 17, 3) := by decide +kernel
theorem dX12_takes_34 : decode cX12_takes 34 = .ok (.aload_n 0, 1) := by decide +kernel
theorem dX12_takes_35 : decode cX12_takes 35 = .ok (.aload_n 1, 1) := by decide +kernel
theorem dX12_takes_36 : decode cX12_takes 36 = .ok (.iload_n 2, 1) := by decide +kernel
theorem dX12_takes_37 : decode cX12_takes 37 = .ok (.iconst 4, 1) := by decide +kernel
theorem dX12_takes_38 : decode cX12_takes 38 = .ok (.iadd, 1) := by decide +kernel
theorem dX12_takes_39 : decode cX12_takes 39 = .ok (.iaload, 1) := by decide +kernel
theorem dX12_takes_40 : decode cX12_takes 40 = .ok (.putfield 20, 3) := by decide +kernel
theorem dX12_takes_43 : decode cX12_takes 43 = .ok (.return_, 1) := by decide +kernel
theorem dX12_notes_0 : decode cX12_notes 0 = .ok (.aload_n 0, 1) := by decide +kernel
theorem dX12_notes_1 : decode cX12_notes 1 = .ok (.getfield 94, 3) := by decide +kernel
theorem dX12_notes_4 : decode cX12_notes 4 = .ok (.bipush 8, 2) := by decide +kernel
theorem dX12_notes_6 : decode cX12_notes 6 = .ok (.if_icmp .ne 41, 3) := by decide +kernel
theorem dX12_notes_9 : decode cX12_notes 9 = .ok (.iconst 0, 1) := by decide +kernel
theorem dX12_notes_10 : decode cX12_notes 10 = .ok (.istore_n 1, 1) := by decide +kernel
theorem dX12_notes_11 : decode cX12_notes 11 = .ok (.iload_n 1, 1) := by decide +kernel
theorem dX12_notes_12 : decode cX12_notes 12 = .ok (.bipush 35, 2) := by decide +kernel
theorem dX12_notes_14 : decode cX12_notes 14 = .ok (.if_icmp .ge 23, 3) := by decide +kernel
theorem dX12_notes_17 : decode cX12_notes 17 = .ok (.aload_n 0, 1) := by decide +kernel
theorem dX12_notes_18 : decode cX12_notes 18 = .ok (.getfield 56, 3) := by decide +kernel
theorem dX12_notes_21 : decode cX12_notes 21 = .ok (.iload_n 1, 1) := by decide +kernel
theorem dX12_notes_22 : decode cX12_notes 22 = .ok (.aload_n 0, 1) := by decide +kernel
theorem dX12_notes_23 : decode cX12_notes 23 = .ok (.getfield 56, 3) := by decide +kernel
theorem dX12_notes_26 : decode cX12_notes 26 = .ok (.iload_n 1, 1) := by decide +kernel
theorem dX12_notes_27 : decode cX12_notes 27 = .ok (.iconst 5, 1) := by decide +kernel
theorem dX12_notes_28 : decode cX12_notes 28 = .ok (.iadd, 1) := by decide +kernel
theorem dX12_notes_29 : decode cX12_notes 29 = .ok (.iaload, 1) := by decide +kernel
theorem dX12_notes_30 : decode cX12_notes 30 = .ok (.iastore, 1) := by decide +kernel
theorem dX12_notes_31 : decode cX12_notes 31 = .ok (.iinc 1 1, 3) := by decide +kernel
theorem dX12_notes_34 : decode cX12_notes 34 = .ok (.goto (-23), 3) := by decide +kernel
theorem dX12_notes_37 : decode cX12_notes 37 = .ok (.aload_n 0, 1) := by decide +kernel
theorem dX12_notes_38 : decode cX12_notes 38 = .ok (.dup, 1) := by decide +kernel
theorem dX12_notes_39 : decode cX12_notes 39 = .ok (.getfield 94, 3) := by decide +kernel
theorem dX12_notes_42 : decode cX12_notes 42 = .ok (.iconst 1, 1) := by decide +kernel
theorem dX12_notes_43 : decode cX12_notes 43 = .ok (.isub, 1) := by decide +kernel
theorem dX12_notes_44 : decode cX12_notes 44 = .ok (.putfield 94, 3) := by decide +kernel
theorem dX12_notes_47 : decode cX12_notes 47 = .ok (.aload_n 0, 1) := by decide +kernel
theorem dX12_notes_48 : decode cX12_notes 48 = .ok (.aload_n 0, 1) := by decide +kernel
theorem dX12_notes_49 : decode cX12_notes 49 = .ok (.getfield 56, 3) := by decide +kernel
theorem dX12_notes_52 : decode cX12_notes 52 = .ok (.iconst 5, 1) := by decide +kernel
theorem dX12_notes_53 : decode cX12_notes 53 = .ok (.aload_n 0, 1) := by decide +kernel
theorem dX12_notes_54 : decode cX12_notes 54 = .ok (.getfield 94, 3) := by decide +kernel
theorem dX12_notes_57 : decode cX12_notes 57 = .ok (.imul, 1) := by decide +kernel
theorem dX12_notes_58 : decode cX12_notes 58 = .ok (.invokevirtual 214, 3) := by decide +kernel
theorem dX12_notes_61 : decode cX12_notes 61 = .ok (.aload_n 0, 1) := by decide +kernel
theorem dX12_notes_62 : decode cX12_notes 62 = .ok (.dup, 1) := by decide +kernel
theorem dX12_notes_63 : decode cX12_notes 63 = .ok (.getfield 94, 3) := by decide +kernel
theorem dX12_notes_66 : decode cX12_notes 66 = .ok (.iconst 1, 1) := by decide +kernel
theorem dX12_notes_67 : decode cX12_notes 67 = .ok (.iadd, 1) := by decide +kernel
theorem dX12_notes_68 : decode cX12_notes 68 = .ok (.putfield 94, 3) := by decide +kernel
theorem dX12_notes_71 : decode cX12_notes 71 = .ok (.return_, 1) := by decide +kernel
theorem dX12_puts_0 : decode cX12_puts 0 = .ok (.aload_n 0, 1) := by decide +kernel
theorem dX12_puts_1 : decode cX12_puts 1 = .ok (.aload_n 0, 1) := by decide +kernel
theorem dX12_puts_2 : decode cX12_puts 2 = .ok (.getfield 59, 3) := by decide +kernel
theorem dX12_puts_5 : decode cX12_puts 5 = .ok (.iconst 0, 1) := by decide +kernel
theorem dX12_puts_6 : decode cX12_puts 6 = .ok (.invokevirtual 214, 3) := by decide +kernel
theorem dX12_puts_9 : decode cX12_puts 9 = .ok (.return_, 1) := by decide +kernel
theorem dX12_back_0 : decode cX12_back 0 = .ok (.aload_n 0, 1) := by decide +kernel
theorem dX12_back_1 : decode cX12_back 1 = .ok (.aload_n 0, 1) := by decide +kernel
theorem dX12_back_2 : decode cX12_back 2 = .ok (.getfield 59, 3) := by decide +kernel
theorem dX12_back_5 : decode cX12_back 5 = .ok (.iconst 0, 1) := by decide +kernel
theorem dX12_back_6 : decode cX12_back 6 = .ok (.invokevirtual 218, 3) := by decide +kernel
theorem dX12_back_9 : decode cX12_back 9 = .ok (.return_, 1) := by decide +kernel
theorem dX12_pair_0 : decode cX12_pair 0 = .ok (.aload_n 0, 1) := by decide +kernel
theorem dX12_pair_1 : decode cX12_pair 1 = .ok (.iload_n 1, 1) := by decide +kernel
theorem dX12_pair_2 : decode cX12_pair 2 = .ok (.invokevirtual 221, 3) := by decide +kernel
theorem dX12_pair_5 : decode cX12_pair 5 = .ok (.ifCond .eq 16, 3) := by decide +kernel
theorem dX12_pair_8 : decode cX12_pair 8 = .ok (.aload_n 0, 1) := by decide +kernel
theorem dX12_pair_9 : decode cX12_pair 9 = .ok (.iload_n 2, 1) := by decide +kernel
theorem dX12_pair_10 : decode cX12_pair 10 = .ok (.invokevirtual 221, 3) := by decide +kernel
theorem dX12_pair_13 : decode cX12_pair 13 = .ok (.ifCond .eq 8, 3) := by decide +kernel
theorem dX12_pair_16 : decode cX12_pair 16 = .ok (.iload_n 1, 1) := by decide +kernel
theorem dX12_pair_17 : decode cX12_pair 17 = .ok (.iload_n 2, 1) := by decide +kernel
theorem dX12_pair_18 : decode cX12_pair 18 = .ok (.if_icmp .ne 8, 3) := by decide +kernel
theorem dX12_pair_21 : decode cX12_pair 21 = .ok (.aload_n 0, 1) := by decide +kernel
theorem dX12_pair_22 : decode cX12_pair 22 = .ok (.invokevirtual 101, 3) := by decide +kernel
theorem dX12_pair_25 : decode cX12_pair 25 = .ok (.ireturn, 1) := by decide +kernel
theorem dX12_pair_26 : decode cX12_pair 26 = .ok (.aload_n 0, 1) := by decide +kernel
theorem dX12_pair_27 : decode cX12_pair 27 = .ok (.invokevirtual 224, 3) := by decide +kernel
theorem dX12_pair_30 : decode cX12_pair 30 = .ok (.aload_n 0, 1) := by decide +kernel
theorem dX12_pair_31 : decode cX12_pair 31 = .ok (.iload_n 1, 1) := by decide +kernel
theorem dX12_pair_32 : decode cX12_pair 32 = .ok (.putfield 17, 3) := by decide +kernel
theorem dX12_pair_35 : decode cX12_pair 35 = .ok (.aload_n 0, 1) := by decide +kernel
theorem dX12_pair_36 : decode cX12_pair 36 = .ok (.iload_n 2, 1) := by decide +kernel
theorem dX12_pair_37 : decode cX12_pair 37 = .ok (.putfield 20, 3) := by decide +kernel
theorem dX12_pair_40 : decode cX12_pair 40 = .ok (.iconst 1, 1) := by decide +kernel
theorem dX12_pair_41 : decode cX12_pair 41 = .ok (.ireturn, 1) := by decide +kernel
theorem dX12_ask_0 : decode cX12_ask 0 = .ok (.iload_n 1, 1) := by decide +kernel
theorem dX12_ask_1 : decode cX12_ask 1 = .ok (.invokestatic 227, 3) := by decide +kernel
theorem dX12_ask_4 : decode cX12_ask 4 = .ok (.ifCond .ne 8, 3) := by decide +kernel
theorem dX12_ask_7 : decode cX12_ask 7 = .ok (.aload_n 0, 1) := by decide +kernel
theorem dX12_ask_8 : decode cX12_ask 8 = .ok (.invokevirtual 101, 3) := by decide +kernel
theorem dX12_ask_11 : decode cX12_ask 11 = .ok (.ireturn, 1) := by decide +kernel
theorem dX12_ask_12 : decode cX12_ask 12 = .ok (.aload_n 0, 1) := by decide +kernel
theorem dX12_ask_13 : decode cX12_ask 13 = .ok (.invokevirtual 196, 3) := by decide +kernel
theorem dX12_ask_16 : decode cX12_ask 16 = .ok (.ifCond .eq 14, 3) := by decide +kernel
theorem dX12_ask_19 : decode cX12_ask 19 = .ok (.aload_n 0, 1) := by decide +kernel
theorem dX12_ask_20 : decode cX12_ask 20 = .ok (.getfield 88, 3) := by decide +kernel
theorem dX12_ask_23 : decode cX12_ask 23 = .ok (.iload_n 1, 1) := by decide +kernel
theorem dX12_ask_24 : decode cX12_ask 24 = .ok (.invokestatic 186, 3) := by decide +kernel
theorem dX12_ask_27 : decode cX12_ask 27 = .ok (.ifCond .eq 8, 3) := by decide +kernel
theorem dX12_ask_30 : decode cX12_ask 30 = .ok (.aload_n 0, 1) := by decide +kernel
theorem dX12_ask_31 : decode cX12_ask 31 = .ok (.invokevirtual 230, 3) := by decide +kernel
theorem dX12_ask_34 : decode cX12_ask 34 = .ok (.ireturn, 1) := by decide +kernel
theorem dX12_ask_35 : decode cX12_ask 35 = .ok (.aload_n 0, 1) := by decide +kernel
theorem dX12_ask_36 : decode cX12_ask 36 = .ok (.invokevirtual 224, 3) := by decide +kernel
theorem dX12_ask_39 : decode cX12_ask 39 = .ok (.aload_n 0, 1) := by decide +kernel
theorem dX12_ask_40 : decode cX12_ask 40 = .ok (.iload_n 1, 1) := by decide +kernel
theorem dX12_ask_41 : decode cX12_ask 41 = .ok (.invokevirtual 233, 3) := by decide +kernel
theorem dX12_ask_44 : decode cX12_ask 44 = .ok (.ireturn, 1) := by decide +kernel
theorem dX12_day_0 : decode cX12_day 0 = .ok (.iload_n 1, 1) := by decide +kernel
theorem dX12_day_1 : decode cX12_day 1 = .ok (.iconst 1, 1) := by decide +kernel
theorem dX12_day_2 : decode cX12_day 2 = .ok (.bipush 60, 2) := by decide +kernel
theorem dX12_day_4 : decode cX12_day 4 = .ok (.invokestatic 97, 3) := by decide +kernel
theorem dX12_day_7 : decode cX12_day 7 = .ok (.ifCond .ne 8, 3) := by decide +kernel
theorem dX12_day_10 : decode cX12_day 10 = .ok (.aload_n 0, 1) := by decide +kernel
theorem dX12_day_11 : decode cX12_day 11 = .ok (.invokevirtual 101, 3) := by decide +kernel
theorem dX12_day_14 : decode cX12_day 14 = .ok (.ireturn, 1) := by decide +kernel
theorem dX12_day_15 : decode cX12_day 15 = .ok (.aload_n 0, 1) := by decide +kernel
theorem dX12_day_16 : decode cX12_day 16 = .ok (.invokevirtual 224, 3) := by decide +kernel
theorem dX12_day_19 : decode cX12_day 19 = .ok (.iconst 0, 1) := by decide +kernel
theorem dX12_day_20 : decode cX12_day 20 = .ok (.istore_n 2, 1) := by decide +kernel
theorem dX12_day_21 : decode cX12_day 21 = .ok (.iload_n 2, 1) := by decide +kernel
theorem dX12_day_22 : decode cX12_day 22 = .ok (.iload_n 1, 1) := by decide +kernel
theorem dX12_day_23 : decode cX12_day 23 = .ok (.if_icmp .ge 13, 3) := by decide +kernel
theorem dX12_day_26 : decode cX12_day 26 = .ok (.aload_n 0, 1) := by decide +kernel
theorem dX12_day_27 : decode cX12_day 27 = .ok (.invokevirtual 236, 3) := by decide +kernel
theorem dX12_day_30 : decode cX12_day 30 = .ok (.iinc 2 1, 3) := by decide +kernel
theorem dX12_day_33 : decode cX12_day 33 = .ok (.goto (-12), 3) := by decide +kernel
theorem dX12_day_36 : decode cX12_day 36 = .ok (.aload_n 0, 1) := by decide +kernel
theorem dX12_day_37 : decode cX12_day 37 = .ok (.getfield 13, 3) := by decide +kernel
theorem dX12_day_40 : decode cX12_day 40 = .ok (.ireturn, 1) := by decide +kernel
theorem dX12_feed_0 : decode cX12_feed 0 = .ok (.iload_n 1, 1) := by decide +kernel
theorem dX12_feed_1 : decode cX12_feed 1 = .ok (.iconst 1, 1) := by decide +kernel
theorem dX12_feed_2 : decode cX12_feed 2 = .ok (.bipush 20, 2) := by decide +kernel
theorem dX12_feed_4 : decode cX12_feed 4 = .ok (.invokestatic 97, 3) := by decide +kernel
theorem dX12_feed_7 : decode cX12_feed 7 = .ok (.ifCond .ne 8, 3) := by decide +kernel
theorem dX12_feed_10 : decode cX12_feed 10 = .ok (.aload_n 0, 1) := by decide +kernel
theorem dX12_feed_11 : decode cX12_feed 11 = .ok (.invokevirtual 101, 3) := by decide +kernel
theorem dX12_feed_14 : decode cX12_feed 14 = .ok (.ireturn, 1) := by decide +kernel
theorem dX12_feed_15 : decode cX12_feed 15 = .ok (.aload_n 0, 1) := by decide +kernel
theorem dX12_feed_16 : decode cX12_feed 16 = .ok (.invokevirtual 224, 3) := by decide +kernel
theorem dX12_feed_19 : decode cX12_feed 19 = .ok (.aload_n 0, 1) := by decide +kernel
theorem dX12_feed_20 : decode cX12_feed 20 = .ok (.aload_n 0, 1) := by decide +kernel
theorem dX12_feed_21 : decode cX12_feed 21 = .ok (.getfield 13, 3) := by decide +kernel
theorem dX12_feed_24 : decode cX12_feed 24 = .ok (.iload_n 1, 1) := by decide +kernel
theorem dX12_feed_25 : decode cX12_feed 25 = .ok (.iadd, 1) := by decide +kernel
theorem dX12_feed_26 : decode cX12_feed 26 = .ok (.invokestatic 205, 3) := by decide +kernel
theorem dX12_feed_29 : decode cX12_feed 29 = .ok (.putfield 13, 3) := by decide +kernel
theorem dX12_feed_32 : decode cX12_feed 32 = .ok (.aload_n 0, 1) := by decide +kernel
theorem dX12_feed_33 : decode cX12_feed 33 = .ok (.getfield 13, 3) := by decide +kernel
theorem dX12_feed_36 : decode cX12_feed 36 = .ok (.ireturn, 1) := by decide +kernel
theorem dX12_undo_0 : decode cX12_undo 0 = .ok (.aload_n 0, 1) := by decide +kernel
theorem dX12_undo_1 : decode cX12_undo 1 = .ok (.getfield 94, 3) := by decide +kernel
theorem dX12_undo_4 : decode cX12_undo 4 = .ok (.ifCond .ne 8, 3) := by decide +kernel
theorem dX12_undo_7 : decode cX12_undo 7 = .ok (.aload_n 0, 1) := by decide +kernel
theorem dX12_undo_8 : decode cX12_undo 8 = .ok (.invokevirtual 230, 3) := by decide +kernel
theorem dX12_undo_11 : decode cX12_undo 11 = .ok (.ireturn, 1) := by decide +kernel
theorem dX12_undo_12 : decode cX12_undo 12 = .ok (.aload_n 0, 1) := by decide +kernel
theorem dX12_undo_13 : decode cX12_undo 13 = .ok (.dup, 1) := by decide +kernel
theorem dX12_undo_14 : decode cX12_undo 14 = .ok (.getfield 94, 3) := by decide +kernel
theorem dX12_undo_17 : decode cX12_undo 17 = .ok (.iconst 1, 1) := by decide +kernel
theorem dX12_undo_18 : decode cX12_undo 18 = .ok (.isub, 1) := by decide +kernel
theorem dX12_undo_19 : decode cX12_undo 19 = .ok (.putfield 94, 3) := by decide +kernel
theorem dX12_undo_22 : decode cX12_undo 22 = .ok (.aload_n 0, 1) := by decide +kernel
theorem dX12_undo_23 : decode cX12_undo 23 = .ok (.aload_n 0, 1) := by decide +kernel
theorem dX12_undo_24 : decode cX12_undo 24 = .ok (.getfield 56, 3) := by decide +kernel
theorem dX12_undo_27 : decode cX12_undo 27 = .ok (.iconst 5, 1) := by decide +kernel
theorem dX12_undo_28 : decode cX12_undo 28 = .ok (.aload_n 0, 1) := by decide +kernel
theorem dX12_undo_29 : decode cX12_undo 29 = .ok (.getfield 94, 3) := by decide +kernel
theorem dX12_undo_32 : decode cX12_undo 32 = .ok (.imul, 1) := by decide +kernel
theorem dX12_undo_33 : decode cX12_undo 33 = .ok (.invokevirtual 218, 3) := by decide +kernel
theorem dX12_undo_36 : decode cX12_undo 36 = .ok (.aload_n 0, 1) := by decide +kernel
theorem dX12_undo_37 : decode cX12_undo 37 = .ok (.getfield 85, 3) := by decide +kernel
theorem dX12_undo_40 : decode cX12_undo 40 = .ok (.ireturn, 1) := by decide +kernel
theorem dX12_of_0 : decode cX12_of 0 = .ok (.aload_n 0, 1) := by decide +kernel
theorem dX12_of_1 : decode cX12_of 1 = .ok (.iload_n 1, 1) := by decide +kernel
theorem dX12_of_2 : decode cX12_of 2 = .ok (.invokevirtual 221, 3) := by decide +kernel
theorem dX12_of_5 : decode cX12_of 5 = .ok (.ifCond .eq 12, 3) := by decide +kernel
theorem dX12_of_8 : decode cX12_of 8 = .ok (.iload_n 2, 1) := by decide +kernel
theorem dX12_of_9 : decode cX12_of 9 = .ok (.iconst 0, 1) := by decide +kernel
theorem dX12_of_10 : decode cX12_of 10 = .ok (.iconst 4, 1) := by decide +kernel
theorem dX12_of_11 : decode cX12_of 11 = .ok (.invokestatic 97, 3) := by decide +kernel
theorem dX12_of_14 : decode cX12_of 14 = .ok (.ifCond .ne 8, 3) := by decide +kernel
theorem dX12_of_17 : decode cX12_of 17 = .ok (.aload_n 0, 1) := by decide +kernel
theorem dX12_of_18 : decode cX12_of 18 = .ok (.invokevirtual 101, 3) := by decide +kernel
theorem dX12_of_21 : decode cX12_of 21 = .ok (.ireturn, 1) := by decide +kernel
theorem dX12_of_22 : decode cX12_of 22 = .ok (.iload_n 2, 1) := by decide +kernel
theorem dX12_of_23 : decode cX12_of 23 = .ok (.tableswitch 57 0 3 #[29, 36, 43, 50], 29) := by decide +kernel
theorem dX12_of_52 : decode cX12_of 52 = .ok (.aload_n 0, 1) := by decide +kernel
theorem dX12_of_53 : decode cX12_of 53 = .ok (.getfield 23, 3) := by decide +kernel
theorem dX12_of_56 : decode cX12_of 56 = .ok (.iload_n 1, 1) := by decide +kernel
theorem dX12_of_57 : decode cX12_of 57 = .ok (.iaload, 1) := by decide +kernel
theorem dX12_of_58 : decode cX12_of 58 = .ok (.ireturn, 1) := by decide +kernel
theorem dX12_of_59 : decode cX12_of 59 = .ok (.aload_n 0, 1) := by decide +kernel
theorem dX12_of_60 : decode cX12_of 60 = .ok (.getfield 26, 3) := by decide +kernel
theorem dX12_of_63 : decode cX12_of 63 = .ok (.iload_n 1, 1) := by decide +kernel
theorem dX12_of_64 : decode cX12_of 64 = .ok (.iaload, 1) := by decide +kernel
theorem dX12_of_65 : decode cX12_of 65 = .ok (.ireturn, 1) := by decide +kernel
theorem dX12_of_66 : decode cX12_of 66 = .ok (.aload_n 0, 1) := by decide +kernel
theorem dX12_of_67 : decode cX12_of 67 = .ok (.getfield 29, 3) := by decide +kernel
theorem dX12_of_70 : decode cX12_of 70 = .ok (.iload_n 1, 1) := by decide +kernel
theorem dX12_of_71 : decode cX12_of 71 = .ok (.iaload, 1) := by decide +kernel
theorem dX12_of_72 : decode cX12_of 72 = .ok (.ireturn, 1) := by decide +kernel
theorem dX12_of_73 : decode cX12_of 73 = .ok (.aload_n 0, 1) := by decide +kernel
theorem dX12_of_74 : decode cX12_of 74 = .ok (.getfield 32, 3) := by decide +kernel
theorem dX12_of_77 : decode cX12_of 77 = .ok (.iload_n 1, 1) := by decide +kernel
theorem dX12_of_78 : decode cX12_of 78 = .ok (.iaload, 1) := by decide +kernel
theorem dX12_of_79 : decode cX12_of 79 = .ok (.ireturn, 1) := by decide +kernel
theorem dX12_of_80 : decode cX12_of 80 = .ok (.iload_n 1, 1) := by decide +kernel
theorem dX12_of_81 : decode cX12_of 81 = .ok (.aload_n 0, 1) := by decide +kernel
theorem dX12_of_82 : decode cX12_of 82 = .ok (.getfield 17, 3) := by decide +kernel
theorem dX12_of_85 : decode cX12_of 85 = .ok (.if_icmp .ne 7, 3) := by decide +kernel
theorem dX12_of_88 : decode cX12_of 88 = .ok (.iconst 1, 1) := by decide +kernel
theorem dX12_of_89 : decode cX12_of 89 = .ok (.goto 16, 3) := by decide +kernel
theorem dX12_of_92 : decode cX12_of 92 = .ok (.iload_n 1, 1) := by decide +kernel
theorem dX12_of_93 : decode cX12_of 93 = .ok (.aload_n 0, 1) := by decide +kernel
theorem dX12_of_94 : decode cX12_of 94 = .ok (.getfield 20, 3) := by decide +kernel
theorem dX12_of_97 : decode cX12_of 97 = .ok (.if_icmp .ne 7, 3) := by decide +kernel
theorem dX12_of_100 : decode cX12_of 100 = .ok (.iconst 2, 1) := by decide +kernel
theorem dX12_of_101 : decode cX12_of 101 = .ok (.goto 4, 3) := by decide +kernel
theorem dX12_of_104 : decode cX12_of 104 = .ok (.iconst 0, 1) := by decide +kernel
theorem dX12_of_105 : decode cX12_of 105 = .ok (.ireturn, 1) := by decide +kernel
theorem dX12_makes_0 : decode cX12_makes 0 = .ok (.aload_n 0, 1) := by decide +kernel
theorem dX12_makes_1 : decode cX12_makes 1 = .ok (.iload_n 1, 1) := by decide +kernel
theorem dX12_makes_2 : decode cX12_makes 2 = .ok (.invokevirtual 221, 3) := by decide +kernel
theorem dX12_makes_5 : decode cX12_makes 5 = .ok (.ifCond .ne 16, 3) := by decide +kernel
theorem dX12_makes_8 : decode cX12_makes 8 = .ok (.aload_n 0, 1) := by decide +kernel
theorem dX12_makes_9 : decode cX12_makes 9 = .ok (.getfield 1, 3) := by decide +kernel
theorem dX12_makes_12 : decode cX12_makes 12 = .ok (.iconst 0, 1) := by decide +kernel
theorem dX12_makes_13 : decode cX12_makes 13 = .ok (.dup2, 1) := by decide +kernel
theorem dX12_makes_14 : decode cX12_makes 14 = .ok (.iaload, 1) := by decide +kernel
theorem dX12_makes_15 : decode cX12_makes 15 = .ok (.iconst 1, 1) := by decide +kernel
theorem dX12_makes_16 : decode cX12_makes 16 = .ok (.iadd, 1) := by decide +kernel
theorem dX12_makes_17 : decode cX12_makes 17 = .ok (.iastore, 1) := by decide +kernel
theorem dX12_makes_18 : decode cX12_makes 18 = .ok (.bipush (-100), 2) := by decide +kernel
theorem dX12_makes_20 : decode cX12_makes 20 = .ok (.ireturn, 1) := by decide +kernel
theorem dX12_makes_21 : decode cX12_makes 21 = .ok (.aload_n 0, 1) := by decide +kernel
theorem dX12_makes_22 : decode cX12_makes 22 = .ok (.iload_n 1, 1) := by decide +kernel
theorem dX12_makes_23 : decode cX12_makes 23 = .ok (.invokevirtual 199, 3) := by decide +kernel
theorem dX12_makes_26 : decode cX12_makes 26 = .ok (.ireturn, 1) := by decide +kernel
theorem dX12_lift_0 : decode cX12_lift 0 = .ok (.iload_n 1, 1) := by decide +kernel
theorem dX12_lift_1 : decode cX12_lift 1 = .ok (.invokestatic 227, 3) := by decide +kernel
theorem dX12_lift_4 : decode cX12_lift 4 = .ok (.ifCond .ne 8, 3) := by decide +kernel
theorem dX12_lift_7 : decode cX12_lift 7 = .ok (.aload_n 0, 1) := by decide +kernel
theorem dX12_lift_8 : decode cX12_lift 8 = .ok (.invokevirtual 101, 3) := by decide +kernel
theorem dX12_lift_11 : decode cX12_lift 11 = .ok (.ireturn, 1) := by decide +kernel
theorem dX12_lift_12 : decode cX12_lift 12 = .ok (.aload_n 0, 1) := by decide +kernel
theorem dX12_lift_13 : decode cX12_lift 13 = .ok (.invokevirtual 196, 3) := by decide +kernel
theorem dX12_lift_16 : decode cX12_lift 16 = .ok (.ifCond .eq 11, 3) := by decide +kernel
theorem dX12_lift_19 : decode cX12_lift 19 = .ok (.aload_n 0, 1) := by decide +kernel
theorem dX12_lift_20 : decode cX12_lift 20 = .ok (.iload_n 1, 1) := by decide +kernel
theorem dX12_lift_21 : decode cX12_lift 21 = .ok (.invokevirtual 211, 3) := by decide +kernel
theorem dX12_lift_24 : decode cX12_lift 24 = .ok (.goto 7, 3) := by decide +kernel
theorem dX12_lift_27 : decode cX12_lift 27 = .ok (.aload_n 0, 1) := by decide +kernel
theorem dX12_lift_28 : decode cX12_lift 28 = .ok (.invokevirtual 230, 3) := by decide +kernel
theorem dX12_lift_31 : decode cX12_lift 31 = .ok (.ireturn, 1) := by decide +kernel
theorem dX12_bothSet_0 : decode cX12_bothSet 0 = .ok (.iconst 0, 1) := by decide +kernel
theorem dX12_bothSet_1 : decode cX12_bothSet 1 = .ok (.istore_n 1, 1) := by decide +kernel
theorem dX12_bothSet_2 : decode cX12_bothSet 2 = .ok (.iconst 0, 1) := by decide +kernel
theorem dX12_bothSet_3 : decode cX12_bothSet 3 = .ok (.istore_n 2, 1) := by decide +kernel
theorem dX12_bothSet_4 : decode cX12_bothSet 4 = .ok (.iload_n 2, 1) := by decide +kernel
theorem dX12_bothSet_5 : decode cX12_bothSet 5 = .ok (.bipush 8, 2) := by decide +kernel
theorem dX12_bothSet_7 : decode cX12_bothSet 7 = .ok (.if_icmp .ge 28, 3) := by decide +kernel
theorem dX12_bothSet_10 : decode cX12_bothSet 10 = .ok (.iload_n 1, 1) := by decide +kernel
theorem dX12_bothSet_11 : decode cX12_bothSet 11 = .ok (.aload_n 0, 1) := by decide +kernel
theorem dX12_bothSet_12 : decode cX12_bothSet 12 = .ok (.iload_n 2, 1) := by decide +kernel
theorem dX12_bothSet_13 : decode cX12_bothSet 13 = .ok (.invokevirtual 211, 3) := by decide +kernel
theorem dX12_bothSet_16 : decode cX12_bothSet 16 = .ok (.iconst 3, 1) := by decide +kernel
theorem dX12_bothSet_17 : decode cX12_bothSet 17 = .ok (.if_icmp .ne 9, 3) := by decide +kernel
theorem dX12_bothSet_20 : decode cX12_bothSet 20 = .ok (.iconst 1, 1) := by decide +kernel
theorem dX12_bothSet_21 : decode cX12_bothSet 21 = .ok (.iload_n 2, 1) := by decide +kernel
theorem dX12_bothSet_22 : decode cX12_bothSet 22 = .ok (.ishl, 1) := by decide +kernel
theorem dX12_bothSet_23 : decode cX12_bothSet 23 = .ok (.goto 4, 3) := by decide +kernel
theorem dX12_bothSet_26 : decode cX12_bothSet 26 = .ok (.iconst 0, 1) := by decide +kernel
theorem dX12_bothSet_27 : decode cX12_bothSet 27 = .ok (.ior, 1) := by decide +kernel
theorem dX12_bothSet_28 : decode cX12_bothSet 28 = .ok (.istore_n 1, 1) := by decide +kernel
theorem dX12_bothSet_29 : decode cX12_bothSet 29 = .ok (.iinc 2 1, 3) := by decide +kernel
theorem dX12_bothSet_32 : decode cX12_bothSet 32 = .ok (.goto (-28), 3) := by decide +kernel
theorem dX12_bothSet_35 : decode cX12_bothSet 35 = .ok (.iload_n 1, 1) := by decide +kernel
theorem dX12_bothSet_36 : decode cX12_bothSet 36 = .ok (.ireturn, 1) := by decide +kernel
theorem dX12_both_0 : decode cX12_both 0 = .ok (.iload_n 1, 1) := by decide +kernel
theorem dX12_both_1 : decode cX12_both 1 = .ok (.iconst 0, 1) := by decide +kernel
theorem dX12_both_2 : decode cX12_both 2 = .ok (.bipush 60, 2) := by decide +kernel
theorem dX12_both_4 : decode cX12_both 4 = .ok (.invokestatic 97, 3) := by decide +kernel
theorem dX12_both_7 : decode cX12_both 7 = .ok (.ifCond .ne 8, 3) := by decide +kernel
theorem dX12_both_10 : decode cX12_both 10 = .ok (.aload_n 0, 1) := by decide +kernel
theorem dX12_both_11 : decode cX12_both 11 = .ok (.invokevirtual 101, 3) := by decide +kernel
theorem dX12_both_14 : decode cX12_both 14 = .ok (.ireturn, 1) := by decide +kernel
theorem dX12_both_15 : decode cX12_both 15 = .ok (.aload_n 0, 1) := by decide +kernel
theorem dX12_both_16 : decode cX12_both 16 = .ok (.invokevirtual 196, 3) := by decide +kernel
theorem dX12_both_19 : decode cX12_both 19 = .ok (.ifCond .ne 8, 3) := by decide +kernel
theorem dX12_both_22 : decode cX12_both 22 = .ok (.aload_n 0, 1) := by decide +kernel
theorem dX12_both_23 : decode cX12_both 23 = .ok (.invokevirtual 230, 3) := by decide +kernel
theorem dX12_both_26 : decode cX12_both 26 = .ok (.ireturn, 1) := by decide +kernel
theorem dX12_both_27 : decode cX12_both 27 = .ok (.aload_n 0, 1) := by decide +kernel
theorem dX12_both_28 : decode cX12_both 28 = .ok (.invokevirtual 239, 3) := by decide +kernel
theorem dX12_both_31 : decode cX12_both 31 = .ok (.iconst 0, 1) := by decide +kernel
theorem dX12_both_32 : decode cX12_both 32 = .ok (.istore_n 2, 1) := by decide +kernel
theorem dX12_both_33 : decode cX12_both 33 = .ok (.iload_n 2, 1) := by decide +kernel
theorem dX12_both_34 : decode cX12_both 34 = .ok (.iload_n 1, 1) := by decide +kernel
theorem dX12_both_35 : decode cX12_both 35 = .ok (.if_icmp .ge 13, 3) := by decide +kernel
theorem dX12_both_38 : decode cX12_both 38 = .ok (.aload_n 0, 1) := by decide +kernel
theorem dX12_both_39 : decode cX12_both 39 = .ok (.invokevirtual 236, 3) := by decide +kernel
theorem dX12_both_42 : decode cX12_both 42 = .ok (.iinc 2 1, 3) := by decide +kernel
theorem dX12_both_45 : decode cX12_both 45 = .ok (.goto (-12), 3) := by decide +kernel
theorem dX12_both_48 : decode cX12_both 48 = .ok (.aload_n 0, 1) := by decide +kernel
theorem dX12_both_49 : decode cX12_both 49 = .ok (.invokevirtual 242, 3) := by decide +kernel
theorem dX12_both_52 : decode cX12_both 52 = .ok (.istore_n 2, 1) := by decide +kernel
theorem dX12_both_53 : decode cX12_both 53 = .ok (.aload_n 0, 1) := by decide +kernel
theorem dX12_both_54 : decode cX12_both 54 = .ok (.invokevirtual 245, 3) := by decide +kernel
theorem dX12_both_57 : decode cX12_both 57 = .ok (.iload_n 2, 1) := by decide +kernel
theorem dX12_both_58 : decode cX12_both 58 = .ok (.ireturn, 1) := by decide +kernel
theorem dX12_daysTill_0 : decode cX12_daysTill 0 = .ok (.aload_n 0, 1) := by decide +kernel
theorem dX12_daysTill_1 : decode cX12_daysTill 1 = .ok (.invokevirtual 239, 3) := by decide +kernel
theorem dX12_daysTill_4 : decode cX12_daysTill 4 = .ok (.iconst 0, 1) := by decide +kernel
theorem dX12_daysTill_5 : decode cX12_daysTill 5 = .ok (.istore_n 1, 1) := by decide +kernel
theorem dX12_daysTill_6 : decode cX12_daysTill 6 = .ok (.iload_n 1, 1) := by decide +kernel
theorem dX12_daysTill_7 : decode cX12_daysTill 7 = .ok (.bipush 90, 2) := by decide +kernel
theorem dX12_daysTill_9 : decode cX12_daysTill 9 = .ok (.if_icmp .gt 22, 3) := by decide +kernel
theorem dX12_daysTill_12 : decode cX12_daysTill 12 = .ok (.aload_n 0, 1) := by decide +kernel
theorem dX12_daysTill_13 : decode cX12_daysTill 13 = .ok (.getfield 13, 3) := by decide +kernel
theorem dX12_daysTill_16 : decode cX12_daysTill 16 = .ok (.bipush 10, 2) := by decide +kernel
theorem dX12_daysTill_18 : decode cX12_daysTill 18 = .ok (.if_icmp .lt 13, 3) := by decide +kernel
theorem dX12_daysTill_21 : decode cX12_daysTill 21 = .ok (.aload_n 0, 1) := by decide +kernel
theorem dX12_daysTill_22 : decode cX12_daysTill 22 = .ok (.invokevirtual 236, 3) := by decide +kernel
theorem dX12_daysTill_25 : decode cX12_daysTill 25 = .ok (.iinc 1 1, 3) := by decide +kernel
theorem dX12_daysTill_28 : decode cX12_daysTill 28 = .ok (.goto (-22), 3) := by decide +kernel
theorem dX12_daysTill_31 : decode cX12_daysTill 31 = .ok (.aload_n 0, 1) := by decide +kernel
theorem dX12_daysTill_32 : decode cX12_daysTill 32 = .ok (.invokevirtual 245, 3) := by decide +kernel
theorem dX12_daysTill_35 : decode cX12_daysTill 35 = .ok (.iload_n 1, 1) := by decide +kernel
theorem dX12_daysTill_36 : decode cX12_daysTill 36 = .ok (.ireturn, 1) := by decide +kernel
theorem dX12_friends_0 : decode cX12_friends 0 = .ok (.aload_n 0, 1) := by decide +kernel
theorem dX12_friends_1 : decode cX12_friends 1 = .ok (.invokevirtual 248, 3) := by decide +kernel
theorem dX12_friends_4 : decode cX12_friends 4 = .ok (.istore_n 1, 1) := by decide +kernel
theorem dX12_friends_5 : decode cX12_friends 5 = .ok (.iload_n 1, 1) := by decide +kernel
theorem dX12_friends_6 : decode cX12_friends 6 = .ok (.bipush 90, 2) := by decide +kernel
theorem dX12_friends_8 : decode cX12_friends 8 = .ok (.if_icmp .le 7, 3) := by decide +kernel
theorem dX12_friends_11 : decode cX12_friends 11 = .ok (.iconst (-1), 1) := by decide +kernel
theorem dX12_friends_12 : decode cX12_friends 12 = .ok (.goto 4, 3) := by decide +kernel
theorem dX12_friends_15 : decode cX12_friends 15 = .ok (.iload_n 1, 1) := by decide +kernel
theorem dX12_friends_16 : decode cX12_friends 16 = .ok (.ireturn, 1) := by decide +kernel
theorem dX12_then_0 : decode cX12_then 0 = .ok (.iload_n 1, 1) := by decide +kernel
theorem dX12_then_1 : decode cX12_then 1 = .ok (.iconst 0, 1) := by decide +kernel
theorem dX12_then_2 : decode cX12_then 2 = .ok (.bipush 90, 2) := by decide +kernel
theorem dX12_then_4 : decode cX12_then 4 = .ok (.invokestatic 97, 3) := by decide +kernel
theorem dX12_then_7 : decode cX12_then 7 = .ok (.ifCond .ne 8, 3) := by decide +kernel
theorem dX12_then_10 : decode cX12_then 10 = .ok (.aload_n 0, 1) := by decide +kernel
theorem dX12_then_11 : decode cX12_then 11 = .ok (.invokevirtual 101, 3) := by decide +kernel
theorem dX12_then_14 : decode cX12_then 14 = .ok (.ireturn, 1) := by decide +kernel
theorem dX12_then_15 : decode cX12_then 15 = .ok (.aload_n 0, 1) := by decide +kernel
theorem dX12_then_16 : decode cX12_then 16 = .ok (.invokevirtual 239, 3) := by decide +kernel
theorem dX12_then_19 : decode cX12_then 19 = .ok (.iconst 0, 1) := by decide +kernel
theorem dX12_then_20 : decode cX12_then 20 = .ok (.istore_n 2, 1) := by decide +kernel
theorem dX12_then_21 : decode cX12_then 21 = .ok (.iload_n 2, 1) := by decide +kernel
theorem dX12_then_22 : decode cX12_then 22 = .ok (.iload_n 1, 1) := by decide +kernel
theorem dX12_then_23 : decode cX12_then 23 = .ok (.if_icmp .ge 13, 3) := by decide +kernel
theorem dX12_then_26 : decode cX12_then 26 = .ok (.aload_n 0, 1) := by decide +kernel
theorem dX12_then_27 : decode cX12_then 27 = .ok (.invokevirtual 236, 3) := by decide +kernel
theorem dX12_then_30 : decode cX12_then 30 = .ok (.iinc 2 1, 3) := by decide +kernel
theorem dX12_then_33 : decode cX12_then 33 = .ok (.goto (-12), 3) := by decide +kernel
theorem dX12_then_36 : decode cX12_then 36 = .ok (.aload_n 0, 1) := by decide +kernel
theorem dX12_then_37 : decode cX12_then 37 = .ok (.getfield 13, 3) := by decide +kernel
theorem dX12_then_40 : decode cX12_then 40 = .ok (.istore_n 2, 1) := by decide +kernel
theorem dX12_then_41 : decode cX12_then 41 = .ok (.aload_n 0, 1) := by decide +kernel
theorem dX12_then_42 : decode cX12_then 42 = .ok (.invokevirtual 245, 3) := by decide +kernel
theorem dX12_then_45 : decode cX12_then 45 = .ok (.iload_n 2, 1) := by decide +kernel
theorem dX12_then_46 : decode cX12_then 46 = .ok (.ireturn, 1) := by decide +kernel
theorem dX12_doneBy_0 : decode cX12_doneBy 0 = .ok (.iload_n 1, 1) := by decide +kernel
theorem dX12_doneBy_1 : decode cX12_doneBy 1 = .ok (.istore_n 3, 1) := by decide +kernel
theorem dX12_doneBy_2 : decode cX12_doneBy 2 = .ok (.iload_n 2, 1) := by decide +kernel
theorem dX12_doneBy_3 : decode cX12_doneBy 3 = .ok (.iconst 1, 1) := by decide +kernel
theorem dX12_doneBy_4 : decode cX12_doneBy 4 = .ok (.isub, 1) := by decide +kernel
theorem dX12_doneBy_5 : decode cX12_doneBy 5 = .ok (.istore 4, 2) := by decide +kernel
theorem dX12_doneBy_7 : decode cX12_doneBy 7 = .ok (.iload 4, 2) := by decide +kernel
theorem dX12_doneBy_9 : decode cX12_doneBy 9 = .ok (.ifCond .lt 25, 3) := by decide +kernel
theorem dX12_doneBy_12 : decode cX12_doneBy 12 = .ok (.aload_n 0, 1) := by decide +kernel
theorem dX12_doneBy_13 : decode cX12_doneBy 13 = .ok (.getfield 62, 3) := by decide +kernel
theorem dX12_doneBy_16 : decode cX12_doneBy 16 = .ok (.iload 4, 2) := by decide +kernel
theorem dX12_doneBy_18 : decode cX12_doneBy 18 = .ok (.iload_n 3, 1) := by decide +kernel
theorem dX12_doneBy_19 : decode cX12_doneBy 19 = .ok (.bipush 9, 2) := by decide +kernel
theorem dX12_doneBy_21 : decode cX12_doneBy 21 = .ok (.irem, 1) := by decide +kernel
theorem dX12_doneBy_22 : decode cX12_doneBy 22 = .ok (.iastore, 1) := by decide +kernel
theorem dX12_doneBy_23 : decode cX12_doneBy 23 = .ok (.iload_n 3, 1) := by decide +kernel
theorem dX12_doneBy_24 : decode cX12_doneBy 24 = .ok (.bipush 9, 2) := by decide +kernel
theorem dX12_doneBy_26 : decode cX12_doneBy 26 = .ok (.idiv, 1) := by decide +kernel
theorem dX12_doneBy_27 : decode cX12_doneBy 27 = .ok (.istore_n 3, 1) := by decide +kernel
theorem dX12_doneBy_28 : decode cX12_doneBy 28 = .ok (.iinc 4 (-1), 3) := by decide +kernel
theorem dX12_doneBy_31 : decode cX12_doneBy 31 = .ok (.goto (-24), 3) := by decide +kernel
theorem dX12_doneBy_34 : decode cX12_doneBy 34 = .ok (.aload_n 0, 1) := by decide +kernel
theorem dX12_doneBy_35 : decode cX12_doneBy 35 = .ok (.invokevirtual 239, 3) := by decide +kernel
theorem dX12_doneBy_38 : decode cX12_doneBy 38 = .ok (.aload_n 0, 1) := by decide +kernel
theorem dX12_doneBy_39 : decode cX12_doneBy 39 = .ok (.getfield 88, 3) := by decide +kernel
theorem dX12_doneBy_42 : decode cX12_doneBy 42 = .ok (.invokestatic 251, 3) := by decide +kernel
theorem dX12_doneBy_45 : decode cX12_doneBy 45 = .ok (.istore 4, 2) := by decide +kernel
theorem dX12_doneBy_47 : decode cX12_doneBy 47 = .ok (.iconst 1, 1) := by decide +kernel
theorem dX12_doneBy_48 : decode cX12_doneBy 48 = .ok (.istore 5, 2) := by decide +kernel
theorem dX12_doneBy_50 : decode cX12_doneBy 50 = .ok (.iconst 0, 1) := by decide +kernel
theorem dX12_doneBy_51 : decode cX12_doneBy 51 = .ok (.istore 6, 2) := by decide +kernel
theorem dX12_doneBy_53 : decode cX12_doneBy 53 = .ok (.iload 6, 2) := by decide +kernel
theorem dX12_doneBy_55 : decode cX12_doneBy 55 = .ok (.iload_n 2, 1) := by decide +kernel
theorem dX12_doneBy_56 : decode cX12_doneBy 56 = .ok (.if_icmp .ge 66, 3) := by decide +kernel
theorem dX12_doneBy_59 : decode cX12_doneBy 59 = .ok (.iload 5, 2) := by decide +kernel
theorem dX12_doneBy_61 : decode cX12_doneBy 61 = .ok (.ifCond .eq 61, 3) := by decide +kernel
theorem dX12_doneBy_64 : decode cX12_doneBy 64 = .ok (.aload_n 0, 1) := by decide +kernel
theorem dX12_doneBy_65 : decode cX12_doneBy 65 = .ok (.getfield 62, 3) := by decide +kernel
theorem dX12_doneBy_68 : decode cX12_doneBy 68 = .ok (.iload 6, 2) := by decide +kernel
theorem dX12_doneBy_70 : decode cX12_doneBy 70 = .ok (.iaload, 1) := by decide +kernel
theorem dX12_doneBy_71 : decode cX12_doneBy 71 = .ok (.bipush 8, 2) := by decide +kernel
theorem dX12_doneBy_73 : decode cX12_doneBy 73 = .ok (.if_icmp .ge 39, 3) := by decide +kernel
theorem dX12_doneBy_76 : decode cX12_doneBy 76 = .ok (.aload_n 0, 1) := by decide +kernel
theorem dX12_doneBy_77 : decode cX12_doneBy 77 = .ok (.getfield 88, 3) := by decide +kernel
theorem dX12_doneBy_80 : decode cX12_doneBy 80 = .ok (.aload_n 0, 1) := by decide +kernel
theorem dX12_doneBy_81 : decode cX12_doneBy 81 = .ok (.getfield 62, 3) := by decide +kernel
theorem dX12_doneBy_84 : decode cX12_doneBy 84 = .ok (.iload 6, 2) := by decide +kernel
theorem dX12_doneBy_86 : decode cX12_doneBy 86 = .ok (.iaload, 1) := by decide +kernel
theorem dX12_doneBy_87 : decode cX12_doneBy 87 = .ok (.invokestatic 186, 3) := by decide +kernel
theorem dX12_doneBy_90 : decode cX12_doneBy 90 = .ok (.ifCond .ne 7, 3) := by decide +kernel
theorem dX12_doneBy_93 : decode cX12_doneBy 93 = .ok (.iconst 1, 1) := by decide +kernel
theorem dX12_doneBy_94 : decode cX12_doneBy 94 = .ok (.goto 4, 3) := by decide +kernel
theorem dX12_doneBy_97 : decode cX12_doneBy 97 = .ok (.iconst 0, 1) := by decide +kernel
theorem dX12_doneBy_98 : decode cX12_doneBy 98 = .ok (.istore 5, 2) := by decide +kernel
theorem dX12_doneBy_100 : decode cX12_doneBy 100 = .ok (.aload_n 0, 1) := by decide +kernel
theorem dX12_doneBy_101 : decode cX12_doneBy 101 = .ok (.aload_n 0, 1) := by decide +kernel
theorem dX12_doneBy_102 : decode cX12_doneBy 102 = .ok (.getfield 62, 3) := by decide +kernel
theorem dX12_doneBy_105 : decode cX12_doneBy 105 = .ok (.iload 6, 2) := by decide +kernel
theorem dX12_doneBy_107 : decode cX12_doneBy 107 = .ok (.iaload, 1) := by decide +kernel
theorem dX12_doneBy_108 : decode cX12_doneBy 108 = .ok (.invokevirtual 233, 3) := by decide +kernel
theorem dX12_doneBy_111 : decode cX12_doneBy 111 = .ok (.pop, 1) := by decide +kernel
theorem dX12_doneBy_112 : decode cX12_doneBy 112 = .ok (.aload_n 0, 1) := by decide +kernel
theorem dX12_doneBy_113 : decode cX12_doneBy 113 = .ok (.invokevirtual 236, 3) := by decide +kernel
theorem dX12_doneBy_116 : decode cX12_doneBy 116 = .ok (.iinc 6 1, 3) := by decide +kernel
theorem dX12_doneBy_119 : decode cX12_doneBy 119 = .ok (.goto (-66), 3) := by decide +kernel
theorem dX12_doneBy_122 : decode cX12_doneBy 122 = .ok (.aload_n 0, 1) := by decide +kernel
theorem dX12_doneBy_123 : decode cX12_doneBy 123 = .ok (.getfield 88, 3) := by decide +kernel
theorem dX12_doneBy_126 : decode cX12_doneBy 126 = .ok (.invokestatic 251, 3) := by decide +kernel
theorem dX12_doneBy_129 : decode cX12_doneBy 129 = .ok (.iload 4, 2) := by decide +kernel
theorem dX12_doneBy_131 : decode cX12_doneBy 131 = .ok (.isub, 1) := by decide +kernel
theorem dX12_doneBy_132 : decode cX12_doneBy 132 = .ok (.istore 6, 2) := by decide +kernel
theorem dX12_doneBy_134 : decode cX12_doneBy 134 = .ok (.aload_n 0, 1) := by decide +kernel
theorem dX12_doneBy_135 : decode cX12_doneBy 135 = .ok (.invokevirtual 245, 3) := by decide +kernel
theorem dX12_doneBy_138 : decode cX12_doneBy 138 = .ok (.iload 5, 2) := by decide +kernel
theorem dX12_doneBy_140 : decode cX12_doneBy 140 = .ok (.ifCond .eq 8, 3) := by decide +kernel
theorem dX12_doneBy_143 : decode cX12_doneBy 143 = .ok (.iload 6, 2) := by decide +kernel
theorem dX12_doneBy_145 : decode cX12_doneBy 145 = .ok (.goto 4, 3) := by decide +kernel
theorem dX12_doneBy_148 : decode cX12_doneBy 148 = .ok (.iconst (-1), 1) := by decide +kernel
theorem dX12_doneBy_149 : decode cX12_doneBy 149 = .ok (.ireturn, 1) := by decide +kernel
theorem dX12_most_0 : decode cX12_most 0 = .ok (.iload_n 1, 1) := by decide +kernel
theorem dX12_most_1 : decode cX12_most 1 = .ok (.iconst 1, 1) := by decide +kernel
theorem dX12_most_2 : decode cX12_most 2 = .ok (.iconst 4, 1) := by decide +kernel
theorem dX12_most_3 : decode cX12_most 3 = .ok (.invokestatic 97, 3) := by decide +kernel
theorem dX12_most_6 : decode cX12_most 6 = .ok (.ifCond .eq 8, 3) := by decide +kernel
theorem dX12_most_9 : decode cX12_most 9 = .ok (.iload_n 2, 1) := by decide +kernel
theorem dX12_most_10 : decode cX12_most 10 = .ok (.iconst (-1), 1) := by decide +kernel
theorem dX12_most_11 : decode cX12_most 11 = .ok (.if_icmp .ge 8, 3) := by decide +kernel
theorem dX12_most_14 : decode cX12_most 14 = .ok (.aload_n 0, 1) := by decide +kernel
theorem dX12_most_15 : decode cX12_most 15 = .ok (.invokevirtual 254, 3) := by decide +kernel
theorem dX12_most_18 : decode cX12_most 18 = .ok (.ireturn, 1) := by decide +kernel
theorem dX12_most_19 : decode cX12_most 19 = .ok (.aload_n 0, 1) := by decide +kernel
theorem dX12_most_20 : decode cX12_most 20 = .ok (.invokevirtual 196, 3) := by decide +kernel
theorem dX12_most_23 : decode cX12_most 23 = .ok (.ifCond .ne 8, 3) := by decide +kernel
theorem dX12_most_26 : decode cX12_most 26 = .ok (.aload_n 0, 1) := by decide +kernel
theorem dX12_most_27 : decode cX12_most 27 = .ok (.invokevirtual 230, 3) := by decide +kernel
theorem dX12_most_30 : decode cX12_most 30 = .ok (.ireturn, 1) := by decide +kernel
theorem dX12_most_31 : decode cX12_most 31 = .ok (.iload_n 2, 1) := by decide +kernel
theorem dX12_most_32 : decode cX12_most 32 = .ok (.iload_n 1, 1) := by decide +kernel
theorem dX12_most_33 : decode cX12_most 33 = .ok (.if_icmp .lt 6, 3) := by decide +kernel
theorem dX12_most_36 : decode cX12_most 36 = .ok (.bipush (-5), 2) := by decide +kernel
theorem dX12_most_38 : decode cX12_most 38 = .ok (.ireturn, 1) := by decide +kernel
theorem dX12_most_39 : decode cX12_most 39 = .ok (.iconst 1, 1) := by decide +kernel
theorem dX12_most_40 : decode cX12_most 40 = .ok (.istore_n 3, 1) := by decide +kernel
theorem dX12_most_41 : decode cX12_most 41 = .ok (.iconst 0, 1) := by decide +kernel
theorem dX12_most_42 : decode cX12_most 42 = .ok (.istore 4, 2) := by decide +kernel
theorem dX12_most_44 : decode cX12_most 44 = .ok (.iload 4, 2) := by decide +kernel
theorem dX12_most_46 : decode cX12_most 46 = .ok (.iload_n 1, 1) := by decide +kernel
theorem dX12_most_47 : decode cX12_most 47 = .ok (.if_icmp .ge 14, 3) := by decide +kernel
theorem dX12_most_50 : decode cX12_most 50 = .ok (.iload_n 3, 1) := by decide +kernel
theorem dX12_most_51 : decode cX12_most 51 = .ok (.bipush 9, 2) := by decide +kernel
theorem dX12_most_53 : decode cX12_most 53 = .ok (.imul, 1) := by decide +kernel
theorem dX12_most_54 : decode cX12_most 54 = .ok (.istore_n 3, 1) := by decide +kernel
theorem dX12_most_55 : decode cX12_most 55 = .ok (.iinc 4 1, 3) := by decide +kernel
theorem dX12_most_58 : decode cX12_most 58 = .ok (.goto (-14), 3) := by decide +kernel
theorem dX12_most_61 : decode cX12_most 61 = .ok (.iconst (-1), 1) := by decide +kernel
theorem dX12_most_62 : decode cX12_most 62 = .ok (.istore 4, 2) := by decide +kernel
theorem dX12_most_64 : decode cX12_most 64 = .ok (.iconst 0, 1) := by decide +kernel
theorem dX12_most_65 : decode cX12_most 65 = .ok (.istore 5, 2) := by decide +kernel
theorem dX12_most_67 : decode cX12_most 67 = .ok (.iload 5, 2) := by decide +kernel
theorem dX12_most_69 : decode cX12_most 69 = .ok (.iload_n 3, 1) := by decide +kernel
theorem dX12_most_70 : decode cX12_most 70 = .ok (.if_icmp .ge 70, 3) := by decide +kernel
theorem dX12_most_73 : decode cX12_most 73 = .ok (.aload_n 0, 1) := by decide +kernel
theorem dX12_most_74 : decode cX12_most 74 = .ok (.iload 5, 2) := by decide +kernel
theorem dX12_most_76 : decode cX12_most 76 = .ok (.iload_n 1, 1) := by decide +kernel
theorem dX12_most_77 : decode cX12_most 77 = .ok (.invokevirtual 257, 3) := by decide +kernel
theorem dX12_most_80 : decode cX12_most 80 = .ok (.istore 6, 2) := by decide +kernel
theorem dX12_most_82 : decode cX12_most 82 = .ok (.iconst 0, 1) := by decide +kernel
theorem dX12_most_83 : decode cX12_most 83 = .ok (.istore 7, 2) := by decide +kernel
theorem dX12_most_85 : decode cX12_most 85 = .ok (.iload 7, 2) := by decide +kernel
theorem dX12_most_87 : decode cX12_most 87 = .ok (.iload_n 1, 1) := by decide +kernel
theorem dX12_most_88 : decode cX12_most 88 = .ok (.if_icmp .ge 30, 3) := by decide +kernel
theorem dX12_most_91 : decode cX12_most 91 = .ok (.iload 6, 2) := by decide +kernel
theorem dX12_most_93 : decode cX12_most 93 = .ok (.iload 4, 2) := by decide +kernel
theorem dX12_most_95 : decode cX12_most 95 = .ok (.if_icmp .le 23, 3) := by decide +kernel
theorem dX12_most_98 : decode cX12_most 98 = .ok (.aload_n 0, 1) := by decide +kernel
theorem dX12_most_99 : decode cX12_most 99 = .ok (.getfield 65, 3) := by decide +kernel
theorem dX12_most_102 : decode cX12_most 102 = .ok (.iload 7, 2) := by decide +kernel
theorem dX12_most_104 : decode cX12_most 104 = .ok (.aload_n 0, 1) := by decide +kernel
theorem dX12_most_105 : decode cX12_most 105 = .ok (.getfield 62, 3) := by decide +kernel
theorem dX12_most_108 : decode cX12_most 108 = .ok (.iload 7, 2) := by decide +kernel
theorem dX12_most_110 : decode cX12_most 110 = .ok (.iaload, 1) := by decide +kernel
theorem dX12_most_111 : decode cX12_most 111 = .ok (.iastore, 1) := by decide +kernel
theorem dX12_most_112 : decode cX12_most 112 = .ok (.iinc 7 1, 3) := by decide +kernel
theorem dX12_most_115 : decode cX12_most 115 = .ok (.goto (-30), 3) := by decide +kernel
theorem dX12_most_118 : decode cX12_most 118 = .ok (.iload 6, 2) := by decide +kernel
theorem dX12_most_120 : decode cX12_most 120 = .ok (.iload 4, 2) := by decide +kernel
theorem dX12_most_122 : decode cX12_most 122 = .ok (.if_icmp .le 8, 3) := by decide +kernel
theorem dX12_most_125 : decode cX12_most 125 = .ok (.iload 6, 2) := by decide +kernel
theorem dX12_most_127 : decode cX12_most 127 = .ok (.goto 5, 3) := by decide +kernel
theorem dX12_most_130 : decode cX12_most 130 = .ok (.iload 4, 2) := by decide +kernel
theorem dX12_most_132 : decode cX12_most 132 = .ok (.istore 4, 2) := by decide +kernel
theorem dX12_most_134 : decode cX12_most 134 = .ok (.iinc 5 1, 3) := by decide +kernel
theorem dX12_most_137 : decode cX12_most 137 = .ok (.goto (-70), 3) := by decide +kernel
theorem dX12_most_140 : decode cX12_most 140 = .ok (.iload_n 2, 1) := by decide +kernel
theorem dX12_most_141 : decode cX12_most 141 = .ok (.iconst (-1), 1) := by decide +kernel
theorem dX12_most_142 : decode cX12_most 142 = .ok (.if_icmp .ne 8, 3) := by decide +kernel
theorem dX12_most_145 : decode cX12_most 145 = .ok (.iload 4, 2) := by decide +kernel
theorem dX12_most_147 : decode cX12_most 147 = .ok (.goto 9, 3) := by decide +kernel
theorem dX12_most_150 : decode cX12_most 150 = .ok (.aload_n 0, 1) := by decide +kernel
theorem dX12_most_151 : decode cX12_most 151 = .ok (.getfield 65, 3) := by decide +kernel
theorem dX12_most_154 : decode cX12_most 154 = .ok (.iload_n 2, 1) := by decide +kernel
theorem dX12_most_155 : decode cX12_most 155 = .ok (.iaload, 1) := by decide +kernel
theorem dX12_most_156 : decode cX12_most 156 = .ok (.ireturn, 1) := by decide +kernel
theorem dX12_keep_0 : decode cX12_keep 0 = .ok (.iload_n 1, 1) := by decide +kernel
theorem dX12_keep_1 : decode cX12_keep 1 = .ok (.iconst 1, 1) := by decide +kernel
theorem dX12_keep_2 : decode cX12_keep 2 = .ok (.bipush 60, 2) := by decide +kernel
theorem dX12_keep_4 : decode cX12_keep 4 = .ok (.invokestatic 97, 3) := by decide +kernel
theorem dX12_keep_7 : decode cX12_keep 7 = .ok (.ifCond .ne 8, 3) := by decide +kernel
theorem dX12_keep_10 : decode cX12_keep 10 = .ok (.aload_n 0, 1) := by decide +kernel
theorem dX12_keep_11 : decode cX12_keep 11 = .ok (.invokevirtual 101, 3) := by decide +kernel
theorem dX12_keep_14 : decode cX12_keep 14 = .ok (.ireturn, 1) := by decide +kernel
theorem dX12_keep_15 : decode cX12_keep 15 = .ok (.aload_n 0, 1) := by decide +kernel
theorem dX12_keep_16 : decode cX12_keep 16 = .ok (.getfield 13, 3) := by decide +kernel
theorem dX12_keep_19 : decode cX12_keep 19 = .ok (.istore_n 2, 1) := by decide +kernel
theorem dX12_keep_20 : decode cX12_keep 20 = .ok (.iconst (-1), 1) := by decide +kernel
theorem dX12_keep_21 : decode cX12_keep 21 = .ok (.istore_n 3, 1) := by decide +kernel
theorem dX12_keep_22 : decode cX12_keep 22 = .ok (.iconst 0, 1) := by decide +kernel
theorem dX12_keep_23 : decode cX12_keep 23 = .ok (.istore 4, 2) := by decide +kernel
theorem dX12_keep_25 : decode cX12_keep 25 = .ok (.iload 4, 2) := by decide +kernel
theorem dX12_keep_27 : decode cX12_keep 27 = .ok (.bipush 99, 2) := by decide +kernel
theorem dX12_keep_29 : decode cX12_keep 29 = .ok (.if_icmp .gt 45, 3) := by decide +kernel
theorem dX12_keep_32 : decode cX12_keep 32 = .ok (.iload_n 3, 1) := by decide +kernel
theorem dX12_keep_33 : decode cX12_keep 33 = .ok (.iconst (-1), 1) := by decide +kernel
theorem dX12_keep_34 : decode cX12_keep 34 = .ok (.if_icmp .ne 40, 3) := by decide +kernel
theorem dX12_keep_37 : decode cX12_keep 37 = .ok (.aload_n 0, 1) := by decide +kernel
theorem dX12_keep_38 : decode cX12_keep 38 = .ok (.iload_n 2, 1) := by decide +kernel
theorem dX12_keep_39 : decode cX12_keep 39 = .ok (.iload 4, 2) := by decide +kernel
theorem dX12_keep_41 : decode cX12_keep 41 = .ok (.iadd, 1) := by decide +kernel
theorem dX12_keep_42 : decode cX12_keep 42 = .ok (.invokestatic 205, 3) := by decide +kernel
theorem dX12_keep_45 : decode cX12_keep 45 = .ok (.putfield 13, 3) := by decide +kernel
theorem dX12_keep_48 : decode cX12_keep 48 = .ok (.aload_n 0, 1) := by decide +kernel
theorem dX12_keep_49 : decode cX12_keep 49 = .ok (.invokevirtual 248, 3) := by decide +kernel
theorem dX12_keep_52 : decode cX12_keep 52 = .ok (.iload_n 1, 1) := by decide +kernel
theorem dX12_keep_53 : decode cX12_keep 53 = .ok (.if_icmp .le 8, 3) := by decide +kernel
theorem dX12_keep_56 : decode cX12_keep 56 = .ok (.iload 4, 2) := by decide +kernel
theorem dX12_keep_58 : decode cX12_keep 58 = .ok (.goto 4, 3) := by decide +kernel
theorem dX12_keep_61 : decode cX12_keep 61 = .ok (.iload_n 3, 1) := by decide +kernel
theorem dX12_keep_62 : decode cX12_keep 62 = .ok (.istore_n 3, 1) := by decide +kernel
theorem dX12_keep_63 : decode cX12_keep 63 = .ok (.aload_n 0, 1) := by decide +kernel
theorem dX12_keep_64 : decode cX12_keep 64 = .ok (.iload_n 2, 1) := by decide +kernel
theorem dX12_keep_65 : decode cX12_keep 65 = .ok (.putfield 13, 3) := by decide +kernel
theorem dX12_keep_68 : decode cX12_keep 68 = .ok (.iinc 4 1, 3) := by decide +kernel
theorem dX12_keep_71 : decode cX12_keep 71 = .ok (.goto (-46), 3) := by decide +kernel
theorem dX12_keep_74 : decode cX12_keep 74 = .ok (.iload_n 3, 1) := by decide +kernel
theorem dX12_keep_75 : decode cX12_keep 75 = .ok (.ireturn, 1) := by decide +kernel
theorem dX12_lastsOf_0 : decode cX12_lastsOf 0 = .ok (.aload_n 0, 1) := by decide +kernel
theorem dX12_lastsOf_1 : decode cX12_lastsOf 1 = .ok (.getfield 17, 3) := by decide +kernel
theorem dX12_lastsOf_4 : decode cX12_lastsOf 4 = .ok (.istore_n 3, 1) := by decide +kernel
theorem dX12_lastsOf_5 : decode cX12_lastsOf 5 = .ok (.aload_n 0, 1) := by decide +kernel
theorem dX12_lastsOf_6 : decode cX12_lastsOf 6 = .ok (.getfield 20, 3) := by decide +kernel
theorem dX12_lastsOf_9 : decode cX12_lastsOf 9 = .ok (.istore 4, 2) := by decide +kernel
theorem dX12_lastsOf_11 : decode cX12_lastsOf 11 = .ok (.aload_n 0, 1) := by decide +kernel
theorem dX12_lastsOf_12 : decode cX12_lastsOf 12 = .ok (.iload_n 1, 1) := by decide +kernel
theorem dX12_lastsOf_13 : decode cX12_lastsOf 13 = .ok (.putfield 17, 3) := by decide +kernel
theorem dX12_lastsOf_16 : decode cX12_lastsOf 16 = .ok (.aload_n 0, 1) := by decide +kernel
theorem dX12_lastsOf_17 : decode cX12_lastsOf 17 = .ok (.iload_n 2, 1) := by decide +kernel
theorem dX12_lastsOf_18 : decode cX12_lastsOf 18 = .ok (.putfield 20, 3) := by decide +kernel
theorem dX12_lastsOf_21 : decode cX12_lastsOf 21 = .ok (.aload_n 0, 1) := by decide +kernel
theorem dX12_lastsOf_22 : decode cX12_lastsOf 22 = .ok (.invokevirtual 248, 3) := by decide +kernel
theorem dX12_lastsOf_25 : decode cX12_lastsOf 25 = .ok (.istore 5, 2) := by decide +kernel
theorem dX12_lastsOf_27 : decode cX12_lastsOf 27 = .ok (.aload_n 0, 1) := by decide +kernel
theorem dX12_lastsOf_28 : decode cX12_lastsOf 28 = .ok (.iload_n 3, 1) := by decide +kernel
theorem dX12_lastsOf_29 : decode cX12_lastsOf 29 = .ok (.putfield 17, 3) := by decide +kernel
theorem dX12_lastsOf_32 : decode cX12_lastsOf 32 = .ok (.aload_n 0, 1) := by decide +kernel
theorem dX12_lastsOf_33 : decode cX12_lastsOf 33 = .ok (.iload 4, 2) := by decide +kernel
theorem dX12_lastsOf_35 : decode cX12_lastsOf 35 = .ok (.putfield 20, 3) := by decide +kernel
theorem dX12_lastsOf_38 : decode cX12_lastsOf 38 = .ok (.iload 5, 2) := by decide +kernel
theorem dX12_lastsOf_40 : decode cX12_lastsOf 40 = .ok (.ireturn, 1) := by decide +kernel
theorem dX12_lasts_0 : decode cX12_lasts 0 = .ok (.aload_n 0, 1) := by decide +kernel
theorem dX12_lasts_1 : decode cX12_lasts 1 = .ok (.iload_n 1, 1) := by decide +kernel
theorem dX12_lasts_2 : decode cX12_lasts 2 = .ok (.invokevirtual 221, 3) := by decide +kernel
theorem dX12_lasts_5 : decode cX12_lasts 5 = .ok (.ifCond .eq 25, 3) := by decide +kernel
theorem dX12_lasts_8 : decode cX12_lasts 8 = .ok (.aload_n 0, 1) := by decide +kernel
theorem dX12_lasts_9 : decode cX12_lasts 9 = .ok (.iload_n 2, 1) := by decide +kernel
theorem dX12_lasts_10 : decode cX12_lasts 10 = .ok (.invokevirtual 221, 3) := by decide +kernel
theorem dX12_lasts_13 : decode cX12_lasts 13 = .ok (.ifCond .eq 17, 3) := by decide +kernel
theorem dX12_lasts_16 : decode cX12_lasts 16 = .ok (.iload_n 1, 1) := by decide +kernel
theorem dX12_lasts_17 : decode cX12_lasts 17 = .ok (.iload_n 2, 1) := by decide +kernel
theorem dX12_lasts_18 : decode cX12_lasts 18 = .ok (.if_icmp .eq 12, 3) := by decide +kernel
theorem dX12_lasts_21 : decode cX12_lasts 21 = .ok (.aload_n 0, 1) := by decide +kernel
theorem dX12_lasts_22 : decode cX12_lasts 22 = .ok (.iload_n 1, 1) := by decide +kernel
theorem dX12_lasts_23 : decode cX12_lasts 23 = .ok (.iload_n 2, 1) := by decide +kernel
theorem dX12_lasts_24 : decode cX12_lasts 24 = .ok (.invokevirtual 260, 3) := by decide +kernel
theorem dX12_lasts_27 : decode cX12_lasts 27 = .ok (.goto 7, 3) := by decide +kernel
theorem dX12_lasts_30 : decode cX12_lasts 30 = .ok (.aload_n 0, 1) := by decide +kernel
theorem dX12_lasts_31 : decode cX12_lasts 31 = .ok (.invokevirtual 101, 3) := by decide +kernel
theorem dX12_lasts_34 : decode cX12_lasts 34 = .ok (.ireturn, 1) := by decide +kernel
theorem dX12_areStuck_0 : decode cX12_areStuck 0 = .ok (.iconst 1, 1) := by decide +kernel
theorem dX12_areStuck_1 : decode cX12_areStuck 1 = .ok (.istore_n 3, 1) := by decide +kernel
theorem dX12_areStuck_2 : decode cX12_areStuck 2 = .ok (.iconst 0, 1) := by decide +kernel
theorem dX12_areStuck_3 : decode cX12_areStuck 3 = .ok (.istore 4, 2) := by decide +kernel
theorem dX12_areStuck_5 : decode cX12_areStuck 5 = .ok (.iload 4, 2) := by decide +kernel
theorem dX12_areStuck_7 : decode cX12_areStuck 7 = .ok (.bipush 8, 2) := by decide +kernel
theorem dX12_areStuck_9 : decode cX12_areStuck 9 = .ok (.if_icmp .ge 39, 3) := by decide +kernel
theorem dX12_areStuck_12 : decode cX12_areStuck 12 = .ok (.iload_n 3, 1) := by decide +kernel
theorem dX12_areStuck_13 : decode cX12_areStuck 13 = .ok (.ifCond .eq 27, 3) := by decide +kernel
theorem dX12_areStuck_16 : decode cX12_areStuck 16 = .ok (.aload_n 0, 1) := by decide +kernel
theorem dX12_areStuck_17 : decode cX12_areStuck 17 = .ok (.iload_n 1, 1) := by decide +kernel
theorem dX12_areStuck_18 : decode cX12_areStuck 18 = .ok (.iload 4, 2) := by decide +kernel
theorem dX12_areStuck_20 : decode cX12_areStuck 20 = .ok (.invokevirtual 208, 3) := by decide +kernel
theorem dX12_areStuck_23 : decode cX12_areStuck 23 = .ok (.ifCond .eq 13, 3) := by decide +kernel
theorem dX12_areStuck_26 : decode cX12_areStuck 26 = .ok (.aload_n 0, 1) := by decide +kernel
theorem dX12_areStuck_27 : decode cX12_areStuck 27 = .ok (.iload_n 2, 1) := by decide +kernel
theorem dX12_areStuck_28 : decode cX12_areStuck 28 = .ok (.iload 4, 2) := by decide +kernel
theorem dX12_areStuck_30 : decode cX12_areStuck 30 = .ok (.invokevirtual 208, 3) := by decide +kernel
theorem dX12_areStuck_33 : decode cX12_areStuck 33 = .ok (.ifCond .ne 7, 3) := by decide +kernel
theorem dX12_areStuck_36 : decode cX12_areStuck 36 = .ok (.iconst 1, 1) := by decide +kernel
theorem dX12_areStuck_37 : decode cX12_areStuck 37 = .ok (.goto 4, 3) := by decide +kernel
theorem dX12_areStuck_40 : decode cX12_areStuck 40 = .ok (.iconst 0, 1) := by decide +kernel
theorem dX12_areStuck_41 : decode cX12_areStuck 41 = .ok (.istore_n 3, 1) := by decide +kernel
theorem dX12_areStuck_42 : decode cX12_areStuck 42 = .ok (.iinc 4 1, 3) := by decide +kernel
theorem dX12_areStuck_45 : decode cX12_areStuck 45 = .ok (.goto (-40), 3) := by decide +kernel
theorem dX12_areStuck_48 : decode cX12_areStuck 48 = .ok (.iload_n 3, 1) := by decide +kernel
theorem dX12_areStuck_49 : decode cX12_areStuck 49 = .ok (.ireturn, 1) := by decide +kernel
theorem dX12_pairs_0 : decode cX12_pairs 0 = .ok (.iload_n 1, 1) := by decide +kernel
theorem dX12_pairs_1 : decode cX12_pairs 1 = .ok (.iconst 0, 1) := by decide +kernel
theorem dX12_pairs_2 : decode cX12_pairs 2 = .ok (.iconst 1, 1) := by decide +kernel
theorem dX12_pairs_3 : decode cX12_pairs 3 = .ok (.invokestatic 97, 3) := by decide +kernel
theorem dX12_pairs_6 : decode cX12_pairs 6 = .ok (.ifCond .ne 8, 3) := by decide +kernel
theorem dX12_pairs_9 : decode cX12_pairs 9 = .ok (.aload_n 0, 1) := by decide +kernel
theorem dX12_pairs_10 : decode cX12_pairs 10 = .ok (.invokevirtual 101, 3) := by decide +kernel
theorem dX12_pairs_13 : decode cX12_pairs 13 = .ok (.ireturn, 1) := by decide +kernel
theorem dX12_pairs_14 : decode cX12_pairs 14 = .ok (.iconst (-1), 1) := by decide +kernel
theorem dX12_pairs_15 : decode cX12_pairs 15 = .ok (.istore_n 2, 1) := by decide +kernel
theorem dX12_pairs_16 : decode cX12_pairs 16 = .ok (.iconst (-1), 1) := by decide +kernel
theorem dX12_pairs_17 : decode cX12_pairs 17 = .ok (.istore_n 3, 1) := by decide +kernel
theorem dX12_pairs_18 : decode cX12_pairs 18 = .ok (.iconst 0, 1) := by decide +kernel
theorem dX12_pairs_19 : decode cX12_pairs 19 = .ok (.istore 4, 2) := by decide +kernel
theorem dX12_pairs_21 : decode cX12_pairs 21 = .ok (.iconst 0, 1) := by decide +kernel
theorem dX12_pairs_22 : decode cX12_pairs 22 = .ok (.istore 5, 2) := by decide +kernel
theorem dX12_pairs_24 : decode cX12_pairs 24 = .ok (.iload 5, 2) := by decide +kernel
theorem dX12_pairs_26 : decode cX12_pairs 26 = .ok (.aload_n 0, 1) := by decide +kernel
theorem dX12_pairs_27 : decode cX12_pairs 27 = .ok (.getfield 82, 3) := by decide +kernel
theorem dX12_pairs_30 : decode cX12_pairs 30 = .ok (.if_icmp .ge 93, 3) := by decide +kernel
theorem dX12_pairs_33 : decode cX12_pairs 33 = .ok (.iload 5, 2) := by decide +kernel
theorem dX12_pairs_35 : decode cX12_pairs 35 = .ok (.iconst 1, 1) := by decide +kernel
theorem dX12_pairs_36 : decode cX12_pairs 36 = .ok (.iadd, 1) := by decide +kernel
theorem dX12_pairs_37 : decode cX12_pairs 37 = .ok (.istore 6, 2) := by decide +kernel
theorem dX12_pairs_39 : decode cX12_pairs 39 = .ok (.iload 6, 2) := by decide +kernel
theorem dX12_pairs_41 : decode cX12_pairs 41 = .ok (.aload_n 0, 1) := by decide +kernel
theorem dX12_pairs_42 : decode cX12_pairs 42 = .ok (.getfield 82, 3) := by decide +kernel
theorem dX12_pairs_45 : decode cX12_pairs 45 = .ok (.if_icmp .ge 72, 3) := by decide +kernel
theorem dX12_pairs_48 : decode cX12_pairs 48 = .ok (.aload_n 0, 1) := by decide +kernel
theorem dX12_pairs_49 : decode cX12_pairs 49 = .ok (.iload 5, 2) := by decide +kernel
theorem dX12_pairs_51 : decode cX12_pairs 51 = .ok (.iload 6, 2) := by decide +kernel
theorem dX12_pairs_53 : decode cX12_pairs 53 = .ok (.invokevirtual 260, 3) := by decide +kernel
theorem dX12_pairs_56 : decode cX12_pairs 56 = .ok (.istore 7, 2) := by decide +kernel
theorem dX12_pairs_58 : decode cX12_pairs 58 = .ok (.iload 7, 2) := by decide +kernel
theorem dX12_pairs_60 : decode cX12_pairs 60 = .ok (.iload_n 3, 1) := by decide +kernel
theorem dX12_pairs_61 : decode cX12_pairs 61 = .ok (.if_icmp .le 14, 3) := by decide +kernel
theorem dX12_pairs_64 : decode cX12_pairs 64 = .ok (.bipush 10, 2) := by decide +kernel
theorem dX12_pairs_66 : decode cX12_pairs 66 = .ok (.iload 5, 2) := by decide +kernel
theorem dX12_pairs_68 : decode cX12_pairs 68 = .ok (.imul, 1) := by decide +kernel
theorem dX12_pairs_69 : decode cX12_pairs 69 = .ok (.iload 6, 2) := by decide +kernel
theorem dX12_pairs_71 : decode cX12_pairs 71 = .ok (.iadd, 1) := by decide +kernel
theorem dX12_pairs_72 : decode cX12_pairs 72 = .ok (.goto 4, 3) := by decide +kernel
theorem dX12_pairs_75 : decode cX12_pairs 75 = .ok (.iload_n 2, 1) := by decide +kernel
theorem dX12_pairs_76 : decode cX12_pairs 76 = .ok (.istore_n 2, 1) := by decide +kernel
theorem dX12_pairs_77 : decode cX12_pairs 77 = .ok (.iload 7, 2) := by decide +kernel
theorem dX12_pairs_79 : decode cX12_pairs 79 = .ok (.iload_n 3, 1) := by decide +kernel
theorem dX12_pairs_80 : decode cX12_pairs 80 = .ok (.if_icmp .le 8, 3) := by decide +kernel
theorem dX12_pairs_83 : decode cX12_pairs 83 = .ok (.iload 7, 2) := by decide +kernel
theorem dX12_pairs_85 : decode cX12_pairs 85 = .ok (.goto 4, 3) := by decide +kernel
theorem dX12_pairs_88 : decode cX12_pairs 88 = .ok (.iload_n 3, 1) := by decide +kernel
theorem dX12_pairs_89 : decode cX12_pairs 89 = .ok (.istore_n 3, 1) := by decide +kernel
theorem dX12_pairs_90 : decode cX12_pairs 90 = .ok (.iload 4, 2) := by decide +kernel
theorem dX12_pairs_92 : decode cX12_pairs 92 = .ok (.aload_n 0, 1) := by decide +kernel
theorem dX12_pairs_93 : decode cX12_pairs 93 = .ok (.iload 5, 2) := by decide +kernel
theorem dX12_pairs_95 : decode cX12_pairs 95 = .ok (.iload 6, 2) := by decide +kernel
theorem dX12_pairs_97 : decode cX12_pairs 97 = .ok (.invokevirtual 263, 3) := by decide +kernel
theorem dX12_pairs_100 : decode cX12_pairs 100 = .ok (.ifCond .eq 7, 3) := by decide +kernel
theorem dX12_pairs_103 : decode cX12_pairs 103 = .ok (.iconst 1, 1) := by decide +kernel
theorem dX12_pairs_104 : decode cX12_pairs 104 = .ok (.goto 4, 3) := by decide +kernel
theorem dX12_pairs_107 : decode cX12_pairs 107 = .ok (.iconst 0, 1) := by decide +kernel
theorem dX12_pairs_108 : decode cX12_pairs 108 = .ok (.iadd, 1) := by decide +kernel
theorem dX12_pairs_109 : decode cX12_pairs 109 = .ok (.istore 4, 2) := by decide +kernel
theorem dX12_pairs_111 : decode cX12_pairs 111 = .ok (.iinc 6 1, 3) := by decide +kernel
theorem dX12_pairs_114 : decode cX12_pairs 114 = .ok (.goto (-75), 3) := by decide +kernel
theorem dX12_pairs_117 : decode cX12_pairs 117 = .ok (.iinc 5 1, 3) := by decide +kernel
theorem dX12_pairs_120 : decode cX12_pairs 120 = .ok (.goto (-96), 3) := by decide +kernel
theorem dX12_pairs_123 : decode cX12_pairs 123 = .ok (.iload_n 1, 1) := by decide +kernel
theorem dX12_pairs_124 : decode cX12_pairs 124 = .ok (.ifCond .ne 7, 3) := by decide +kernel
theorem dX12_pairs_127 : decode cX12_pairs 127 = .ok (.iload_n 2, 1) := by decide +kernel
theorem dX12_pairs_128 : decode cX12_pairs 128 = .ok (.goto 5, 3) := by decide +kernel
theorem dX12_pairs_131 : decode cX12_pairs 131 = .ok (.iload 4, 2) := by decide +kernel
theorem dX12_pairs_133 : decode cX12_pairs 133 = .ok (.ireturn, 1) := by decide +kernel
theorem dX12_note_0 : decode cX12_note 0 = .ok (.aload_n 0, 1) := by decide +kernel
theorem dX12_note_1 : decode cX12_note 1 = .ok (.iload_n 1, 1) := by decide +kernel
theorem dX12_note_2 : decode cX12_note 2 = .ok (.invokevirtual 221, 3) := by decide +kernel
theorem dX12_note_5 : decode cX12_note 5 = .ok (.ifCond .eq 41, 3) := by decide +kernel
theorem dX12_note_8 : decode cX12_note 8 = .ok (.iload_n 2, 1) := by decide +kernel
theorem dX12_note_9 : decode cX12_note 9 = .ok (.invokestatic 227, 3) := by decide +kernel
theorem dX12_note_12 : decode cX12_note 12 = .ok (.ifCond .eq 34, 3) := by decide +kernel
theorem dX12_note_15 : decode cX12_note 15 = .ok (.iload_n 3, 1) := by decide +kernel
theorem dX12_note_16 : decode cX12_note 16 = .ok (.iconst 0, 1) := by decide +kernel
theorem dX12_note_17 : decode cX12_note 17 = .ok (.bipush 99, 2) := by decide +kernel
theorem dX12_note_19 : decode cX12_note 19 = .ok (.invokestatic 97, 3) := by decide +kernel
theorem dX12_note_22 : decode cX12_note 22 = .ok (.ifCond .eq 24, 3) := by decide +kernel
theorem dX12_note_25 : decode cX12_note 25 = .ok (.iload 4, 2) := by decide +kernel
theorem dX12_note_27 : decode cX12_note 27 = .ok (.iconst 0, 1) := by decide +kernel
theorem dX12_note_28 : decode cX12_note 28 = .ok (.bipush 99, 2) := by decide +kernel
theorem dX12_note_30 : decode cX12_note 30 = .ok (.invokestatic 97, 3) := by decide +kernel
theorem dX12_note_33 : decode cX12_note 33 = .ok (.ifCond .eq 13, 3) := by decide +kernel
theorem dX12_note_36 : decode cX12_note 36 = .ok (.iload 5, 2) := by decide +kernel
theorem dX12_note_38 : decode cX12_note 38 = .ok (.iconst 0, 1) := by decide +kernel
theorem dX12_note_39 : decode cX12_note 39 = .ok (.iconst 1, 1) := by decide +kernel
theorem dX12_note_40 : decode cX12_note 40 = .ok (.invokestatic 97, 3) := by decide +kernel
theorem dX12_note_43 : decode cX12_note 43 = .ok (.ifCond .ne 8, 3) := by decide +kernel
theorem dX12_note_46 : decode cX12_note 46 = .ok (.aload_n 0, 1) := by decide +kernel
theorem dX12_note_47 : decode cX12_note 47 = .ok (.invokevirtual 101, 3) := by decide +kernel
theorem dX12_note_50 : decode cX12_note 50 = .ok (.ireturn, 1) := by decide +kernel
theorem dX12_note_51 : decode cX12_note 51 = .ok (.aload_n 0, 1) := by decide +kernel
theorem dX12_note_52 : decode cX12_note 52 = .ok (.getfield 91, 3) := by decide +kernel
theorem dX12_note_55 : decode cX12_note 55 = .ok (.bipush 6, 2) := by decide +kernel
theorem dX12_note_57 : decode cX12_note 57 = .ok (.if_icmp .ne 8, 3) := by decide +kernel
theorem dX12_note_60 : decode cX12_note 60 = .ok (.aload_n 0, 1) := by decide +kernel
theorem dX12_note_61 : decode cX12_note 61 = .ok (.invokevirtual 105, 3) := by decide +kernel
theorem dX12_note_64 : decode cX12_note 64 = .ok (.ireturn, 1) := by decide +kernel
theorem dX12_note_65 : decode cX12_note 65 = .ok (.aload_n 0, 1) := by decide +kernel
theorem dX12_note_66 : decode cX12_note 66 = .ok (.getfield 35, 3) := by decide +kernel
theorem dX12_note_69 : decode cX12_note 69 = .ok (.aload_n 0, 1) := by decide +kernel
theorem dX12_note_70 : decode cX12_note 70 = .ok (.getfield 91, 3) := by decide +kernel
theorem dX12_note_73 : decode cX12_note 73 = .ok (.iload_n 1, 1) := by decide +kernel
theorem dX12_note_74 : decode cX12_note 74 = .ok (.iastore, 1) := by decide +kernel
theorem dX12_note_75 : decode cX12_note 75 = .ok (.aload_n 0, 1) := by decide +kernel
theorem dX12_note_76 : decode cX12_note 76 = .ok (.getfield 38, 3) := by decide +kernel
theorem dX12_note_79 : decode cX12_note 79 = .ok (.aload_n 0, 1) := by decide +kernel
theorem dX12_note_80 : decode cX12_note 80 = .ok (.getfield 91, 3) := by decide +kernel
theorem dX12_note_83 : decode cX12_note 83 = .ok (.iload_n 2, 1) := by decide +kernel
theorem dX12_note_84 : decode cX12_note 84 = .ok (.iastore, 1) := by decide +kernel
theorem dX12_note_85 : decode cX12_note 85 = .ok (.aload_n 0, 1) := by decide +kernel
theorem dX12_note_86 : decode cX12_note 86 = .ok (.getfield 41, 3) := by decide +kernel
theorem dX12_note_89 : decode cX12_note 89 = .ok (.aload_n 0, 1) := by decide +kernel
theorem dX12_note_90 : decode cX12_note 90 = .ok (.getfield 91, 3) := by decide +kernel
theorem dX12_note_93 : decode cX12_note 93 = .ok (.iload_n 3, 1) := by decide +kernel
theorem dX12_note_94 : decode cX12_note 94 = .ok (.iastore, 1) := by decide +kernel
theorem dX12_note_95 : decode cX12_note 95 = .ok (.aload_n 0, 1) := by decide +kernel
theorem dX12_note_96 : decode cX12_note 96 = .ok (.getfield 44, 3) := by decide +kernel
theorem dX12_note_99 : decode cX12_note 99 = .ok (.aload_n 0, 1) := by decide +kernel
theorem dX12_note_100 : decode cX12_note 100 = .ok (.getfield 91, 3) := by decide +kernel
theorem dX12_note_103 : decode cX12_note 103 = .ok (.iload 4, 2) := by decide +kernel
theorem dX12_note_105 : decode cX12_note 105 = .ok (.iastore, 1) := by decide +kernel
theorem dX12_note_106 : decode cX12_note 106 = .ok (.aload_n 0, 1) := by decide +kernel
theorem dX12_note_107 : decode cX12_note 107 = .ok (.getfield 47, 3) := by decide +kernel
theorem dX12_note_110 : decode cX12_note 110 = .ok (.aload_n 0, 1) := by decide +kernel
theorem dX12_note_111 : decode cX12_note 111 = .ok (.getfield 91, 3) := by decide +kernel
theorem dX12_note_114 : decode cX12_note 114 = .ok (.iload 5, 2) := by decide +kernel
theorem dX12_note_116 : decode cX12_note 116 = .ok (.iastore, 1) := by decide +kernel
theorem dX12_note_117 : decode cX12_note 117 = .ok (.aload_n 0, 1) := by decide +kernel
theorem dX12_note_118 : decode cX12_note 118 = .ok (.dup, 1) := by decide +kernel
theorem dX12_note_119 : decode cX12_note 119 = .ok (.getfield 91, 3) := by decide +kernel
theorem dX12_note_122 : decode cX12_note 122 = .ok (.iconst 1, 1) := by decide +kernel
theorem dX12_note_123 : decode cX12_note 123 = .ok (.iadd, 1) := by decide +kernel
theorem dX12_note_124 : decode cX12_note 124 = .ok (.putfield 91, 3) := by decide +kernel
theorem dX12_note_127 : decode cX12_note 127 = .ok (.aload_n 0, 1) := by decide +kernel
theorem dX12_note_128 : decode cX12_note 128 = .ok (.getfield 91, 3) := by decide +kernel
theorem dX12_note_131 : decode cX12_note 131 = .ok (.ireturn, 1) := by decide +kernel
theorem dX12_forget_0 : decode cX12_forget 0 = .ok (.aload_n 0, 1) := by decide +kernel
theorem dX12_forget_1 : decode cX12_forget 1 = .ok (.getfield 91, 3) := by decide +kernel
theorem dX12_forget_4 : decode cX12_forget 4 = .ok (.istore_n 1, 1) := by decide +kernel
theorem dX12_forget_5 : decode cX12_forget 5 = .ok (.aload_n 0, 1) := by decide +kernel
theorem dX12_forget_6 : decode cX12_forget 6 = .ok (.iconst 0, 1) := by decide +kernel
theorem dX12_forget_7 : decode cX12_forget 7 = .ok (.putfield 91, 3) := by decide +kernel
theorem dX12_forget_10 : decode cX12_forget 10 = .ok (.iload_n 1, 1) := by decide +kernel
theorem dX12_forget_11 : decode cX12_forget 11 = .ok (.ireturn, 1) := by decide +kernel
theorem dX12_isSo_0 : decode cX12_isSo 0 = .ok (.iconst 1, 1) := by decide +kernel
theorem dX12_isSo_1 : decode cX12_isSo 1 = .ok (.istore 5, 2) := by decide +kernel
theorem dX12_isSo_3 : decode cX12_isSo 3 = .ok (.iconst 0, 1) := by decide +kernel
theorem dX12_isSo_4 : decode cX12_isSo 4 = .ok (.istore 6, 2) := by decide +kernel
theorem dX12_isSo_6 : decode cX12_isSo 6 = .ok (.iload 6, 2) := by decide +kernel
theorem dX12_isSo_8 : decode cX12_isSo 8 = .ok (.aload_n 0, 1) := by decide +kernel
theorem dX12_isSo_9 : decode cX12_isSo 9 = .ok (.getfield 91, 3) := by decide +kernel
theorem dX12_isSo_12 : decode cX12_isSo 12 = .ok (.if_icmp .ge 101, 3) := by decide +kernel
theorem dX12_isSo_15 : decode cX12_isSo 15 = .ok (.aload_n 0, 1) := by decide +kernel
theorem dX12_isSo_16 : decode cX12_isSo 16 = .ok (.getfield 35, 3) := by decide +kernel
theorem dX12_isSo_19 : decode cX12_isSo 19 = .ok (.iload 6, 2) := by decide +kernel
theorem dX12_isSo_21 : decode cX12_isSo 21 = .ok (.iaload, 1) := by decide +kernel
theorem dX12_isSo_22 : decode cX12_isSo 22 = .ok (.iload_n 1, 1) := by decide +kernel
theorem dX12_isSo_23 : decode cX12_isSo 23 = .ok (.if_icmp .ne 84, 3) := by decide +kernel
theorem dX12_isSo_26 : decode cX12_isSo 26 = .ok (.aload_n 0, 1) := by decide +kernel
theorem dX12_isSo_27 : decode cX12_isSo 27 = .ok (.getfield 38, 3) := by decide +kernel
theorem dX12_isSo_30 : decode cX12_isSo 30 = .ok (.iload 6, 2) := by decide +kernel
theorem dX12_isSo_32 : decode cX12_isSo 32 = .ok (.iaload, 1) := by decide +kernel
theorem dX12_isSo_33 : decode cX12_isSo 33 = .ok (.iload_n 3, 1) := by decide +kernel
theorem dX12_isSo_34 : decode cX12_isSo 34 = .ok (.if_icmp .ne 8, 3) := by decide +kernel
theorem dX12_isSo_37 : decode cX12_isSo 37 = .ok (.iload 4, 2) := by decide +kernel
theorem dX12_isSo_39 : decode cX12_isSo 39 = .ok (.goto 15, 3) := by decide +kernel
theorem dX12_isSo_42 : decode cX12_isSo 42 = .ok (.aload_n 0, 1) := by decide +kernel
theorem dX12_isSo_43 : decode cX12_isSo 43 = .ok (.iload_n 1, 1) := by decide +kernel
theorem dX12_isSo_44 : decode cX12_isSo 44 = .ok (.aload_n 0, 1) := by decide +kernel
theorem dX12_isSo_45 : decode cX12_isSo 45 = .ok (.getfield 38, 3) := by decide +kernel
theorem dX12_isSo_48 : decode cX12_isSo 48 = .ok (.iload 6, 2) := by decide +kernel
theorem dX12_isSo_50 : decode cX12_isSo 50 = .ok (.iaload, 1) := by decide +kernel
theorem dX12_isSo_51 : decode cX12_isSo 51 = .ok (.invokevirtual 189, 3) := by decide +kernel
theorem dX12_isSo_54 : decode cX12_isSo 54 = .ok (.istore 7, 2) := by decide +kernel
theorem dX12_isSo_56 : decode cX12_isSo 56 = .ok (.iload 5, 2) := by decide +kernel
theorem dX12_isSo_58 : decode cX12_isSo 58 = .ok (.ifCond .eq 46, 3) := by decide +kernel
theorem dX12_isSo_61 : decode cX12_isSo 61 = .ok (.iload_n 2, 1) := by decide +kernel
theorem dX12_isSo_62 : decode cX12_isSo 62 = .ok (.iload 7, 2) := by decide +kernel
theorem dX12_isSo_64 : decode cX12_isSo 64 = .ok (.aload_n 0, 1) := by decide +kernel
theorem dX12_isSo_65 : decode cX12_isSo 65 = .ok (.getfield 41, 3) := by decide +kernel
theorem dX12_isSo_68 : decode cX12_isSo 68 = .ok (.iload 6, 2) := by decide +kernel
theorem dX12_isSo_70 : decode cX12_isSo 70 = .ok (.iaload, 1) := by decide +kernel
theorem dX12_isSo_71 : decode cX12_isSo 71 = .ok (.aload_n 0, 1) := by decide +kernel
theorem dX12_isSo_72 : decode cX12_isSo 72 = .ok (.getfield 44, 3) := by decide +kernel
theorem dX12_isSo_75 : decode cX12_isSo 75 = .ok (.iload 6, 2) := by decide +kernel
theorem dX12_isSo_77 : decode cX12_isSo 77 = .ok (.iaload, 1) := by decide +kernel
theorem dX12_isSo_78 : decode cX12_isSo 78 = .ok (.invokestatic 193, 3) := by decide +kernel
theorem dX12_isSo_81 : decode cX12_isSo 81 = .ok (.aload_n 0, 1) := by decide +kernel
theorem dX12_isSo_82 : decode cX12_isSo 82 = .ok (.getfield 47, 3) := by decide +kernel
theorem dX12_isSo_85 : decode cX12_isSo 85 = .ok (.iload 6, 2) := by decide +kernel
theorem dX12_isSo_87 : decode cX12_isSo 87 = .ok (.iaload, 1) := by decide +kernel
theorem dX12_isSo_88 : decode cX12_isSo 88 = .ok (.iconst 1, 1) := by decide +kernel
theorem dX12_isSo_89 : decode cX12_isSo 89 = .ok (.if_icmp .ne 7, 3) := by decide +kernel
theorem dX12_isSo_92 : decode cX12_isSo 92 = .ok (.iconst 1, 1) := by decide +kernel
theorem dX12_isSo_93 : decode cX12_isSo 93 = .ok (.goto 4, 3) := by decide +kernel
theorem dX12_isSo_96 : decode cX12_isSo 96 = .ok (.iconst 0, 1) := by decide +kernel
theorem dX12_isSo_97 : decode cX12_isSo 97 = .ok (.if_icmp .ne 7, 3) := by decide +kernel
theorem dX12_isSo_100 : decode cX12_isSo 100 = .ok (.iconst 1, 1) := by decide +kernel
theorem dX12_isSo_101 : decode cX12_isSo 101 = .ok (.goto 4, 3) := by decide +kernel
theorem dX12_isSo_104 : decode cX12_isSo 104 = .ok (.iconst 0, 1) := by decide +kernel
theorem dX12_isSo_105 : decode cX12_isSo 105 = .ok (.istore 5, 2) := by decide +kernel
theorem dX12_isSo_107 : decode cX12_isSo 107 = .ok (.iinc 6 1, 3) := by decide +kernel
theorem dX12_isSo_110 : decode cX12_isSo 110 = .ok (.goto (-104), 3) := by decide +kernel
theorem dX12_isSo_113 : decode cX12_isSo 113 = .ok (.iload 5, 2) := by decide +kernel
theorem dX12_isSo_115 : decode cX12_isSo 115 = .ok (.ireturn, 1) := by decide +kernel
theorem dX12_kindsOf_0 : decode cX12_kindsOf 0 = .ok (.iconst 0, 1) := by decide +kernel
theorem dX12_kindsOf_1 : decode cX12_kindsOf 1 = .ok (.istore_n 2, 1) := by decide +kernel
theorem dX12_kindsOf_2 : decode cX12_kindsOf 2 = .ok (.iconst 0, 1) := by decide +kernel
theorem dX12_kindsOf_3 : decode cX12_kindsOf 3 = .ok (.istore_n 3, 1) := by decide +kernel
theorem dX12_kindsOf_4 : decode cX12_kindsOf 4 = .ok (.iload_n 3, 1) := by decide +kernel
theorem dX12_kindsOf_5 : decode cX12_kindsOf 5 = .ok (.iconst 5, 1) := by decide +kernel
theorem dX12_kindsOf_6 : decode cX12_kindsOf 6 = .ok (.if_icmp .gt 30, 3) := by decide +kernel
theorem dX12_kindsOf_9 : decode cX12_kindsOf 9 = .ok (.iload_n 2, 1) := by decide +kernel
theorem dX12_kindsOf_10 : decode cX12_kindsOf 10 = .ok (.aload_n 0, 1) := by decide +kernel
theorem dX12_kindsOf_11 : decode cX12_kindsOf 11 = .ok (.iload_n 1, 1) := by decide +kernel
theorem dX12_kindsOf_12 : decode cX12_kindsOf 12 = .ok (.iload_n 3, 1) := by decide +kernel
theorem dX12_kindsOf_13 : decode cX12_kindsOf 13 = .ok (.iconst (-1), 1) := by decide +kernel
theorem dX12_kindsOf_14 : decode cX12_kindsOf 14 = .ok (.iconst 0, 1) := by decide +kernel
theorem dX12_kindsOf_15 : decode cX12_kindsOf 15 = .ok (.invokevirtual 266, 3) := by decide +kernel
theorem dX12_kindsOf_18 : decode cX12_kindsOf 18 = .ok (.ifCond .eq 9, 3) := by decide +kernel
theorem dX12_kindsOf_21 : decode cX12_kindsOf 21 = .ok (.iconst 1, 1) := by decide +kernel
theorem dX12_kindsOf_22 : decode cX12_kindsOf 22 = .ok (.iload_n 3, 1) := by decide +kernel
theorem dX12_kindsOf_23 : decode cX12_kindsOf 23 = .ok (.ishl, 1) := by decide +kernel
theorem dX12_kindsOf_24 : decode cX12_kindsOf 24 = .ok (.goto 4, 3) := by decide +kernel
theorem dX12_kindsOf_27 : decode cX12_kindsOf 27 = .ok (.iconst 0, 1) := by decide +kernel
theorem dX12_kindsOf_28 : decode cX12_kindsOf 28 = .ok (.ior, 1) := by decide +kernel
theorem dX12_kindsOf_29 : decode cX12_kindsOf 29 = .ok (.istore_n 2, 1) := by decide +kernel
theorem dX12_kindsOf_30 : decode cX12_kindsOf 30 = .ok (.iinc 3 1, 3) := by decide +kernel
theorem dX12_kindsOf_33 : decode cX12_kindsOf 33 = .ok (.goto (-29), 3) := by decide +kernel
theorem dX12_kindsOf_36 : decode cX12_kindsOf 36 = .ok (.iload_n 2, 1) := by decide +kernel
theorem dX12_kindsOf_37 : decode cX12_kindsOf 37 = .ok (.ireturn, 1) := by decide +kernel
theorem dX12_is_0 : decode cX12_is 0 = .ok (.aload_n 0, 1) := by decide +kernel
theorem dX12_is_1 : decode cX12_is 1 = .ok (.iload_n 1, 1) := by decide +kernel
theorem dX12_is_2 : decode cX12_is 2 = .ok (.invokevirtual 221, 3) := by decide +kernel
theorem dX12_is_5 : decode cX12_is 5 = .ok (.ifCond .eq 11, 3) := by decide +kernel
theorem dX12_is_8 : decode cX12_is 8 = .ok (.aload_n 0, 1) := by decide +kernel
theorem dX12_is_9 : decode cX12_is 9 = .ok (.iload_n 1, 1) := by decide +kernel
theorem dX12_is_10 : decode cX12_is 10 = .ok (.invokevirtual 269, 3) := by decide +kernel
theorem dX12_is_13 : decode cX12_is 13 = .ok (.goto 7, 3) := by decide +kernel
theorem dX12_is_16 : decode cX12_is 16 = .ok (.aload_n 0, 1) := by decide +kernel
theorem dX12_is_17 : decode cX12_is 17 = .ok (.invokevirtual 101, 3) := by decide +kernel
theorem dX12_is_20 : decode cX12_is 20 = .ok (.ireturn, 1) := by decide +kernel
theorem dX12_heart_0 : decode cX12_heart 0 = .ok (.aload_n 0, 1) := by decide +kernel
theorem dX12_heart_1 : decode cX12_heart 1 = .ok (.iload_n 1, 1) := by decide +kernel
theorem dX12_heart_2 : decode cX12_heart 2 = .ok (.invokevirtual 221, 3) := by decide +kernel
theorem dX12_heart_5 : decode cX12_heart 5 = .ok (.ifCond .eq 10, 3) := by decide +kernel
theorem dX12_heart_8 : decode cX12_heart 8 = .ok (.iload_n 2, 1) := by decide +kernel
theorem dX12_heart_9 : decode cX12_heart 9 = .ok (.invokestatic 227, 3) := by decide +kernel
theorem dX12_heart_12 : decode cX12_heart 12 = .ok (.ifCond .ne 8, 3) := by decide +kernel
theorem dX12_heart_15 : decode cX12_heart 15 = .ok (.aload_n 0, 1) := by decide +kernel
theorem dX12_heart_16 : decode cX12_heart 16 = .ok (.invokevirtual 101, 3) := by decide +kernel
theorem dX12_heart_19 : decode cX12_heart 19 = .ok (.ireturn, 1) := by decide +kernel
theorem dX12_heart_20 : decode cX12_heart 20 = .ok (.iconst 0, 1) := by decide +kernel
theorem dX12_heart_21 : decode cX12_heart 21 = .ok (.istore_n 3, 1) := by decide +kernel
theorem dX12_heart_22 : decode cX12_heart 22 = .ok (.iconst 0, 1) := by decide +kernel
theorem dX12_heart_23 : decode cX12_heart 23 = .ok (.istore 4, 2) := by decide +kernel
theorem dX12_heart_25 : decode cX12_heart 25 = .ok (.iload 4, 2) := by decide +kernel
theorem dX12_heart_27 : decode cX12_heart 27 = .ok (.iconst 3, 1) := by decide +kernel
theorem dX12_heart_28 : decode cX12_heart 28 = .ok (.if_icmp .ge 37, 3) := by decide +kernel
theorem dX12_heart_31 : decode cX12_heart 31 = .ok (.iload_n 3, 1) := by decide +kernel
theorem dX12_heart_32 : decode cX12_heart 32 = .ok (.aload_n 0, 1) := by decide +kernel
theorem dX12_heart_33 : decode cX12_heart 33 = .ok (.iload_n 1, 1) := by decide +kernel
theorem dX12_heart_34 : decode cX12_heart 34 = .ok (.aload_n 0, 1) := by decide +kernel
theorem dX12_heart_35 : decode cX12_heart 35 = .ok (.getfield 23, 3) := by decide +kernel
theorem dX12_heart_38 : decode cX12_heart 38 = .ok (.iload_n 1, 1) := by decide +kernel
theorem dX12_heart_39 : decode cX12_heart 39 = .ok (.iaload, 1) := by decide +kernel
theorem dX12_heart_40 : decode cX12_heart 40 = .ok (.iload_n 2, 1) := by decide +kernel
theorem dX12_heart_41 : decode cX12_heart 41 = .ok (.iload 4, 2) := by decide +kernel
theorem dX12_heart_43 : decode cX12_heart 43 = .ok (.invokevirtual 266, 3) := by decide +kernel
theorem dX12_heart_46 : decode cX12_heart 46 = .ok (.ifCond .eq 10, 3) := by decide +kernel
theorem dX12_heart_49 : decode cX12_heart 49 = .ok (.iconst 1, 1) := by decide +kernel
theorem dX12_heart_50 : decode cX12_heart 50 = .ok (.iload 4, 2) := by decide +kernel
theorem dX12_heart_52 : decode cX12_heart 52 = .ok (.ishl, 1) := by decide +kernel
theorem dX12_heart_53 : decode cX12_heart 53 = .ok (.goto 4, 3) := by decide +kernel
theorem dX12_heart_56 : decode cX12_heart 56 = .ok (.iconst 0, 1) := by decide +kernel
theorem dX12_heart_57 : decode cX12_heart 57 = .ok (.ior, 1) := by decide +kernel
theorem dX12_heart_58 : decode cX12_heart 58 = .ok (.istore_n 3, 1) := by decide +kernel
theorem dX12_heart_59 : decode cX12_heart 59 = .ok (.iinc 4 1, 3) := by decide +kernel
theorem dX12_heart_62 : decode cX12_heart 62 = .ok (.goto (-37), 3) := by decide +kernel
theorem dX12_heart_65 : decode cX12_heart 65 = .ok (.iload_n 3, 1) := by decide +kernel
theorem dX12_heart_66 : decode cX12_heart 66 = .ok (.ireturn, 1) := by decide +kernel
theorem dX12_greaterPart_0 : decode cX12_greaterPart 0 = .ok (.iconst 0, 1) := by decide +kernel
theorem dX12_greaterPart_1 : decode cX12_greaterPart 1 = .ok (.istore 4, 2) := by decide +kernel
theorem dX12_greaterPart_3 : decode cX12_greaterPart 3 = .ok (.iconst 0, 1) := by decide +kernel
theorem dX12_greaterPart_4 : decode cX12_greaterPart 4 = .ok (.istore 5, 2) := by decide +kernel
theorem dX12_greaterPart_6 : decode cX12_greaterPart 6 = .ok (.iconst 0, 1) := by decide +kernel
theorem dX12_greaterPart_7 : decode cX12_greaterPart 7 = .ok (.istore 6, 2) := by decide +kernel
theorem dX12_greaterPart_9 : decode cX12_greaterPart 9 = .ok (.iload 6, 2) := by decide +kernel
theorem dX12_greaterPart_11 : decode cX12_greaterPart 11 = .ok (.iconst 5, 1) := by decide +kernel
theorem dX12_greaterPart_12 : decode cX12_greaterPart 12 = .ok (.if_icmp .gt 69, 3) := by decide +kernel
theorem dX12_greaterPart_15 : decode cX12_greaterPart 15 = .ok (.iload_n 3, 1) := by decide +kernel
theorem dX12_greaterPart_16 : decode cX12_greaterPart 16 = .ok (.iload 6, 2) := by decide +kernel
theorem dX12_greaterPart_18 : decode cX12_greaterPart 18 = .ok (.invokestatic 186, 3) := by decide +kernel
theorem dX12_greaterPart_21 : decode cX12_greaterPart 21 = .ok (.ifCond .eq 54, 3) := by decide +kernel
theorem dX12_greaterPart_24 : decode cX12_greaterPart 24 = .ok (.iload 6, 2) := by decide +kernel
theorem dX12_greaterPart_26 : decode cX12_greaterPart 26 = .ok (.aload_n 0, 1) := by decide +kernel
theorem dX12_greaterPart_27 : decode cX12_greaterPart 27 = .ok (.iload_n 1, 1) := by decide +kernel
theorem dX12_greaterPart_28 : decode cX12_greaterPart 28 = .ok (.iload_n 2, 1) := by decide +kernel
theorem dX12_greaterPart_29 : decode cX12_greaterPart 29 = .ok (.invokevirtual 189, 3) := by decide +kernel
theorem dX12_greaterPart_32 : decode cX12_greaterPart 32 = .ok (.aload_n 0, 1) := by decide +kernel
theorem dX12_greaterPart_33 : decode cX12_greaterPart 33 = .ok (.getfield 13, 3) := by decide +kernel
theorem dX12_greaterPart_36 : decode cX12_greaterPart 36 = .ok (.aload_n 0, 1) := by decide +kernel
theorem dX12_greaterPart_37 : decode cX12_greaterPart 37 = .ok (.getfield 85, 3) := by decide +kernel
theorem dX12_greaterPart_40 : decode cX12_greaterPart 40 = .ok (.invokestatic 193, 3) := by decide +kernel
theorem dX12_greaterPart_43 : decode cX12_greaterPart 43 = .ok (.istore 7, 2) := by decide +kernel
theorem dX12_greaterPart_45 : decode cX12_greaterPart 45 = .ok (.iload 4, 2) := by decide +kernel
theorem dX12_greaterPart_47 : decode cX12_greaterPart 47 = .ok (.iload 7, 2) := by decide +kernel
theorem dX12_greaterPart_49 : decode cX12_greaterPart 49 = .ok (.ifCond .eq 7, 3) := by decide +kernel
theorem dX12_greaterPart_52 : decode cX12_greaterPart 52 = .ok (.iconst 1, 1) := by decide +kernel
theorem dX12_greaterPart_53 : decode cX12_greaterPart 53 = .ok (.goto 4, 3) := by decide +kernel
theorem dX12_greaterPart_56 : decode cX12_greaterPart 56 = .ok (.iconst 0, 1) := by decide +kernel
theorem dX12_greaterPart_57 : decode cX12_greaterPart 57 = .ok (.iadd, 1) := by decide +kernel
theorem dX12_greaterPart_58 : decode cX12_greaterPart 58 = .ok (.istore 4, 2) := by decide +kernel
theorem dX12_greaterPart_60 : decode cX12_greaterPart 60 = .ok (.iload 5, 2) := by decide +kernel
theorem dX12_greaterPart_62 : decode cX12_greaterPart 62 = .ok (.iload 7, 2) := by decide +kernel
theorem dX12_greaterPart_64 : decode cX12_greaterPart 64 = .ok (.ifCond .eq 7, 3) := by decide +kernel
theorem dX12_greaterPart_67 : decode cX12_greaterPart 67 = .ok (.iconst 0, 1) := by decide +kernel
theorem dX12_greaterPart_68 : decode cX12_greaterPart 68 = .ok (.goto 4, 3) := by decide +kernel
theorem dX12_greaterPart_71 : decode cX12_greaterPart 71 = .ok (.iconst 1, 1) := by decide +kernel
theorem dX12_greaterPart_72 : decode cX12_greaterPart 72 = .ok (.iadd, 1) := by decide +kernel
theorem dX12_greaterPart_73 : decode cX12_greaterPart 73 = .ok (.istore 5, 2) := by decide +kernel
theorem dX12_greaterPart_75 : decode cX12_greaterPart 75 = .ok (.iinc 6 1, 3) := by decide +kernel
theorem dX12_greaterPart_78 : decode cX12_greaterPart 78 = .ok (.goto (-69), 3) := by decide +kernel
theorem dX12_greaterPart_81 : decode cX12_greaterPart 81 = .ok (.iload 4, 2) := by decide +kernel
theorem dX12_greaterPart_83 : decode cX12_greaterPart 83 = .ok (.iload 5, 2) := by decide +kernel
theorem dX12_greaterPart_85 : decode cX12_greaterPart 85 = .ok (.if_icmp .le 8, 3) := by decide +kernel
theorem dX12_greaterPart_88 : decode cX12_greaterPart 88 = .ok (.iload 4, 2) := by decide +kernel
theorem dX12_greaterPart_90 : decode cX12_greaterPart 90 = .ok (.goto 5, 3) := by decide +kernel
theorem dX12_greaterPart_93 : decode cX12_greaterPart 93 = .ok (.iload 5, 2) := by decide +kernel
theorem dX12_greaterPart_95 : decode cX12_greaterPart 95 = .ok (.ireturn, 1) := by decide +kernel
theorem dX12_next_0 : decode cX12_next 0 = .ok (.aload_n 0, 1) := by decide +kernel
theorem dX12_next_1 : decode cX12_next 1 = .ok (.iload_n 1, 1) := by decide +kernel
theorem dX12_next_2 : decode cX12_next 2 = .ok (.invokevirtual 221, 3) := by decide +kernel
theorem dX12_next_5 : decode cX12_next 5 = .ok (.ifCond .ne 8, 3) := by decide +kernel
theorem dX12_next_8 : decode cX12_next 8 = .ok (.aload_n 0, 1) := by decide +kernel
theorem dX12_next_9 : decode cX12_next 9 = .ok (.invokevirtual 101, 3) := by decide +kernel
theorem dX12_next_12 : decode cX12_next 12 = .ok (.ireturn, 1) := by decide +kernel
theorem dX12_next_13 : decode cX12_next 13 = .ok (.aload_n 0, 1) := by decide +kernel
theorem dX12_next_14 : decode cX12_next 14 = .ok (.iload_n 1, 1) := by decide +kernel
theorem dX12_next_15 : decode cX12_next 15 = .ok (.invokevirtual 269, 3) := by decide +kernel
theorem dX12_next_18 : decode cX12_next 18 = .ok (.istore_n 2, 1) := by decide +kernel
theorem dX12_next_19 : decode cX12_next 19 = .ok (.iload_n 2, 1) := by decide +kernel
theorem dX12_next_20 : decode cX12_next 20 = .ok (.ifCond .ne 7, 3) := by decide +kernel
theorem dX12_next_23 : decode cX12_next 23 = .ok (.iconst (-1), 1) := by decide +kernel
theorem dX12_next_24 : decode cX12_next 24 = .ok (.goto 4, 3) := by decide +kernel
theorem dX12_next_27 : decode cX12_next 27 = .ok (.iconst 0, 1) := by decide +kernel
theorem dX12_next_28 : decode cX12_next 28 = .ok (.istore_n 3, 1) := by decide +kernel
theorem dX12_next_29 : decode cX12_next 29 = .ok (.iconst 1, 1) := by decide +kernel
theorem dX12_next_30 : decode cX12_next 30 = .ok (.istore 4, 2) := by decide +kernel
theorem dX12_next_32 : decode cX12_next 32 = .ok (.iload 4, 2) := by decide +kernel
theorem dX12_next_34 : decode cX12_next 34 = .ok (.bipush 8, 2) := by decide +kernel
theorem dX12_next_36 : decode cX12_next 36 = .ok (.if_icmp .ge 38, 3) := by decide +kernel
theorem dX12_next_39 : decode cX12_next 39 = .ok (.iload_n 2, 1) := by decide +kernel
theorem dX12_next_40 : decode cX12_next 40 = .ok (.ifCond .eq 34, 3) := by decide +kernel
theorem dX12_next_43 : decode cX12_next 43 = .ok (.aload_n 0, 1) := by decide +kernel
theorem dX12_next_44 : decode cX12_next 44 = .ok (.iload_n 1, 1) := by decide +kernel
theorem dX12_next_45 : decode cX12_next 45 = .ok (.iload 4, 2) := by decide +kernel
theorem dX12_next_47 : decode cX12_next 47 = .ok (.iload_n 2, 1) := by decide +kernel
theorem dX12_next_48 : decode cX12_next 48 = .ok (.invokevirtual 272, 3) := by decide +kernel
theorem dX12_next_51 : decode cX12_next 51 = .ok (.aload_n 0, 1) := by decide +kernel
theorem dX12_next_52 : decode cX12_next 52 = .ok (.iload_n 1, 1) := by decide +kernel
theorem dX12_next_53 : decode cX12_next 53 = .ok (.iload_n 3, 1) := by decide +kernel
theorem dX12_next_54 : decode cX12_next 54 = .ok (.iload_n 2, 1) := by decide +kernel
theorem dX12_next_55 : decode cX12_next 55 = .ok (.invokevirtual 272, 3) := by decide +kernel
theorem dX12_next_58 : decode cX12_next 58 = .ok (.if_icmp .ge 8, 3) := by decide +kernel
theorem dX12_next_61 : decode cX12_next 61 = .ok (.iload 4, 2) := by decide +kernel
theorem dX12_next_63 : decode cX12_next 63 = .ok (.goto 4, 3) := by decide +kernel
theorem dX12_next_66 : decode cX12_next 66 = .ok (.iload_n 3, 1) := by decide +kernel
theorem dX12_next_67 : decode cX12_next 67 = .ok (.istore_n 3, 1) := by decide +kernel
theorem dX12_next_68 : decode cX12_next 68 = .ok (.iinc 4 1, 3) := by decide +kernel
theorem dX12_next_71 : decode cX12_next 71 = .ok (.goto (-39), 3) := by decide +kernel
theorem dX12_next_74 : decode cX12_next 74 = .ok (.iload_n 3, 1) := by decide +kernel
theorem dX12_next_75 : decode cX12_next 75 = .ok (.ireturn, 1) := by decide +kernel
theorem dX12_gets_0 : decode cX12_gets 0 = .ok (.aload_n 0, 1) := by decide +kernel
theorem dX12_gets_1 : decode cX12_gets 1 = .ok (.iload_n 1, 1) := by decide +kernel
theorem dX12_gets_2 : decode cX12_gets 2 = .ok (.iload_n 2, 1) := by decide +kernel
theorem dX12_gets_3 : decode cX12_gets 3 = .ok (.invokevirtual 189, 3) := by decide +kernel
theorem dX12_gets_6 : decode cX12_gets 6 = .ok (.istore 5, 2) := by decide +kernel
theorem dX12_gets_8 : decode cX12_gets 8 = .ok (.iload_n 3, 1) := by decide +kernel
theorem dX12_gets_9 : decode cX12_gets 9 = .ok (.ifCond .eq 32, 3) := by decide +kernel
theorem dX12_gets_12 : decode cX12_gets 12 = .ok (.iload 4, 2) := by decide +kernel
theorem dX12_gets_14 : decode cX12_gets 14 = .ok (.ifCond .eq 27, 3) := by decide +kernel
theorem dX12_gets_17 : decode cX12_gets 17 = .ok (.iload 5, 2) := by decide +kernel
theorem dX12_gets_19 : decode cX12_gets 19 = .ok (.ifCond .ne 7, 3) := by decide +kernel
theorem dX12_gets_22 : decode cX12_gets 22 = .ok (.iconst 2, 1) := by decide +kernel
theorem dX12_gets_23 : decode cX12_gets 23 = .ok (.goto 36, 3) := by decide +kernel
theorem dX12_gets_26 : decode cX12_gets 26 = .ok (.iload 5, 2) := by decide +kernel
theorem dX12_gets_28 : decode cX12_gets 28 = .ok (.iconst 1, 1) := by decide +kernel
theorem dX12_gets_29 : decode cX12_gets 29 = .ok (.if_icmp .ne 8, 3) := by decide +kernel
theorem dX12_gets_32 : decode cX12_gets 32 = .ok (.bipush (-2), 2) := by decide +kernel
theorem dX12_gets_34 : decode cX12_gets 34 = .ok (.goto 25, 3) := by decide +kernel
theorem dX12_gets_37 : decode cX12_gets 37 = .ok (.iconst 0, 1) := by decide +kernel
theorem dX12_gets_38 : decode cX12_gets 38 = .ok (.goto 21, 3) := by decide +kernel
theorem dX12_gets_41 : decode cX12_gets 41 = .ok (.iload_n 3, 1) := by decide +kernel
theorem dX12_gets_42 : decode cX12_gets 42 = .ok (.ifCond .eq 7, 3) := by decide +kernel
theorem dX12_gets_45 : decode cX12_gets 45 = .ok (.iconst (-1), 1) := by decide +kernel
theorem dX12_gets_46 : decode cX12_gets 46 = .ok (.goto 13, 3) := by decide +kernel
theorem dX12_gets_49 : decode cX12_gets 49 = .ok (.iload 4, 2) := by decide +kernel
theorem dX12_gets_51 : decode cX12_gets 51 = .ok (.ifCond .eq 7, 3) := by decide +kernel
theorem dX12_gets_54 : decode cX12_gets 54 = .ok (.iconst 1, 1) := by decide +kernel
theorem dX12_gets_55 : decode cX12_gets 55 = .ok (.goto 4, 3) := by decide +kernel
theorem dX12_gets_58 : decode cX12_gets 58 = .ok (.iconst 0, 1) := by decide +kernel
theorem dX12_gets_59 : decode cX12_gets 59 = .ok (.ireturn, 1) := by decide +kernel
theorem dX12_spite_0 : decode cX12_spite 0 = .ok (.iload_n 1, 1) := by decide +kernel
theorem dX12_spite_1 : decode cX12_spite 1 = .ok (.invokestatic 227, 3) := by decide +kernel
theorem dX12_spite_4 : decode cX12_spite 4 = .ok (.ifCond .ne 8, 3) := by decide +kernel
theorem dX12_spite_7 : decode cX12_spite 7 = .ok (.aload_n 0, 1) := by decide +kernel
theorem dX12_spite_8 : decode cX12_spite 8 = .ok (.invokevirtual 101, 3) := by decide +kernel
theorem dX12_spite_11 : decode cX12_spite 11 = .ok (.ireturn, 1) := by decide +kernel
theorem dX12_spite_12 : decode cX12_spite 12 = .ok (.aload_n 0, 1) := by decide +kernel
theorem dX12_spite_13 : decode cX12_spite 13 = .ok (.invokevirtual 196, 3) := by decide +kernel
theorem dX12_spite_16 : decode cX12_spite 16 = .ok (.ifCond .ne 8, 3) := by decide +kernel
theorem dX12_spite_19 : decode cX12_spite 19 = .ok (.aload_n 0, 1) := by decide +kernel
theorem dX12_spite_20 : decode cX12_spite 20 = .ok (.invokevirtual 230, 3) := by decide +kernel
theorem dX12_spite_23 : decode cX12_spite 23 = .ok (.ireturn, 1) := by decide +kernel
theorem dX12_spite_24 : decode cX12_spite 24 = .ok (.iconst 0, 1) := by decide +kernel
theorem dX12_spite_25 : decode cX12_spite 25 = .ok (.istore_n 2, 1) := by decide +kernel
theorem dX12_spite_26 : decode cX12_spite 26 = .ok (.iconst 0, 1) := by decide +kernel
theorem dX12_spite_27 : decode cX12_spite 27 = .ok (.istore_n 3, 1) := by decide +kernel
theorem dX12_spite_28 : decode cX12_spite 28 = .ok (.iload_n 3, 1) := by decide +kernel
theorem dX12_spite_29 : decode cX12_spite 29 = .ok (.iconst 4, 1) := by decide +kernel
theorem dX12_spite_30 : decode cX12_spite 30 = .ok (.if_icmp .ge 131, 3) := by decide +kernel
theorem dX12_spite_33 : decode cX12_spite 33 = .ok (.iload_n 3, 1) := by decide +kernel
theorem dX12_spite_34 : decode cX12_spite 34 = .ok (.iconst 2, 1) := by decide +kernel
theorem dX12_spite_35 : decode cX12_spite 35 = .ok (.irem, 1) := by decide +kernel
theorem dX12_spite_36 : decode cX12_spite 36 = .ok (.iconst 1, 1) := by decide +kernel
theorem dX12_spite_37 : decode cX12_spite 37 = .ok (.if_icmp .ne 7, 3) := by decide +kernel
theorem dX12_spite_40 : decode cX12_spite 40 = .ok (.iconst 1, 1) := by decide +kernel
theorem dX12_spite_41 : decode cX12_spite 41 = .ok (.goto 4, 3) := by decide +kernel
theorem dX12_spite_44 : decode cX12_spite 44 = .ok (.iconst 0, 1) := by decide +kernel
theorem dX12_spite_45 : decode cX12_spite 45 = .ok (.istore 4, 2) := by decide +kernel
theorem dX12_spite_47 : decode cX12_spite 47 = .ok (.iload_n 3, 1) := by decide +kernel
theorem dX12_spite_48 : decode cX12_spite 48 = .ok (.iconst 1, 1) := by decide +kernel
theorem dX12_spite_49 : decode cX12_spite 49 = .ok (.if_icmp .le 7, 3) := by decide +kernel
theorem dX12_spite_52 : decode cX12_spite 52 = .ok (.iconst 1, 1) := by decide +kernel
theorem dX12_spite_53 : decode cX12_spite 53 = .ok (.goto 4, 3) := by decide +kernel
theorem dX12_spite_56 : decode cX12_spite 56 = .ok (.iconst 0, 1) := by decide +kernel
theorem dX12_spite_57 : decode cX12_spite 57 = .ok (.istore 5, 2) := by decide +kernel
theorem dX12_spite_59 : decode cX12_spite 59 = .ok (.aload_n 0, 1) := by decide +kernel
theorem dX12_spite_60 : decode cX12_spite 60 = .ok (.aload_n 0, 1) := by decide +kernel
theorem dX12_spite_61 : decode cX12_spite 61 = .ok (.getfield 17, 3) := by decide +kernel
theorem dX12_spite_64 : decode cX12_spite 64 = .ok (.iload_n 1, 1) := by decide +kernel
theorem dX12_spite_65 : decode cX12_spite 65 = .ok (.iload 4, 2) := by decide +kernel
theorem dX12_spite_67 : decode cX12_spite 67 = .ok (.iload 5, 2) := by decide +kernel
theorem dX12_spite_69 : decode cX12_spite 69 = .ok (.invokevirtual 276, 3) := by decide +kernel
theorem dX12_spite_72 : decode cX12_spite 72 = .ok (.aload_n 0, 1) := by decide +kernel
theorem dX12_spite_73 : decode cX12_spite 73 = .ok (.aload_n 0, 1) := by decide +kernel
theorem dX12_spite_74 : decode cX12_spite 74 = .ok (.getfield 17, 3) := by decide +kernel
theorem dX12_spite_77 : decode cX12_spite 77 = .ok (.iload_n 1, 1) := by decide +kernel
theorem dX12_spite_78 : decode cX12_spite 78 = .ok (.iload 4, 2) := by decide +kernel
theorem dX12_spite_80 : decode cX12_spite 80 = .ok (.ifCond .ne 7, 3) := by decide +kernel
theorem dX12_spite_83 : decode cX12_spite 83 = .ok (.iconst 1, 1) := by decide +kernel
theorem dX12_spite_84 : decode cX12_spite 84 = .ok (.goto 4, 3) := by decide +kernel
theorem dX12_spite_87 : decode cX12_spite 87 = .ok (.iconst 0, 1) := by decide +kernel
theorem dX12_spite_88 : decode cX12_spite 88 = .ok (.iload 5, 2) := by decide +kernel
theorem dX12_spite_90 : decode cX12_spite 90 = .ok (.invokevirtual 276, 3) := by decide +kernel
theorem dX12_spite_93 : decode cX12_spite 93 = .ok (.if_icmp .lt 44, 3) := by decide +kernel
theorem dX12_spite_96 : decode cX12_spite 96 = .ok (.aload_n 0, 1) := by decide +kernel
theorem dX12_spite_97 : decode cX12_spite 97 = .ok (.aload_n 0, 1) := by decide +kernel
theorem dX12_spite_98 : decode cX12_spite 98 = .ok (.getfield 20, 3) := by decide +kernel
theorem dX12_spite_101 : decode cX12_spite 101 = .ok (.iload_n 1, 1) := by decide +kernel
theorem dX12_spite_102 : decode cX12_spite 102 = .ok (.iload 5, 2) := by decide +kernel
theorem dX12_spite_104 : decode cX12_spite 104 = .ok (.iload 4, 2) := by decide +kernel
theorem dX12_spite_106 : decode cX12_spite 106 = .ok (.invokevirtual 276, 3) := by decide +kernel
theorem dX12_spite_109 : decode cX12_spite 109 = .ok (.aload_n 0, 1) := by decide +kernel
theorem dX12_spite_110 : decode cX12_spite 110 = .ok (.aload_n 0, 1) := by decide +kernel
theorem dX12_spite_111 : decode cX12_spite 111 = .ok (.getfield 20, 3) := by decide +kernel
theorem dX12_spite_114 : decode cX12_spite 114 = .ok (.iload_n 1, 1) := by decide +kernel
theorem dX12_spite_115 : decode cX12_spite 115 = .ok (.iload 5, 2) := by decide +kernel
theorem dX12_spite_117 : decode cX12_spite 117 = .ok (.ifCond .ne 7, 3) := by decide +kernel
theorem dX12_spite_120 : decode cX12_spite 120 = .ok (.iconst 1, 1) := by decide +kernel
theorem dX12_spite_121 : decode cX12_spite 121 = .ok (.goto 4, 3) := by decide +kernel
theorem dX12_spite_124 : decode cX12_spite 124 = .ok (.iconst 0, 1) := by decide +kernel
theorem dX12_spite_125 : decode cX12_spite 125 = .ok (.iload 4, 2) := by decide +kernel
theorem dX12_spite_127 : decode cX12_spite 127 = .ok (.invokevirtual 276, 3) := by decide +kernel
theorem dX12_spite_130 : decode cX12_spite 130 = .ok (.if_icmp .lt 7, 3) := by decide +kernel
theorem dX12_spite_133 : decode cX12_spite 133 = .ok (.iconst 1, 1) := by decide +kernel
theorem dX12_spite_134 : decode cX12_spite 134 = .ok (.goto 4, 3) := by decide +kernel
theorem dX12_spite_137 : decode cX12_spite 137 = .ok (.iconst 0, 1) := by decide +kernel
theorem dX12_spite_138 : decode cX12_spite 138 = .ok (.istore 6, 2) := by decide +kernel
theorem dX12_spite_140 : decode cX12_spite 140 = .ok (.iload_n 2, 1) := by decide +kernel
theorem dX12_spite_141 : decode cX12_spite 141 = .ok (.iload 6, 2) := by decide +kernel
theorem dX12_spite_143 : decode cX12_spite 143 = .ok (.ifCond .eq 9, 3) := by decide +kernel
theorem dX12_spite_146 : decode cX12_spite 146 = .ok (.iconst 1, 1) := by decide +kernel
theorem dX12_spite_147 : decode cX12_spite 147 = .ok (.iload_n 3, 1) := by decide +kernel
theorem dX12_spite_148 : decode cX12_spite 148 = .ok (.ishl, 1) := by decide +kernel
theorem dX12_spite_149 : decode cX12_spite 149 = .ok (.goto 4, 3) := by decide +kernel
theorem dX12_spite_152 : decode cX12_spite 152 = .ok (.iconst 0, 1) := by decide +kernel
theorem dX12_spite_153 : decode cX12_spite 153 = .ok (.ior, 1) := by decide +kernel
theorem dX12_spite_154 : decode cX12_spite 154 = .ok (.istore_n 2, 1) := by decide +kernel
theorem dX12_spite_155 : decode cX12_spite 155 = .ok (.iinc 3 1, 3) := by decide +kernel
theorem dX12_spite_158 : decode cX12_spite 158 = .ok (.goto (-130), 3) := by decide +kernel
theorem dX12_spite_161 : decode cX12_spite 161 = .ok (.iload_n 2, 1) := by decide +kernel
theorem dX12_spite_162 : decode cX12_spite 162 = .ok (.ireturn, 1) := by decide +kernel
theorem dX12_lay_0 : decode cX12_lay 0 = .ok (.lload_n 1, 1) := by decide +kernel
theorem dX12_lay_1 : decode cX12_lay 1 = .ok (.lstore 5, 2) := by decide +kernel
theorem dX12_lay_3 : decode cX12_lay 3 = .ok (.lload_n 3, 1) := by decide +kernel
theorem dX12_lay_4 : decode cX12_lay 4 = .ok (.lstore 7, 2) := by decide +kernel
theorem dX12_lay_6 : decode cX12_lay 6 = .ok (.lload 7, 2) := by decide +kernel
theorem dX12_lay_8 : decode cX12_lay 8 = .ok (.lconst 0, 1) := by decide +kernel
theorem dX12_lay_9 : decode cX12_lay 9 = .ok (.lcmp, 1) := by decide +kernel
theorem dX12_lay_10 : decode cX12_lay 10 = .ok (.ifCond .eq 21, 3) := by decide +kernel
theorem dX12_lay_13 : decode cX12_lay 13 = .ok (.lload 5, 2) := by decide +kernel
theorem dX12_lay_15 : decode cX12_lay 15 = .ok (.lload 7, 2) := by decide +kernel
theorem dX12_lay_17 : decode cX12_lay 17 = .ok (.lrem, 1) := by decide +kernel
theorem dX12_lay_18 : decode cX12_lay 18 = .ok (.lstore 9, 2) := by decide +kernel
theorem dX12_lay_20 : decode cX12_lay 20 = .ok (.lload 7, 2) := by decide +kernel
theorem dX12_lay_22 : decode cX12_lay 22 = .ok (.lstore 5, 2) := by decide +kernel
theorem dX12_lay_24 : decode cX12_lay 24 = .ok (.lload 9, 2) := by decide +kernel
theorem dX12_lay_26 : decode cX12_lay 26 = .ok (.lstore 7, 2) := by decide +kernel
theorem dX12_lay_28 : decode cX12_lay 28 = .ok (.goto (-22), 3) := by decide +kernel
theorem dX12_lay_31 : decode cX12_lay 31 = .ok (.aload_n 0, 1) := by decide +kernel
theorem dX12_lay_32 : decode cX12_lay 32 = .ok (.lload_n 1, 1) := by decide +kernel
theorem dX12_lay_33 : decode cX12_lay 33 = .ok (.lload 5, 2) := by decide +kernel
theorem dX12_lay_35 : decode cX12_lay 35 = .ok (.ldiv, 1) := by decide +kernel
theorem dX12_lay_36 : decode cX12_lay 36 = .ok (.putfield 280, 3) := by decide +kernel
theorem dX12_lay_39 : decode cX12_lay 39 = .ok (.aload_n 0, 1) := by decide +kernel
theorem dX12_lay_40 : decode cX12_lay 40 = .ok (.lload_n 3, 1) := by decide +kernel
theorem dX12_lay_41 : decode cX12_lay 41 = .ok (.lload 5, 2) := by decide +kernel
theorem dX12_lay_43 : decode cX12_lay 43 = .ok (.ldiv, 1) := by decide +kernel
theorem dX12_lay_44 : decode cX12_lay 44 = .ok (.putfield 68, 3) := by decide +kernel
theorem dX12_lay_47 : decode cX12_lay 47 = .ok (.return_, 1) := by decide +kernel
theorem dX12_slips_0 : decode cX12_slips 0 = .ok (.iload_n 1, 1) := by decide +kernel
theorem dX12_slips_1 : decode cX12_slips 1 = .ok (.invokestatic 227, 3) := by decide +kernel
theorem dX12_slips_4 : decode cX12_slips 4 = .ok (.ifCond .eq 13, 3) := by decide +kernel
theorem dX12_slips_7 : decode cX12_slips 7 = .ok (.iload_n 2, 1) := by decide +kernel
theorem dX12_slips_8 : decode cX12_slips 8 = .ok (.iconst 0, 1) := by decide +kernel
theorem dX12_slips_9 : decode cX12_slips 9 = .ok (.bipush 10, 2) := by decide +kernel
theorem dX12_slips_11 : decode cX12_slips 11 = .ok (.invokestatic 97, 3) := by decide +kernel
theorem dX12_slips_14 : decode cX12_slips 14 = .ok (.ifCond .ne 8, 3) := by decide +kernel
theorem dX12_slips_17 : decode cX12_slips 17 = .ok (.aload_n 0, 1) := by decide +kernel
theorem dX12_slips_18 : decode cX12_slips 18 = .ok (.invokevirtual 101, 3) := by decide +kernel
theorem dX12_slips_21 : decode cX12_slips 21 = .ok (.ireturn, 1) := by decide +kernel
theorem dX12_slips_22 : decode cX12_slips 22 = .ok (.aload_n 0, 1) := by decide +kernel
theorem dX12_slips_23 : decode cX12_slips 23 = .ok (.invokevirtual 196, 3) := by decide +kernel
theorem dX12_slips_26 : decode cX12_slips 26 = .ok (.ifCond .ne 8, 3) := by decide +kernel
theorem dX12_slips_29 : decode cX12_slips 29 = .ok (.aload_n 0, 1) := by decide +kernel
theorem dX12_slips_30 : decode cX12_slips 30 = .ok (.invokevirtual 230, 3) := by decide +kernel
theorem dX12_slips_33 : decode cX12_slips 33 = .ok (.ireturn, 1) := by decide +kernel
theorem dX12_slips_34 : decode cX12_slips 34 = .ok (.aload_n 0, 1) := by decide +kernel
theorem dX12_slips_35 : decode cX12_slips 35 = .ok (.aload_n 0, 1) := by decide +kernel
theorem dX12_slips_36 : decode cX12_slips 36 = .ok (.getfield 17, 3) := by decide +kernel
theorem dX12_slips_39 : decode cX12_slips 39 = .ok (.iload_n 1, 1) := by decide +kernel
theorem dX12_slips_40 : decode cX12_slips 40 = .ok (.invokevirtual 208, 3) := by decide +kernel
theorem dX12_slips_43 : decode cX12_slips 43 = .ok (.ifCond .eq 10, 3) := by decide +kernel
theorem dX12_slips_46 : decode cX12_slips 46 = .ok (.bipush 10, 2) := by decide +kernel
theorem dX12_slips_48 : decode cX12_slips 48 = .ok (.iload_n 2, 1) := by decide +kernel
theorem dX12_slips_49 : decode cX12_slips 49 = .ok (.isub, 1) := by decide +kernel
theorem dX12_slips_50 : decode cX12_slips 50 = .ok (.goto 4, 3) := by decide +kernel
theorem dX12_slips_53 : decode cX12_slips 53 = .ok (.iload_n 2, 1) := by decide +kernel
theorem dX12_slips_54 : decode cX12_slips 54 = .ok (.istore_n 3, 1) := by decide +kernel
theorem dX12_slips_55 : decode cX12_slips 55 = .ok (.aload_n 0, 1) := by decide +kernel
theorem dX12_slips_56 : decode cX12_slips 56 = .ok (.aload_n 0, 1) := by decide +kernel
theorem dX12_slips_57 : decode cX12_slips 57 = .ok (.getfield 20, 3) := by decide +kernel
theorem dX12_slips_60 : decode cX12_slips 60 = .ok (.iload_n 1, 1) := by decide +kernel
theorem dX12_slips_61 : decode cX12_slips 61 = .ok (.invokevirtual 208, 3) := by decide +kernel
theorem dX12_slips_64 : decode cX12_slips 64 = .ok (.ifCond .eq 10, 3) := by decide +kernel
theorem dX12_slips_67 : decode cX12_slips 67 = .ok (.bipush 10, 2) := by decide +kernel
theorem dX12_slips_69 : decode cX12_slips 69 = .ok (.iload_n 2, 1) := by decide +kernel
theorem dX12_slips_70 : decode cX12_slips 70 = .ok (.isub, 1) := by decide +kernel
theorem dX12_slips_71 : decode cX12_slips 71 = .ok (.goto 4, 3) := by decide +kernel
theorem dX12_slips_74 : decode cX12_slips 74 = .ok (.iload_n 2, 1) := by decide +kernel
theorem dX12_slips_75 : decode cX12_slips 75 = .ok (.istore 4, 2) := by decide +kernel
theorem dX12_slips_77 : decode cX12_slips 77 = .ok (.aload_n 0, 1) := by decide +kernel
theorem dX12_slips_78 : decode cX12_slips 78 = .ok (.iload_n 3, 1) := by decide +kernel
theorem dX12_slips_79 : decode cX12_slips 79 = .ok (.iload 4, 2) := by decide +kernel
theorem dX12_slips_81 : decode cX12_slips 81 = .ok (.imul, 1) := by decide +kernel
theorem dX12_slips_82 : decode cX12_slips 82 = .ok (.i2l, 1) := by decide +kernel
theorem dX12_slips_83 : decode cX12_slips 83 = .ok (.ldc2_w 283, 3) := by decide +kernel
theorem dX12_slips_86 : decode cX12_slips 86 = .ok (.invokevirtual 285, 3) := by decide +kernel
theorem dX12_slips_89 : decode cX12_slips 89 = .ok (.iconst 1, 1) := by decide +kernel
theorem dX12_slips_90 : decode cX12_slips 90 = .ok (.ireturn, 1) := by decide +kernel
theorem dX12_reigns_0 : decode cX12_reigns 0 = .ok (.iload_n 1, 1) := by decide +kernel
theorem dX12_reigns_1 : decode cX12_reigns 1 = .ok (.iconst 0, 1) := by decide +kernel
theorem dX12_reigns_2 : decode cX12_reigns 2 = .ok (.ldc_w 289, 3) := by decide +kernel
theorem dX12_reigns_5 : decode cX12_reigns 5 = .ok (.invokestatic 97, 3) := by decide +kernel
theorem dX12_reigns_8 : decode cX12_reigns 8 = .ok (.ifCond .eq 13, 3) := by decide +kernel
theorem dX12_reigns_11 : decode cX12_reigns 11 = .ok (.iload_n 2, 1) := by decide +kernel
theorem dX12_reigns_12 : decode cX12_reigns 12 = .ok (.iconst 0, 1) := by decide +kernel
theorem dX12_reigns_13 : decode cX12_reigns 13 = .ok (.bipush 60, 2) := by decide +kernel
theorem dX12_reigns_15 : decode cX12_reigns 15 = .ok (.invokestatic 97, 3) := by decide +kernel
theorem dX12_reigns_18 : decode cX12_reigns 18 = .ok (.ifCond .ne 8, 3) := by decide +kernel
theorem dX12_reigns_21 : decode cX12_reigns 21 = .ok (.aload_n 0, 1) := by decide +kernel
theorem dX12_reigns_22 : decode cX12_reigns 22 = .ok (.invokevirtual 101, 3) := by decide +kernel
theorem dX12_reigns_25 : decode cX12_reigns 25 = .ok (.ireturn, 1) := by decide +kernel
theorem dX12_reigns_26 : decode cX12_reigns 26 = .ok (.aload_n 0, 1) := by decide +kernel
theorem dX12_reigns_27 : decode cX12_reigns 27 = .ok (.invokevirtual 196, 3) := by decide +kernel
theorem dX12_reigns_30 : decode cX12_reigns 30 = .ok (.ifCond .ne 8, 3) := by decide +kernel
theorem dX12_reigns_33 : decode cX12_reigns 33 = .ok (.aload_n 0, 1) := by decide +kernel
theorem dX12_reigns_34 : decode cX12_reigns 34 = .ok (.invokevirtual 230, 3) := by decide +kernel
theorem dX12_reigns_37 : decode cX12_reigns 37 = .ok (.ireturn, 1) := by decide +kernel
theorem dX12_reigns_38 : decode cX12_reigns 38 = .ok (.aload_n 0, 1) := by decide +kernel
theorem dX12_reigns_39 : decode cX12_reigns 39 = .ok (.invokevirtual 239, 3) := by decide +kernel
theorem dX12_reigns_42 : decode cX12_reigns 42 = .ok (.iload_n 1, 1) := by decide +kernel
theorem dX12_reigns_43 : decode cX12_reigns 43 = .ok (.i2l, 1) := by decide +kernel
theorem dX12_reigns_44 : decode cX12_reigns 44 = .ok (.lstore_n 3, 1) := by decide +kernel
theorem dX12_reigns_45 : decode cX12_reigns 45 = .ok (.iconst 0, 1) := by decide +kernel
theorem dX12_reigns_46 : decode cX12_reigns 46 = .ok (.istore 5, 2) := by decide +kernel
theorem dX12_reigns_48 : decode cX12_reigns 48 = .ok (.iload 5, 2) := by decide +kernel
theorem dX12_reigns_50 : decode cX12_reigns 50 = .ok (.iload_n 2, 1) := by decide +kernel
theorem dX12_reigns_51 : decode cX12_reigns 51 = .ok (.if_icmp .ge 58, 3) := by decide +kernel
theorem dX12_reigns_54 : decode cX12_reigns 54 = .ok (.lload_n 3, 1) := by decide +kernel
theorem dX12_reigns_55 : decode cX12_reigns 55 = .ok (.ldc2_w 290, 3) := by decide +kernel
theorem dX12_reigns_58 : decode cX12_reigns 58 = .ok (.lmul, 1) := by decide +kernel
theorem dX12_reigns_59 : decode cX12_reigns 59 = .ok (.ldc2_w 292, 3) := by decide +kernel
theorem dX12_reigns_62 : decode cX12_reigns 62 = .ok (.ladd, 1) := by decide +kernel
theorem dX12_reigns_63 : decode cX12_reigns 63 = .ok (.ldc2_w 294, 3) := by decide +kernel
theorem dX12_reigns_66 : decode cX12_reigns 66 = .ok (.lrem, 1) := by decide +kernel
theorem dX12_reigns_67 : decode cX12_reigns 67 = .ok (.lstore_n 3, 1) := by decide +kernel
theorem dX12_reigns_68 : decode cX12_reigns 68 = .ok (.lload_n 3, 1) := by decide +kernel
theorem dX12_reigns_69 : decode cX12_reigns 69 = .ok (.ldc2_w 296, 3) := by decide +kernel
theorem dX12_reigns_72 : decode cX12_reigns 72 = .ok (.ldiv, 1) := by decide +kernel
theorem dX12_reigns_73 : decode cX12_reigns 73 = .ok (.ldc2_w 298, 3) := by decide +kernel
theorem dX12_reigns_76 : decode cX12_reigns 76 = .ok (.lrem, 1) := by decide +kernel
theorem dX12_reigns_77 : decode cX12_reigns 77 = .ok (.l2i, 1) := by decide +kernel
theorem dX12_reigns_78 : decode cX12_reigns 78 = .ok (.istore 6, 2) := by decide +kernel
theorem dX12_reigns_80 : decode cX12_reigns 80 = .ok (.aload_n 0, 1) := by decide +kernel
theorem dX12_reigns_81 : decode cX12_reigns 81 = .ok (.getfield 88, 3) := by decide +kernel
theorem dX12_reigns_84 : decode cX12_reigns 84 = .ok (.iload 6, 2) := by decide +kernel
theorem dX12_reigns_86 : decode cX12_reigns 86 = .ok (.invokestatic 186, 3) := by decide +kernel
theorem dX12_reigns_89 : decode cX12_reigns 89 = .ok (.ifCond .ne 10, 3) := by decide +kernel
theorem dX12_reigns_92 : decode cX12_reigns 92 = .ok (.aload_n 0, 1) := by decide +kernel
theorem dX12_reigns_93 : decode cX12_reigns 93 = .ok (.iload 6, 2) := by decide +kernel
theorem dX12_reigns_95 : decode cX12_reigns 95 = .ok (.invokevirtual 233, 3) := by decide +kernel
theorem dX12_reigns_98 : decode cX12_reigns 98 = .ok (.pop, 1) := by decide +kernel
theorem dX12_reigns_99 : decode cX12_reigns 99 = .ok (.aload_n 0, 1) := by decide +kernel
theorem dX12_reigns_100 : decode cX12_reigns 100 = .ok (.invokevirtual 236, 3) := by decide +kernel
theorem dX12_reigns_103 : decode cX12_reigns 103 = .ok (.iinc 5 1, 3) := by decide +kernel
theorem dX12_reigns_106 : decode cX12_reigns 106 = .ok (.goto (-58), 3) := by decide +kernel
theorem dX12_reigns_109 : decode cX12_reigns 109 = .ok (.aload_n 0, 1) := by decide +kernel
theorem dX12_reigns_110 : decode cX12_reigns 110 = .ok (.getfield 88, 3) := by decide +kernel
theorem dX12_reigns_113 : decode cX12_reigns 113 = .ok (.invokestatic 251, 3) := by decide +kernel
theorem dX12_reigns_116 : decode cX12_reigns 116 = .ok (.istore 5, 2) := by decide +kernel
theorem dX12_reigns_118 : decode cX12_reigns 118 = .ok (.aload_n 0, 1) := by decide +kernel
theorem dX12_reigns_119 : decode cX12_reigns 119 = .ok (.invokevirtual 245, 3) := by decide +kernel
theorem dX12_reigns_122 : decode cX12_reigns 122 = .ok (.iload 5, 2) := by decide +kernel
theorem dX12_reigns_124 : decode cX12_reigns 124 = .ok (.ireturn, 1) := by decide +kernel
theorem dX12_part_0 : decode cX12_part 0 = .ok (.iload_n 1, 1) := by decide +kernel
theorem dX12_part_1 : decode cX12_part 1 = .ok (.ifCond .ne 10, 3) := by decide +kernel
theorem dX12_part_4 : decode cX12_part 4 = .ok (.aload_n 0, 1) := by decide +kernel
theorem dX12_part_5 : decode cX12_part 5 = .ok (.getfield 280, 3) := by decide +kernel
theorem dX12_part_8 : decode cX12_part 8 = .ok (.goto 20, 3) := by decide +kernel
theorem dX12_part_11 : decode cX12_part 11 = .ok (.iload_n 1, 1) := by decide +kernel
theorem dX12_part_12 : decode cX12_part 12 = .ok (.iconst 1, 1) := by decide +kernel
theorem dX12_part_13 : decode cX12_part 13 = .ok (.if_icmp .ne 10, 3) := by decide +kernel
theorem dX12_part_16 : decode cX12_part 16 = .ok (.aload_n 0, 1) := by decide +kernel
theorem dX12_part_17 : decode cX12_part 17 = .ok (.getfield 68, 3) := by decide +kernel
theorem dX12_part_20 : decode cX12_part 20 = .ok (.goto 8, 3) := by decide +kernel
theorem dX12_part_23 : decode cX12_part 23 = .ok (.aload_n 0, 1) := by decide +kernel
theorem dX12_part_24 : decode cX12_part 24 = .ok (.invokevirtual 101, 3) := by decide +kernel
theorem dX12_part_27 : decode cX12_part 27 = .ok (.i2l, 1) := by decide +kernel
theorem dX12_part_28 : decode cX12_part 28 = .ok (.lreturn, 1) := by decide +kernel
theorem dX12_image_0 : decode cX12_image 0 = .ok (.iload_n 1, 1) := by decide +kernel
theorem dX12_image_1 : decode cX12_image 1 = .ok (.iconst 0, 1) := by decide +kernel
theorem dX12_image_2 : decode cX12_image 2 = .ok (.iconst 1, 1) := by decide +kernel
theorem dX12_image_3 : decode cX12_image 3 = .ok (.invokestatic 97, 3) := by decide +kernel
theorem dX12_image_6 : decode cX12_image 6 = .ok (.ifCond .ne 8, 3) := by decide +kernel
theorem dX12_image_9 : decode cX12_image 9 = .ok (.aload_n 0, 1) := by decide +kernel
theorem dX12_image_10 : decode cX12_image 10 = .ok (.invokevirtual 101, 3) := by decide +kernel
theorem dX12_image_13 : decode cX12_image 13 = .ok (.ireturn, 1) := by decide +kernel
theorem dX12_image_14 : decode cX12_image 14 = .ok (.bipush 102, 2) := by decide +kernel
theorem dX12_image_16 : decode cX12_image 16 = .ok (.iload_n 1, 1) := by decide +kernel
theorem dX12_image_17 : decode cX12_image 17 = .ok (.imul, 1) := by decide +kernel
theorem dX12_image_18 : decode cX12_image 18 = .ok (.istore_n 2, 1) := by decide +kernel
theorem dX12_image_19 : decode cX12_image 19 = .ok (.aload_n 0, 1) := by decide +kernel
theorem dX12_image_20 : decode cX12_image 20 = .ok (.getfield 75, 3) := by decide +kernel
theorem dX12_image_23 : decode cX12_image 23 = .ok (.iload_n 1, 1) := by decide +kernel
theorem dX12_image_24 : decode cX12_image 24 = .ok (.iconst 1, 1) := by decide +kernel
theorem dX12_image_25 : decode cX12_image 25 = .ok (.iastore, 1) := by decide +kernel
theorem dX12_image_26 : decode cX12_image 26 = .ok (.aload_n 0, 1) := by decide +kernel
theorem dX12_image_27 : decode cX12_image 27 = .ok (.getfield 72, 3) := by decide +kernel
theorem dX12_image_30 : decode cX12_image 30 = .ok (.iload_n 2, 1) := by decide +kernel
theorem dX12_image_31 : decode cX12_image 31 = .ok (.aload_n 0, 1) := by decide +kernel
theorem dX12_image_32 : decode cX12_image 32 = .ok (.getfield 82, 3) := by decide +kernel
theorem dX12_image_35 : decode cX12_image 35 = .ok (.iastore, 1) := by decide +kernel
theorem dX12_image_36 : decode cX12_image 36 = .ok (.aload_n 0, 1) := by decide +kernel
theorem dX12_image_37 : decode cX12_image 37 = .ok (.getfield 72, 3) := by decide +kernel
theorem dX12_image_40 : decode cX12_image 40 = .ok (.iload_n 2, 1) := by decide +kernel
theorem dX12_image_41 : decode cX12_image 41 = .ok (.iconst 1, 1) := by decide +kernel
theorem dX12_image_42 : decode cX12_image 42 = .ok (.iadd, 1) := by decide +kernel
theorem dX12_image_43 : decode cX12_image 43 = .ok (.aload_n 0, 1) := by decide +kernel
theorem dX12_image_44 : decode cX12_image 44 = .ok (.getfield 91, 3) := by decide +kernel
theorem dX12_image_47 : decode cX12_image 47 = .ok (.iastore, 1) := by decide +kernel
theorem dX12_image_48 : decode cX12_image 48 = .ok (.aload_n 0, 1) := by decide +kernel
theorem dX12_image_49 : decode cX12_image 49 = .ok (.getfield 72, 3) := by decide +kernel
theorem dX12_image_52 : decode cX12_image 52 = .ok (.iload_n 2, 1) := by decide +kernel
theorem dX12_image_53 : decode cX12_image 53 = .ok (.iconst 2, 1) := by decide +kernel
theorem dX12_image_54 : decode cX12_image 54 = .ok (.iadd, 1) := by decide +kernel
theorem dX12_image_55 : decode cX12_image 55 = .ok (.aload_n 0, 1) := by decide +kernel
theorem dX12_image_56 : decode cX12_image 56 = .ok (.getfield 94, 3) := by decide +kernel
theorem dX12_image_59 : decode cX12_image 59 = .ok (.iastore, 1) := by decide +kernel
theorem dX12_image_60 : decode cX12_image 60 = .ok (.aload_n 0, 1) := by decide +kernel
theorem dX12_image_61 : decode cX12_image 61 = .ok (.aload_n 0, 1) := by decide +kernel
theorem dX12_image_62 : decode cX12_image 62 = .ok (.getfield 72, 3) := by decide +kernel
theorem dX12_image_65 : decode cX12_image 65 = .ok (.iload_n 2, 1) := by decide +kernel
theorem dX12_image_66 : decode cX12_image 66 = .ok (.iconst 3, 1) := by decide +kernel
theorem dX12_image_67 : decode cX12_image 67 = .ok (.iadd, 1) := by decide +kernel
theorem dX12_image_68 : decode cX12_image 68 = .ok (.invokevirtual 214, 3) := by decide +kernel
theorem dX12_image_71 : decode cX12_image 71 = .ok (.iconst 0, 1) := by decide +kernel
theorem dX12_image_72 : decode cX12_image 72 = .ok (.istore_n 3, 1) := by decide +kernel
theorem dX12_image_73 : decode cX12_image 73 = .ok (.iload_n 3, 1) := by decide +kernel
theorem dX12_image_74 : decode cX12_image 74 = .ok (.bipush 6, 2) := by decide +kernel
theorem dX12_image_76 : decode cX12_image 76 = .ok (.if_icmp .ge 162, 3) := by decide +kernel
theorem dX12_image_79 : decode cX12_image 79 = .ok (.aload_n 0, 1) := by decide +kernel
theorem dX12_image_80 : decode cX12_image 80 = .ok (.getfield 72, 3) := by decide +kernel
theorem dX12_image_83 : decode cX12_image 83 = .ok (.iload_n 2, 1) := by decide +kernel
theorem dX12_image_84 : decode cX12_image 84 = .ok (.bipush 8, 2) := by decide +kernel
theorem dX12_image_86 : decode cX12_image 86 = .ok (.iadd, 1) := by decide +kernel
theorem dX12_image_87 : decode cX12_image 87 = .ok (.iload_n 3, 1) := by decide +kernel
theorem dX12_image_88 : decode cX12_image 88 = .ok (.iadd, 1) := by decide +kernel
theorem dX12_image_89 : decode cX12_image 89 = .ok (.aload_n 0, 1) := by decide +kernel
theorem dX12_image_90 : decode cX12_image 90 = .ok (.getfield 23, 3) := by decide +kernel
theorem dX12_image_93 : decode cX12_image 93 = .ok (.iload_n 3, 1) := by decide +kernel
theorem dX12_image_94 : decode cX12_image 94 = .ok (.iaload, 1) := by decide +kernel
theorem dX12_image_95 : decode cX12_image 95 = .ok (.iastore, 1) := by decide +kernel
theorem dX12_image_96 : decode cX12_image 96 = .ok (.aload_n 0, 1) := by decide +kernel
theorem dX12_image_97 : decode cX12_image 97 = .ok (.getfield 72, 3) := by decide +kernel
theorem dX12_image_100 : decode cX12_image 100 = .ok (.iload_n 2, 1) := by decide +kernel
theorem dX12_image_101 : decode cX12_image 101 = .ok (.bipush 14, 2) := by decide +kernel
theorem dX12_image_103 : decode cX12_image 103 = .ok (.iadd, 1) := by decide +kernel
theorem dX12_image_104 : decode cX12_image 104 = .ok (.iload_n 3, 1) := by decide +kernel
theorem dX12_image_105 : decode cX12_image 105 = .ok (.iadd, 1) := by decide +kernel
theorem dX12_image_106 : decode cX12_image 106 = .ok (.aload_n 0, 1) := by decide +kernel
theorem dX12_image_107 : decode cX12_image 107 = .ok (.getfield 26, 3) := by decide +kernel
theorem dX12_image_110 : decode cX12_image 110 = .ok (.iload_n 3, 1) := by decide +kernel
theorem dX12_image_111 : decode cX12_image 111 = .ok (.iaload, 1) := by decide +kernel
theorem dX12_image_112 : decode cX12_image 112 = .ok (.iastore, 1) := by decide +kernel
theorem dX12_image_113 : decode cX12_image 113 = .ok (.aload_n 0, 1) := by decide +kernel
theorem dX12_image_114 : decode cX12_image 114 = .ok (.getfield 72, 3) := by decide +kernel
theorem dX12_image_117 : decode cX12_image 117 = .ok (.iload_n 2, 1) := by decide +kernel
theorem dX12_image_118 : decode cX12_image 118 = .ok (.bipush 20, 2) := by decide +kernel
theorem dX12_image_120 : decode cX12_image 120 = .ok (.iadd, 1) := by decide +kernel
theorem dX12_image_121 : decode cX12_image 121 = .ok (.iload_n 3, 1) := by decide +kernel
theorem dX12_image_122 : decode cX12_image 122 = .ok (.iadd, 1) := by decide +kernel
theorem dX12_image_123 : decode cX12_image 123 = .ok (.aload_n 0, 1) := by decide +kernel
theorem dX12_image_124 : decode cX12_image 124 = .ok (.getfield 29, 3) := by decide +kernel
theorem dX12_image_127 : decode cX12_image 127 = .ok (.iload_n 3, 1) := by decide +kernel
theorem dX12_image_128 : decode cX12_image 128 = .ok (.iaload, 1) := by decide +kernel
theorem dX12_image_129 : decode cX12_image 129 = .ok (.iastore, 1) := by decide +kernel
theorem dX12_image_130 : decode cX12_image 130 = .ok (.aload_n 0, 1) := by decide +kernel
theorem dX12_image_131 : decode cX12_image 131 = .ok (.getfield 72, 3) := by decide +kernel
theorem dX12_image_134 : decode cX12_image 134 = .ok (.iload_n 2, 1) := by decide +kernel
theorem dX12_image_135 : decode cX12_image 135 = .ok (.bipush 26, 2) := by decide +kernel
theorem dX12_image_137 : decode cX12_image 137 = .ok (.iadd, 1) := by decide +kernel
theorem dX12_image_138 : decode cX12_image 138 = .ok (.iload_n 3, 1) := by decide +kernel
theorem dX12_image_139 : decode cX12_image 139 = .ok (.iadd, 1) := by decide +kernel
theorem dX12_image_140 : decode cX12_image 140 = .ok (.aload_n 0, 1) := by decide +kernel
theorem dX12_image_141 : decode cX12_image 141 = .ok (.getfield 32, 3) := by decide +kernel
theorem dX12_image_144 : decode cX12_image 144 = .ok (.iload_n 3, 1) := by decide +kernel
theorem dX12_image_145 : decode cX12_image 145 = .ok (.iaload, 1) := by decide +kernel
theorem dX12_image_146 : decode cX12_image 146 = .ok (.iastore, 1) := by decide +kernel
theorem dX12_image_147 : decode cX12_image 147 = .ok (.aload_n 0, 1) := by decide +kernel
theorem dX12_image_148 : decode cX12_image 148 = .ok (.getfield 72, 3) := by decide +kernel
theorem dX12_image_151 : decode cX12_image 151 = .ok (.iload_n 2, 1) := by decide +kernel
theorem dX12_image_152 : decode cX12_image 152 = .ok (.bipush 32, 2) := by decide +kernel
theorem dX12_image_154 : decode cX12_image 154 = .ok (.iadd, 1) := by decide +kernel
theorem dX12_image_155 : decode cX12_image 155 = .ok (.iload_n 3, 1) := by decide +kernel
theorem dX12_image_156 : decode cX12_image 156 = .ok (.iadd, 1) := by decide +kernel
theorem dX12_image_157 : decode cX12_image 157 = .ok (.aload_n 0, 1) := by decide +kernel
theorem dX12_image_158 : decode cX12_image 158 = .ok (.getfield 35, 3) := by decide +kernel
theorem dX12_image_161 : decode cX12_image 161 = .ok (.iload_n 3, 1) := by decide +kernel
theorem dX12_image_162 : decode cX12_image 162 = .ok (.iaload, 1) := by decide +kernel
theorem dX12_image_163 : decode cX12_image 163 = .ok (.iastore, 1) := by decide +kernel
theorem dX12_image_164 : decode cX12_image 164 = .ok (.aload_n 0, 1) := by decide +kernel
theorem dX12_image_165 : decode cX12_image 165 = .ok (.getfield 72, 3) := by decide +kernel
theorem dX12_image_168 : decode cX12_image 168 = .ok (.iload_n 2, 1) := by decide +kernel
theorem dX12_image_169 : decode cX12_image 169 = .ok (.bipush 38, 2) := by decide +kernel
theorem dX12_image_171 : decode cX12_image 171 = .ok (.iadd, 1) := by decide +kernel
theorem dX12_image_172 : decode cX12_image 172 = .ok (.iload_n 3, 1) := by decide +kernel
theorem dX12_image_173 : decode cX12_image 173 = .ok (.iadd, 1) := by decide +kernel
theorem dX12_image_174 : decode cX12_image 174 = .ok (.aload_n 0, 1) := by decide +kernel
theorem dX12_image_175 : decode cX12_image 175 = .ok (.getfield 38, 3) := by decide +kernel
theorem dX12_image_178 : decode cX12_image 178 = .ok (.iload_n 3, 1) := by decide +kernel
theorem dX12_image_179 : decode cX12_image 179 = .ok (.iaload, 1) := by decide +kernel
theorem dX12_image_180 : decode cX12_image 180 = .ok (.iastore, 1) := by decide +kernel
theorem dX12_image_181 : decode cX12_image 181 = .ok (.aload_n 0, 1) := by decide +kernel
theorem dX12_image_182 : decode cX12_image 182 = .ok (.getfield 72, 3) := by decide +kernel
theorem dX12_image_185 : decode cX12_image 185 = .ok (.iload_n 2, 1) := by decide +kernel
theorem dX12_image_186 : decode cX12_image 186 = .ok (.bipush 44, 2) := by decide +kernel
theorem dX12_image_188 : decode cX12_image 188 = .ok (.iadd, 1) := by decide +kernel
theorem dX12_image_189 : decode cX12_image 189 = .ok (.iload_n 3, 1) := by decide +kernel
theorem dX12_image_190 : decode cX12_image 190 = .ok (.iadd, 1) := by decide +kernel
theorem dX12_image_191 : decode cX12_image 191 = .ok (.aload_n 0, 1) := by decide +kernel
theorem dX12_image_192 : decode cX12_image 192 = .ok (.getfield 41, 3) := by decide +kernel
theorem dX12_image_195 : decode cX12_image 195 = .ok (.iload_n 3, 1) := by decide +kernel
theorem dX12_image_196 : decode cX12_image 196 = .ok (.iaload, 1) := by decide +kernel
theorem dX12_image_197 : decode cX12_image 197 = .ok (.iastore, 1) := by decide +kernel
theorem dX12_image_198 : decode cX12_image 198 = .ok (.aload_n 0, 1) := by decide +kernel
theorem dX12_image_199 : decode cX12_image 199 = .ok (.getfield 72, 3) := by decide +kernel
theorem dX12_image_202 : decode cX12_image 202 = .ok (.iload_n 2, 1) := by decide +kernel
theorem dX12_image_203 : decode cX12_image 203 = .ok (.bipush 50, 2) := by decide +kernel
theorem dX12_image_205 : decode cX12_image 205 = .ok (.iadd, 1) := by decide +kernel
theorem dX12_image_206 : decode cX12_image 206 = .ok (.iload_n 3, 1) := by decide +kernel
theorem dX12_image_207 : decode cX12_image 207 = .ok (.iadd, 1) := by decide +kernel
theorem dX12_image_208 : decode cX12_image 208 = .ok (.aload_n 0, 1) := by decide +kernel
theorem dX12_image_209 : decode cX12_image 209 = .ok (.getfield 44, 3) := by decide +kernel
theorem dX12_image_212 : decode cX12_image 212 = .ok (.iload_n 3, 1) := by decide +kernel
theorem dX12_image_213 : decode cX12_image 213 = .ok (.iaload, 1) := by decide +kernel
theorem dX12_image_214 : decode cX12_image 214 = .ok (.iastore, 1) := by decide +kernel
theorem dX12_image_215 : decode cX12_image 215 = .ok (.aload_n 0, 1) := by decide +kernel
theorem dX12_image_216 : decode cX12_image 216 = .ok (.getfield 72, 3) := by decide +kernel
theorem dX12_image_219 : decode cX12_image 219 = .ok (.iload_n 2, 1) := by decide +kernel
theorem dX12_image_220 : decode cX12_image 220 = .ok (.bipush 56, 2) := by decide +kernel
theorem dX12_image_222 : decode cX12_image 222 = .ok (.iadd, 1) := by decide +kernel
theorem dX12_image_223 : decode cX12_image 223 = .ok (.iload_n 3, 1) := by decide +kernel
theorem dX12_image_224 : decode cX12_image 224 = .ok (.iadd, 1) := by decide +kernel
theorem dX12_image_225 : decode cX12_image 225 = .ok (.aload_n 0, 1) := by decide +kernel
theorem dX12_image_226 : decode cX12_image 226 = .ok (.getfield 47, 3) := by decide +kernel
theorem dX12_image_229 : decode cX12_image 229 = .ok (.iload_n 3, 1) := by decide +kernel
theorem dX12_image_230 : decode cX12_image 230 = .ok (.iaload, 1) := by decide +kernel
theorem dX12_image_231 : decode cX12_image 231 = .ok (.iastore, 1) := by decide +kernel
theorem dX12_image_232 : decode cX12_image 232 = .ok (.iinc 3 1, 3) := by decide +kernel
theorem dX12_image_235 : decode cX12_image 235 = .ok (.goto (-162), 3) := by decide +kernel
theorem dX12_image_238 : decode cX12_image 238 = .ok (.iconst 0, 1) := by decide +kernel
theorem dX12_image_239 : decode cX12_image 239 = .ok (.istore_n 3, 1) := by decide +kernel
theorem dX12_image_240 : decode cX12_image 240 = .ok (.iload_n 3, 1) := by decide +kernel
theorem dX12_image_241 : decode cX12_image 241 = .ok (.bipush 40, 2) := by decide +kernel
theorem dX12_image_243 : decode cX12_image 243 = .ok (.if_icmp .ge 26, 3) := by decide +kernel
theorem dX12_image_246 : decode cX12_image 246 = .ok (.aload_n 0, 1) := by decide +kernel
theorem dX12_image_247 : decode cX12_image 247 = .ok (.getfield 72, 3) := by decide +kernel
theorem dX12_image_250 : decode cX12_image 250 = .ok (.iload_n 2, 1) := by decide +kernel
theorem dX12_image_251 : decode cX12_image 251 = .ok (.bipush 62, 2) := by decide +kernel
theorem dX12_image_253 : decode cX12_image 253 = .ok (.iadd, 1) := by decide +kernel
theorem dX12_image_254 : decode cX12_image 254 = .ok (.iload_n 3, 1) := by decide +kernel
theorem dX12_image_255 : decode cX12_image 255 = .ok (.iadd, 1) := by decide +kernel
theorem dX12_image_256 : decode cX12_image 256 = .ok (.aload_n 0, 1) := by decide +kernel
theorem dX12_image_257 : decode cX12_image 257 = .ok (.getfield 56, 3) := by decide +kernel
theorem dX12_image_260 : decode cX12_image 260 = .ok (.iload_n 3, 1) := by decide +kernel
theorem dX12_image_261 : decode cX12_image 261 = .ok (.iaload, 1) := by decide +kernel
theorem dX12_image_262 : decode cX12_image 262 = .ok (.iastore, 1) := by decide +kernel
theorem dX12_image_263 : decode cX12_image 263 = .ok (.iinc 3 1, 3) := by decide +kernel
theorem dX12_image_266 : decode cX12_image 266 = .ok (.goto (-26), 3) := by decide +kernel
theorem dX12_image_269 : decode cX12_image 269 = .ok (.iconst 1, 1) := by decide +kernel
theorem dX12_image_270 : decode cX12_image 270 = .ok (.ireturn, 1) := by decide +kernel
theorem dX12_from_0 : decode cX12_from 0 = .ok (.iload_n 1, 1) := by decide +kernel
theorem dX12_from_1 : decode cX12_from 1 = .ok (.iconst 0, 1) := by decide +kernel
theorem dX12_from_2 : decode cX12_from 2 = .ok (.iconst 1, 1) := by decide +kernel
theorem dX12_from_3 : decode cX12_from 3 = .ok (.invokestatic 97, 3) := by decide +kernel
theorem dX12_from_6 : decode cX12_from 6 = .ok (.ifCond .ne 8, 3) := by decide +kernel
theorem dX12_from_9 : decode cX12_from 9 = .ok (.aload_n 0, 1) := by decide +kernel
theorem dX12_from_10 : decode cX12_from 10 = .ok (.invokevirtual 101, 3) := by decide +kernel
theorem dX12_from_13 : decode cX12_from 13 = .ok (.ireturn, 1) := by decide +kernel
theorem dX12_from_14 : decode cX12_from 14 = .ok (.aload_n 0, 1) := by decide +kernel
theorem dX12_from_15 : decode cX12_from 15 = .ok (.getfield 75, 3) := by decide +kernel
theorem dX12_from_18 : decode cX12_from 18 = .ok (.iload_n 1, 1) := by decide +kernel
theorem dX12_from_19 : decode cX12_from 19 = .ok (.iaload, 1) := by decide +kernel
theorem dX12_from_20 : decode cX12_from 20 = .ok (.ifCond .ne 8, 3) := by decide +kernel
theorem dX12_from_23 : decode cX12_from 23 = .ok (.aload_n 0, 1) := by decide +kernel
theorem dX12_from_24 : decode cX12_from 24 = .ok (.invokevirtual 230, 3) := by decide +kernel
theorem dX12_from_27 : decode cX12_from 27 = .ok (.ireturn, 1) := by decide +kernel
theorem dX12_from_28 : decode cX12_from 28 = .ok (.bipush 102, 2) := by decide +kernel
theorem dX12_from_30 : decode cX12_from 30 = .ok (.iload_n 1, 1) := by decide +kernel
theorem dX12_from_31 : decode cX12_from 31 = .ok (.imul, 1) := by decide +kernel
theorem dX12_from_32 : decode cX12_from 32 = .ok (.istore_n 2, 1) := by decide +kernel
theorem dX12_from_33 : decode cX12_from 33 = .ok (.aload_n 0, 1) := by decide +kernel
theorem dX12_from_34 : decode cX12_from 34 = .ok (.aload_n 0, 1) := by decide +kernel
theorem dX12_from_35 : decode cX12_from 35 = .ok (.getfield 72, 3) := by decide +kernel
theorem dX12_from_38 : decode cX12_from 38 = .ok (.iload_n 2, 1) := by decide +kernel
theorem dX12_from_39 : decode cX12_from 39 = .ok (.iaload, 1) := by decide +kernel
theorem dX12_from_40 : decode cX12_from 40 = .ok (.putfield 82, 3) := by decide +kernel
theorem dX12_from_43 : decode cX12_from 43 = .ok (.aload_n 0, 1) := by decide +kernel
theorem dX12_from_44 : decode cX12_from 44 = .ok (.aload_n 0, 1) := by decide +kernel
theorem dX12_from_45 : decode cX12_from 45 = .ok (.getfield 72, 3) := by decide +kernel
theorem dX12_from_48 : decode cX12_from 48 = .ok (.iload_n 2, 1) := by decide +kernel
theorem dX12_from_49 : decode cX12_from 49 = .ok (.iconst 1, 1) := by decide +kernel
theorem dX12_from_50 : decode cX12_from 50 = .ok (.iadd, 1) := by decide +kernel
theorem dX12_from_51 : decode cX12_from 51 = .ok (.iaload, 1) := by decide +kernel
theorem dX12_from_52 : decode cX12_from 52 = .ok (.putfield 91, 3) := by decide +kernel
theorem dX12_from_55 : decode cX12_from 55 = .ok (.aload_n 0, 1) := by decide +kernel
theorem dX12_from_56 : decode cX12_from 56 = .ok (.aload_n 0, 1) := by decide +kernel
theorem dX12_from_57 : decode cX12_from 57 = .ok (.getfield 72, 3) := by decide +kernel
theorem dX12_from_60 : decode cX12_from 60 = .ok (.iload_n 2, 1) := by decide +kernel
theorem dX12_from_61 : decode cX12_from 61 = .ok (.iconst 2, 1) := by decide +kernel
theorem dX12_from_62 : decode cX12_from 62 = .ok (.iadd, 1) := by decide +kernel
theorem dX12_from_63 : decode cX12_from 63 = .ok (.iaload, 1) := by decide +kernel
theorem dX12_from_64 : decode cX12_from 64 = .ok (.putfield 94, 3) := by decide +kernel
theorem dX12_from_67 : decode cX12_from 67 = .ok (.aload_n 0, 1) := by decide +kernel
theorem dX12_from_68 : decode cX12_from 68 = .ok (.aload_n 0, 1) := by decide +kernel
theorem dX12_from_69 : decode cX12_from 69 = .ok (.getfield 72, 3) := by decide +kernel
theorem dX12_from_72 : decode cX12_from 72 = .ok (.iload_n 2, 1) := by decide +kernel
theorem dX12_from_73 : decode cX12_from 73 = .ok (.iconst 3, 1) := by decide +kernel
theorem dX12_from_74 : decode cX12_from 74 = .ok (.iadd, 1) := by decide +kernel
theorem dX12_from_75 : decode cX12_from 75 = .ok (.invokevirtual 218, 3) := by decide +kernel
theorem dX12_from_78 : decode cX12_from 78 = .ok (.iconst 0, 1) := by decide +kernel
theorem dX12_from_79 : decode cX12_from 79 = .ok (.istore_n 3, 1) := by decide +kernel
theorem dX12_from_80 : decode cX12_from 80 = .ok (.iload_n 3, 1) := by decide +kernel
theorem dX12_from_81 : decode cX12_from 81 = .ok (.bipush 6, 2) := by decide +kernel
theorem dX12_from_83 : decode cX12_from 83 = .ok (.if_icmp .ge 162, 3) := by decide +kernel
theorem dX12_from_86 : decode cX12_from 86 = .ok (.aload_n 0, 1) := by decide +kernel
theorem dX12_from_87 : decode cX12_from 87 = .ok (.getfield 23, 3) := by decide +kernel
theorem dX12_from_90 : decode cX12_from 90 = .ok (.iload_n 3, 1) := by decide +kernel
theorem dX12_from_91 : decode cX12_from 91 = .ok (.aload_n 0, 1) := by decide +kernel
theorem dX12_from_92 : decode cX12_from 92 = .ok (.getfield 72, 3) := by decide +kernel
theorem dX12_from_95 : decode cX12_from 95 = .ok (.iload_n 2, 1) := by decide +kernel
theorem dX12_from_96 : decode cX12_from 96 = .ok (.bipush 8, 2) := by decide +kernel
theorem dX12_from_98 : decode cX12_from 98 = .ok (.iadd, 1) := by decide +kernel
theorem dX12_from_99 : decode cX12_from 99 = .ok (.iload_n 3, 1) := by decide +kernel
theorem dX12_from_100 : decode cX12_from 100 = .ok (.iadd, 1) := by decide +kernel
theorem dX12_from_101 : decode cX12_from 101 = .ok (.iaload, 1) := by decide +kernel
theorem dX12_from_102 : decode cX12_from 102 = .ok (.iastore, 1) := by decide +kernel
theorem dX12_from_103 : decode cX12_from 103 = .ok (.aload_n 0, 1) := by decide +kernel
theorem dX12_from_104 : decode cX12_from 104 = .ok (.getfield 26, 3) := by decide +kernel
theorem dX12_from_107 : decode cX12_from 107 = .ok (.iload_n 3, 1) := by decide +kernel
theorem dX12_from_108 : decode cX12_from 108 = .ok (.aload_n 0, 1) := by decide +kernel
theorem dX12_from_109 : decode cX12_from 109 = .ok (.getfield 72, 3) := by decide +kernel
theorem dX12_from_112 : decode cX12_from 112 = .ok (.iload_n 2, 1) := by decide +kernel
theorem dX12_from_113 : decode cX12_from 113 = .ok (.bipush 14, 2) := by decide +kernel
theorem dX12_from_115 : decode cX12_from 115 = .ok (.iadd, 1) := by decide +kernel
theorem dX12_from_116 : decode cX12_from 116 = .ok (.iload_n 3, 1) := by decide +kernel
theorem dX12_from_117 : decode cX12_from 117 = .ok (.iadd, 1) := by decide +kernel
theorem dX12_from_118 : decode cX12_from 118 = .ok (.iaload, 1) := by decide +kernel
theorem dX12_from_119 : decode cX12_from 119 = .ok (.iastore, 1) := by decide +kernel
theorem dX12_from_120 : decode cX12_from 120 = .ok (.aload_n 0, 1) := by decide +kernel
theorem dX12_from_121 : decode cX12_from 121 = .ok (.getfield 29, 3) := by decide +kernel
theorem dX12_from_124 : decode cX12_from 124 = .ok (.iload_n 3, 1) := by decide +kernel
theorem dX12_from_125 : decode cX12_from 125 = .ok (.aload_n 0, 1) := by decide +kernel
theorem dX12_from_126 : decode cX12_from 126 = .ok (.getfield 72, 3) := by decide +kernel
theorem dX12_from_129 : decode cX12_from 129 = .ok (.iload_n 2, 1) := by decide +kernel
theorem dX12_from_130 : decode cX12_from 130 = .ok (.bipush 20, 2) := by decide +kernel
theorem dX12_from_132 : decode cX12_from 132 = .ok (.iadd, 1) := by decide +kernel
theorem dX12_from_133 : decode cX12_from 133 = .ok (.iload_n 3, 1) := by decide +kernel
theorem dX12_from_134 : decode cX12_from 134 = .ok (.iadd, 1) := by decide +kernel
theorem dX12_from_135 : decode cX12_from 135 = .ok (.iaload, 1) := by decide +kernel
theorem dX12_from_136 : decode cX12_from 136 = .ok (.iastore, 1) := by decide +kernel
theorem dX12_from_137 : decode cX12_from 137 = .ok (.aload_n 0, 1) := by decide +kernel
theorem dX12_from_138 : decode cX12_from 138 = .ok (.getfield 32, 3) := by decide +kernel
theorem dX12_from_141 : decode cX12_from 141 = .ok (.iload_n 3, 1) := by decide +kernel
theorem dX12_from_142 : decode cX12_from 142 = .ok (.aload_n 0, 1) := by decide +kernel
theorem dX12_from_143 : decode cX12_from 143 = .ok (.getfield 72, 3) := by decide +kernel
theorem dX12_from_146 : decode cX12_from 146 = .ok (.iload_n 2, 1) := by decide +kernel
theorem dX12_from_147 : decode cX12_from 147 = .ok (.bipush 26, 2) := by decide +kernel
theorem dX12_from_149 : decode cX12_from 149 = .ok (.iadd, 1) := by decide +kernel
theorem dX12_from_150 : decode cX12_from 150 = .ok (.iload_n 3, 1) := by decide +kernel
theorem dX12_from_151 : decode cX12_from 151 = .ok (.iadd, 1) := by decide +kernel
theorem dX12_from_152 : decode cX12_from 152 = .ok (.iaload, 1) := by decide +kernel
theorem dX12_from_153 : decode cX12_from 153 = .ok (.iastore, 1) := by decide +kernel
theorem dX12_from_154 : decode cX12_from 154 = .ok (.aload_n 0, 1) := by decide +kernel
theorem dX12_from_155 : decode cX12_from 155 = .ok (.getfield 35, 3) := by decide +kernel
theorem dX12_from_158 : decode cX12_from 158 = .ok (.iload_n 3, 1) := by decide +kernel
theorem dX12_from_159 : decode cX12_from 159 = .ok (.aload_n 0, 1) := by decide +kernel
theorem dX12_from_160 : decode cX12_from 160 = .ok (.getfield 72, 3) := by decide +kernel
theorem dX12_from_163 : decode cX12_from 163 = .ok (.iload_n 2, 1) := by decide +kernel
theorem dX12_from_164 : decode cX12_from 164 = .ok (.bipush 32, 2) := by decide +kernel
theorem dX12_from_166 : decode cX12_from 166 = .ok (.iadd, 1) := by decide +kernel
theorem dX12_from_167 : decode cX12_from 167 = .ok (.iload_n 3, 1) := by decide +kernel
theorem dX12_from_168 : decode cX12_from 168 = .ok (.iadd, 1) := by decide +kernel
theorem dX12_from_169 : decode cX12_from 169 = .ok (.iaload, 1) := by decide +kernel
theorem dX12_from_170 : decode cX12_from 170 = .ok (.iastore, 1) := by decide +kernel
theorem dX12_from_171 : decode cX12_from 171 = .ok (.aload_n 0, 1) := by decide +kernel
theorem dX12_from_172 : decode cX12_from 172 = .ok (.getfield 38, 3) := by decide +kernel
theorem dX12_from_175 : decode cX12_from 175 = .ok (.iload_n 3, 1) := by decide +kernel
theorem dX12_from_176 : decode cX12_from 176 = .ok (.aload_n 0, 1) := by decide +kernel
theorem dX12_from_177 : decode cX12_from 177 = .ok (.getfield 72, 3) := by decide +kernel
theorem dX12_from_180 : decode cX12_from 180 = .ok (.iload_n 2, 1) := by decide +kernel
theorem dX12_from_181 : decode cX12_from 181 = .ok (.bipush 38, 2) := by decide +kernel
theorem dX12_from_183 : decode cX12_from 183 = .ok (.iadd, 1) := by decide +kernel
theorem dX12_from_184 : decode cX12_from 184 = .ok (.iload_n 3, 1) := by decide +kernel
theorem dX12_from_185 : decode cX12_from 185 = .ok (.iadd, 1) := by decide +kernel
theorem dX12_from_186 : decode cX12_from 186 = .ok (.iaload, 1) := by decide +kernel
theorem dX12_from_187 : decode cX12_from 187 = .ok (.iastore, 1) := by decide +kernel
theorem dX12_from_188 : decode cX12_from 188 = .ok (.aload_n 0, 1) := by decide +kernel
theorem dX12_from_189 : decode cX12_from 189 = .ok (.getfield 41, 3) := by decide +kernel
theorem dX12_from_192 : decode cX12_from 192 = .ok (.iload_n 3, 1) := by decide +kernel
theorem dX12_from_193 : decode cX12_from 193 = .ok (.aload_n 0, 1) := by decide +kernel
theorem dX12_from_194 : decode cX12_from 194 = .ok (.getfield 72, 3) := by decide +kernel
theorem dX12_from_197 : decode cX12_from 197 = .ok (.iload_n 2, 1) := by decide +kernel
theorem dX12_from_198 : decode cX12_from 198 = .ok (.bipush 44, 2) := by decide +kernel
theorem dX12_from_200 : decode cX12_from 200 = .ok (.iadd, 1) := by decide +kernel
theorem dX12_from_201 : decode cX12_from 201 = .ok (.iload_n 3, 1) := by decide +kernel
theorem dX12_from_202 : decode cX12_from 202 = .ok (.iadd, 1) := by decide +kernel
theorem dX12_from_203 : decode cX12_from 203 = .ok (.iaload, 1) := by decide +kernel
theorem dX12_from_204 : decode cX12_from 204 = .ok (.iastore, 1) := by decide +kernel
theorem dX12_from_205 : decode cX12_from 205 = .ok (.aload_n 0, 1) := by decide +kernel
theorem dX12_from_206 : decode cX12_from 206 = .ok (.getfield 44, 3) := by decide +kernel
theorem dX12_from_209 : decode cX12_from 209 = .ok (.iload_n 3, 1) := by decide +kernel
theorem dX12_from_210 : decode cX12_from 210 = .ok (.aload_n 0, 1) := by decide +kernel
theorem dX12_from_211 : decode cX12_from 211 = .ok (.getfield 72, 3) := by decide +kernel
theorem dX12_from_214 : decode cX12_from 214 = .ok (.iload_n 2, 1) := by decide +kernel
theorem dX12_from_215 : decode cX12_from 215 = .ok (.bipush 50, 2) := by decide +kernel
theorem dX12_from_217 : decode cX12_from 217 = .ok (.iadd, 1) := by decide +kernel
theorem dX12_from_218 : decode cX12_from 218 = .ok (.iload_n 3, 1) := by decide +kernel
theorem dX12_from_219 : decode cX12_from 219 = .ok (.iadd, 1) := by decide +kernel
theorem dX12_from_220 : decode cX12_from 220 = .ok (.iaload, 1) := by decide +kernel
theorem dX12_from_221 : decode cX12_from 221 = .ok (.iastore, 1) := by decide +kernel
theorem dX12_from_222 : decode cX12_from 222 = .ok (.aload_n 0, 1) := by decide +kernel
theorem dX12_from_223 : decode cX12_from 223 = .ok (.getfield 47, 3) := by decide +kernel
theorem dX12_from_226 : decode cX12_from 226 = .ok (.iload_n 3, 1) := by decide +kernel
theorem dX12_from_227 : decode cX12_from 227 = .ok (.aload_n 0, 1) := by decide +kernel
theorem dX12_from_228 : decode cX12_from 228 = .ok (.getfield 72, 3) := by decide +kernel
theorem dX12_from_231 : decode cX12_from 231 = .ok (.iload_n 2, 1) := by decide +kernel
theorem dX12_from_232 : decode cX12_from 232 = .ok (.bipush 56, 2) := by decide +kernel
theorem dX12_from_234 : decode cX12_from 234 = .ok (.iadd, 1) := by decide +kernel
theorem dX12_from_235 : decode cX12_from 235 = .ok (.iload_n 3, 1) := by decide +kernel
theorem dX12_from_236 : decode cX12_from 236 = .ok (.iadd, 1) := by decide +kernel
theorem dX12_from_237 : decode cX12_from 237 = .ok (.iaload, 1) := by decide +kernel
theorem dX12_from_238 : decode cX12_from 238 = .ok (.iastore, 1) := by decide +kernel
theorem dX12_from_239 : decode cX12_from 239 = .ok (.iinc 3 1, 3) := by decide +kernel
theorem dX12_from_242 : decode cX12_from 242 = .ok (.goto (-162), 3) := by decide +kernel
theorem dX12_from_245 : decode cX12_from 245 = .ok (.iconst 0, 1) := by decide +kernel
theorem dX12_from_246 : decode cX12_from 246 = .ok (.istore_n 3, 1) := by decide +kernel
theorem dX12_from_247 : decode cX12_from 247 = .ok (.iload_n 3, 1) := by decide +kernel
theorem dX12_from_248 : decode cX12_from 248 = .ok (.bipush 40, 2) := by decide +kernel
theorem dX12_from_250 : decode cX12_from 250 = .ok (.if_icmp .ge 26, 3) := by decide +kernel
theorem dX12_from_253 : decode cX12_from 253 = .ok (.aload_n 0, 1) := by decide +kernel
theorem dX12_from_254 : decode cX12_from 254 = .ok (.getfield 56, 3) := by decide +kernel
theorem dX12_from_257 : decode cX12_from 257 = .ok (.iload_n 3, 1) := by decide +kernel
theorem dX12_from_258 : decode cX12_from 258 = .ok (.aload_n 0, 1) := by decide +kernel
theorem dX12_from_259 : decode cX12_from 259 = .ok (.getfield 72, 3) := by decide +kernel
theorem dX12_from_262 : decode cX12_from 262 = .ok (.iload_n 2, 1) := by decide +kernel
theorem dX12_from_263 : decode cX12_from 263 = .ok (.bipush 62, 2) := by decide +kernel
theorem dX12_from_265 : decode cX12_from 265 = .ok (.iadd, 1) := by decide +kernel
theorem dX12_from_266 : decode cX12_from 266 = .ok (.iload_n 3, 1) := by decide +kernel
theorem dX12_from_267 : decode cX12_from 267 = .ok (.iadd, 1) := by decide +kernel
theorem dX12_from_268 : decode cX12_from 268 = .ok (.iaload, 1) := by decide +kernel
theorem dX12_from_269 : decode cX12_from 269 = .ok (.iastore, 1) := by decide +kernel
theorem dX12_from_270 : decode cX12_from 270 = .ok (.iinc 3 1, 3) := by decide +kernel
theorem dX12_from_273 : decode cX12_from 273 = .ok (.goto (-26), 3) := by decide +kernel
theorem dX12_from_276 : decode cX12_from 276 = .ok (.iconst 1, 1) := by decide +kernel
theorem dX12_from_277 : decode cX12_from 277 = .ok (.ireturn, 1) := by decide +kernel
theorem dX12_status_0 : decode cX12_status 0 = .ok (.iload_n 1, 1) := by decide +kernel
theorem dX12_status_1 : decode cX12_status 1 = .ok (.iconst 0, 1) := by decide +kernel
theorem dX12_status_2 : decode cX12_status 2 = .ok (.iconst 2, 1) := by decide +kernel
theorem dX12_status_3 : decode cX12_status 3 = .ok (.invokestatic 97, 3) := by decide +kernel
theorem dX12_status_6 : decode cX12_status 6 = .ok (.ifCond .ne 15, 3) := by decide +kernel
theorem dX12_status_9 : decode cX12_status 9 = .ok (.aload_n 0, 1) := by decide +kernel
theorem dX12_status_10 : decode cX12_status 10 = .ok (.getfield 1, 3) := by decide +kernel
theorem dX12_status_13 : decode cX12_status 13 = .ok (.iconst 0, 1) := by decide +kernel
theorem dX12_status_14 : decode cX12_status 14 = .ok (.dup2, 1) := by decide +kernel
theorem dX12_status_15 : decode cX12_status 15 = .ok (.iaload, 1) := by decide +kernel
theorem dX12_status_16 : decode cX12_status 16 = .ok (.iconst 1, 1) := by decide +kernel
theorem dX12_status_17 : decode cX12_status 17 = .ok (.iadd, 1) := by decide +kernel
theorem dX12_status_18 : decode cX12_status 18 = .ok (.iastore, 1) := by decide +kernel
theorem dX12_status_19 : decode cX12_status 19 = .ok (.iconst (-1), 1) := by decide +kernel
theorem dX12_status_20 : decode cX12_status 20 = .ok (.ireturn, 1) := by decide +kernel
theorem dX12_status_21 : decode cX12_status 21 = .ok (.aload_n 0, 1) := by decide +kernel
theorem dX12_status_22 : decode cX12_status 22 = .ok (.getfield 1, 3) := by decide +kernel
theorem dX12_status_25 : decode cX12_status 25 = .ok (.iload_n 1, 1) := by decide +kernel
theorem dX12_status_26 : decode cX12_status 26 = .ok (.iaload, 1) := by decide +kernel
theorem dX12_status_27 : decode cX12_status 27 = .ok (.ireturn, 1) := by decide +kernel
theorem dX12_countOf_0 : decode cX12_countOf 0 = .ok (.iload_n 1, 1) := by decide +kernel
theorem dX12_countOf_1 : decode cX12_countOf 1 = .ok (.tableswitch 72 0 5 #[39, 44, 49, 54, 62, 67], 39) := by decide +kernel
theorem dX12_countOf_40 : decode cX12_countOf 40 = .ok (.aload_n 0, 1) := by decide +kernel
theorem dX12_countOf_41 : decode cX12_countOf 41 = .ok (.getfield 82, 3) := by decide +kernel
theorem dX12_countOf_44 : decode cX12_countOf 44 = .ok (.ireturn, 1) := by decide +kernel
theorem dX12_countOf_45 : decode cX12_countOf 45 = .ok (.aload_n 0, 1) := by decide +kernel
theorem dX12_countOf_46 : decode cX12_countOf 46 = .ok (.getfield 85, 3) := by decide +kernel
theorem dX12_countOf_49 : decode cX12_countOf 49 = .ok (.ireturn, 1) := by decide +kernel
theorem dX12_countOf_50 : decode cX12_countOf 50 = .ok (.aload_n 0, 1) := by decide +kernel
theorem dX12_countOf_51 : decode cX12_countOf 51 = .ok (.getfield 13, 3) := by decide +kernel
theorem dX12_countOf_54 : decode cX12_countOf 54 = .ok (.ireturn, 1) := by decide +kernel
theorem dX12_countOf_55 : decode cX12_countOf 55 = .ok (.aload_n 0, 1) := by decide +kernel
theorem dX12_countOf_56 : decode cX12_countOf 56 = .ok (.getfield 88, 3) := by decide +kernel
theorem dX12_countOf_59 : decode cX12_countOf 59 = .ok (.invokestatic 251, 3) := by decide +kernel
theorem dX12_countOf_62 : decode cX12_countOf 62 = .ok (.ireturn, 1) := by decide +kernel
theorem dX12_countOf_63 : decode cX12_countOf 63 = .ok (.aload_n 0, 1) := by decide +kernel
theorem dX12_countOf_64 : decode cX12_countOf 64 = .ok (.getfield 91, 3) := by decide +kernel
theorem dX12_countOf_67 : decode cX12_countOf 67 = .ok (.ireturn, 1) := by decide +kernel
theorem dX12_countOf_68 : decode cX12_countOf 68 = .ok (.aload_n 0, 1) := by decide +kernel
theorem dX12_countOf_69 : decode cX12_countOf 69 = .ok (.getfield 94, 3) := by decide +kernel
theorem dX12_countOf_72 : decode cX12_countOf 72 = .ok (.ireturn, 1) := by decide +kernel
theorem dX12_countOf_73 : decode cX12_countOf 73 = .ok (.aload_n 0, 1) := by decide +kernel
theorem dX12_countOf_74 : decode cX12_countOf 74 = .ok (.getfield 112, 3) := by decide +kernel
theorem dX12_countOf_77 : decode cX12_countOf 77 = .ok (.ireturn, 1) := by decide +kernel
theorem dX12_count_0 : decode cX12_count 0 = .ok (.iload_n 1, 1) := by decide +kernel
theorem dX12_count_1 : decode cX12_count 1 = .ok (.iconst 0, 1) := by decide +kernel
theorem dX12_count_2 : decode cX12_count 2 = .ok (.bipush 6, 2) := by decide +kernel
theorem dX12_count_4 : decode cX12_count 4 = .ok (.invokestatic 97, 3) := by decide +kernel
theorem dX12_count_7 : decode cX12_count 7 = .ok (.ifCond .eq 11, 3) := by decide +kernel
theorem dX12_count_10 : decode cX12_count 10 = .ok (.aload_n 0, 1) := by decide +kernel
theorem dX12_count_11 : decode cX12_count 11 = .ok (.iload_n 1, 1) := by decide +kernel
theorem dX12_count_12 : decode cX12_count 12 = .ok (.invokevirtual 300, 3) := by decide +kernel
theorem dX12_count_15 : decode cX12_count 15 = .ok (.goto 7, 3) := by decide +kernel
theorem dX12_count_18 : decode cX12_count 18 = .ok (.aload_n 0, 1) := by decide +kernel
theorem dX12_count_19 : decode cX12_count 19 = .ok (.invokevirtual 101, 3) := by decide +kernel
theorem dX12_count_22 : decode cX12_count 22 = .ok (.ireturn, 1) := by decide +kernel
theorem dX12_mix_0 : decode cX12_mix 0 = .ok (.aload_n 0, 1) := by decide +kernel
theorem dX12_mix_1 : decode cX12_mix 1 = .ok (.ldc2_w 303, 3) := by decide +kernel
theorem dX12_mix_4 : decode cX12_mix 4 = .ok (.aload_n 0, 1) := by decide +kernel
theorem dX12_mix_5 : decode cX12_mix 5 = .ok (.getfield 305, 3) := by decide +kernel
theorem dX12_mix_8 : decode cX12_mix 8 = .ok (.lmul, 1) := by decide +kernel
theorem dX12_mix_9 : decode cX12_mix 9 = .ok (.lload_n 1, 1) := by decide +kernel
theorem dX12_mix_10 : decode cX12_mix 10 = .ok (.ladd, 1) := by decide +kernel
theorem dX12_mix_11 : decode cX12_mix 11 = .ok (.putfield 305, 3) := by decide +kernel
theorem dX12_mix_14 : decode cX12_mix 14 = .ok (.return_, 1) := by decide +kernel
theorem dX12_digest_0 : decode cX12_digest 0 = .ok (.aload_n 0, 1) := by decide +kernel
theorem dX12_digest_1 : decode cX12_digest 1 = .ok (.ldc2_w 308, 3) := by decide +kernel
theorem dX12_digest_4 : decode cX12_digest 4 = .ok (.putfield 305, 3) := by decide +kernel
theorem dX12_digest_7 : decode cX12_digest 7 = .ok (.iconst 0, 1) := by decide +kernel
theorem dX12_digest_8 : decode cX12_digest 8 = .ok (.istore_n 1, 1) := by decide +kernel
theorem dX12_digest_9 : decode cX12_digest 9 = .ok (.iload_n 1, 1) := by decide +kernel
theorem dX12_digest_10 : decode cX12_digest 10 = .ok (.bipush 6, 2) := by decide +kernel
theorem dX12_digest_12 : decode cX12_digest 12 = .ok (.if_icmp .gt 19, 3) := by decide +kernel
theorem dX12_digest_15 : decode cX12_digest 15 = .ok (.aload_n 0, 1) := by decide +kernel
theorem dX12_digest_16 : decode cX12_digest 16 = .ok (.aload_n 0, 1) := by decide +kernel
theorem dX12_digest_17 : decode cX12_digest 17 = .ok (.iload_n 1, 1) := by decide +kernel
theorem dX12_digest_18 : decode cX12_digest 18 = .ok (.invokevirtual 300, 3) := by decide +kernel
theorem dX12_digest_21 : decode cX12_digest 21 = .ok (.i2l, 1) := by decide +kernel
theorem dX12_digest_22 : decode cX12_digest 22 = .ok (.invokevirtual 310, 3) := by decide +kernel
theorem dX12_digest_25 : decode cX12_digest 25 = .ok (.iinc 1 1, 3) := by decide +kernel
theorem dX12_digest_28 : decode cX12_digest 28 = .ok (.goto (-19), 3) := by decide +kernel
theorem dX12_digest_31 : decode cX12_digest 31 = .ok (.aload_n 0, 1) := by decide +kernel
theorem dX12_digest_32 : decode cX12_digest 32 = .ok (.aload_n 0, 1) := by decide +kernel
theorem dX12_digest_33 : decode cX12_digest 33 = .ok (.getfield 88, 3) := by decide +kernel
theorem dX12_digest_36 : decode cX12_digest 36 = .ok (.i2l, 1) := by decide +kernel
theorem dX12_digest_37 : decode cX12_digest 37 = .ok (.invokevirtual 310, 3) := by decide +kernel
theorem dX12_digest_40 : decode cX12_digest 40 = .ok (.aload_n 0, 1) := by decide +kernel
theorem dX12_digest_41 : decode cX12_digest 41 = .ok (.aload_n 0, 1) := by decide +kernel
theorem dX12_digest_42 : decode cX12_digest 42 = .ok (.getfield 17, 3) := by decide +kernel
theorem dX12_digest_45 : decode cX12_digest 45 = .ok (.i2l, 1) := by decide +kernel
theorem dX12_digest_46 : decode cX12_digest 46 = .ok (.invokevirtual 310, 3) := by decide +kernel
theorem dX12_digest_49 : decode cX12_digest 49 = .ok (.aload_n 0, 1) := by decide +kernel
theorem dX12_digest_50 : decode cX12_digest 50 = .ok (.aload_n 0, 1) := by decide +kernel
theorem dX12_digest_51 : decode cX12_digest 51 = .ok (.getfield 20, 3) := by decide +kernel
theorem dX12_digest_54 : decode cX12_digest 54 = .ok (.i2l, 1) := by decide +kernel
theorem dX12_digest_55 : decode cX12_digest 55 = .ok (.invokevirtual 310, 3) := by decide +kernel
theorem dX12_digest_58 : decode cX12_digest 58 = .ok (.iconst 0, 1) := by decide +kernel
theorem dX12_digest_59 : decode cX12_digest 59 = .ok (.istore_n 1, 1) := by decide +kernel
theorem dX12_digest_60 : decode cX12_digest 60 = .ok (.iload_n 1, 1) := by decide +kernel
theorem dX12_digest_61 : decode cX12_digest 61 = .ok (.aload_n 0, 1) := by decide +kernel
theorem dX12_digest_62 : decode cX12_digest 62 = .ok (.getfield 82, 3) := by decide +kernel
theorem dX12_digest_65 : decode cX12_digest 65 = .ok (.if_icmp .ge 53, 3) := by decide +kernel
theorem dX12_digest_68 : decode cX12_digest 68 = .ok (.aload_n 0, 1) := by decide +kernel
theorem dX12_digest_69 : decode cX12_digest 69 = .ok (.aload_n 0, 1) := by decide +kernel
theorem dX12_digest_70 : decode cX12_digest 70 = .ok (.getfield 23, 3) := by decide +kernel
theorem dX12_digest_73 : decode cX12_digest 73 = .ok (.iload_n 1, 1) := by decide +kernel
theorem dX12_digest_74 : decode cX12_digest 74 = .ok (.iaload, 1) := by decide +kernel
theorem dX12_digest_75 : decode cX12_digest 75 = .ok (.i2l, 1) := by decide +kernel
theorem dX12_digest_76 : decode cX12_digest 76 = .ok (.invokevirtual 310, 3) := by decide +kernel
theorem dX12_digest_79 : decode cX12_digest 79 = .ok (.aload_n 0, 1) := by decide +kernel
theorem dX12_digest_80 : decode cX12_digest 80 = .ok (.aload_n 0, 1) := by decide +kernel
theorem dX12_digest_81 : decode cX12_digest 81 = .ok (.getfield 26, 3) := by decide +kernel
theorem dX12_digest_84 : decode cX12_digest 84 = .ok (.iload_n 1, 1) := by decide +kernel
theorem dX12_digest_85 : decode cX12_digest 85 = .ok (.iaload, 1) := by decide +kernel
theorem dX12_digest_86 : decode cX12_digest 86 = .ok (.i2l, 1) := by decide +kernel
theorem dX12_digest_87 : decode cX12_digest 87 = .ok (.invokevirtual 310, 3) := by decide +kernel
theorem dX12_digest_90 : decode cX12_digest 90 = .ok (.aload_n 0, 1) := by decide +kernel
theorem dX12_digest_91 : decode cX12_digest 91 = .ok (.aload_n 0, 1) := by decide +kernel
theorem dX12_digest_92 : decode cX12_digest 92 = .ok (.getfield 29, 3) := by decide +kernel
theorem dX12_digest_95 : decode cX12_digest 95 = .ok (.iload_n 1, 1) := by decide +kernel
theorem dX12_digest_96 : decode cX12_digest 96 = .ok (.iaload, 1) := by decide +kernel
theorem dX12_digest_97 : decode cX12_digest 97 = .ok (.i2l, 1) := by decide +kernel
theorem dX12_digest_98 : decode cX12_digest 98 = .ok (.invokevirtual 310, 3) := by decide +kernel
theorem dX12_digest_101 : decode cX12_digest 101 = .ok (.aload_n 0, 1) := by decide +kernel
theorem dX12_digest_102 : decode cX12_digest 102 = .ok (.aload_n 0, 1) := by decide +kernel
theorem dX12_digest_103 : decode cX12_digest 103 = .ok (.getfield 32, 3) := by decide +kernel
theorem dX12_digest_106 : decode cX12_digest 106 = .ok (.iload_n 1, 1) := by decide +kernel
theorem dX12_digest_107 : decode cX12_digest 107 = .ok (.iaload, 1) := by decide +kernel
theorem dX12_digest_108 : decode cX12_digest 108 = .ok (.i2l, 1) := by decide +kernel
theorem dX12_digest_109 : decode cX12_digest 109 = .ok (.invokevirtual 310, 3) := by decide +kernel
theorem dX12_digest_112 : decode cX12_digest 112 = .ok (.iinc 1 1, 3) := by decide +kernel
theorem dX12_digest_115 : decode cX12_digest 115 = .ok (.goto (-55), 3) := by decide +kernel
theorem dX12_digest_118 : decode cX12_digest 118 = .ok (.iconst 0, 1) := by decide +kernel
theorem dX12_digest_119 : decode cX12_digest 119 = .ok (.istore_n 1, 1) := by decide +kernel
theorem dX12_digest_120 : decode cX12_digest 120 = .ok (.iload_n 1, 1) := by decide +kernel
theorem dX12_digest_121 : decode cX12_digest 121 = .ok (.aload_n 0, 1) := by decide +kernel
theorem dX12_digest_122 : decode cX12_digest 122 = .ok (.getfield 91, 3) := by decide +kernel
theorem dX12_digest_125 : decode cX12_digest 125 = .ok (.if_icmp .ge 64, 3) := by decide +kernel
theorem dX12_digest_128 : decode cX12_digest 128 = .ok (.aload_n 0, 1) := by decide +kernel
theorem dX12_digest_129 : decode cX12_digest 129 = .ok (.aload_n 0, 1) := by decide +kernel
theorem dX12_digest_130 : decode cX12_digest 130 = .ok (.getfield 35, 3) := by decide +kernel
theorem dX12_digest_133 : decode cX12_digest 133 = .ok (.iload_n 1, 1) := by decide +kernel
theorem dX12_digest_134 : decode cX12_digest 134 = .ok (.iaload, 1) := by decide +kernel
theorem dX12_digest_135 : decode cX12_digest 135 = .ok (.i2l, 1) := by decide +kernel
theorem dX12_digest_136 : decode cX12_digest 136 = .ok (.invokevirtual 310, 3) := by decide +kernel
theorem dX12_digest_139 : decode cX12_digest 139 = .ok (.aload_n 0, 1) := by decide +kernel
theorem dX12_digest_140 : decode cX12_digest 140 = .ok (.aload_n 0, 1) := by decide +kernel
theorem dX12_digest_141 : decode cX12_digest 141 = .ok (.getfield 38, 3) := by decide +kernel
theorem dX12_digest_144 : decode cX12_digest 144 = .ok (.iload_n 1, 1) := by decide +kernel
theorem dX12_digest_145 : decode cX12_digest 145 = .ok (.iaload, 1) := by decide +kernel
theorem dX12_digest_146 : decode cX12_digest 146 = .ok (.i2l, 1) := by decide +kernel
theorem dX12_digest_147 : decode cX12_digest 147 = .ok (.invokevirtual 310, 3) := by decide +kernel
theorem dX12_digest_150 : decode cX12_digest 150 = .ok (.aload_n 0, 1) := by decide +kernel
theorem dX12_digest_151 : decode cX12_digest 151 = .ok (.aload_n 0, 1) := by decide +kernel
theorem dX12_digest_152 : decode cX12_digest 152 = .ok (.getfield 41, 3) := by decide +kernel
theorem dX12_digest_155 : decode cX12_digest 155 = .ok (.iload_n 1, 1) := by decide +kernel
theorem dX12_digest_156 : decode cX12_digest 156 = .ok (.iaload, 1) := by decide +kernel
theorem dX12_digest_157 : decode cX12_digest 157 = .ok (.i2l, 1) := by decide +kernel
theorem dX12_digest_158 : decode cX12_digest 158 = .ok (.invokevirtual 310, 3) := by decide +kernel
theorem dX12_digest_161 : decode cX12_digest 161 = .ok (.aload_n 0, 1) := by decide +kernel
theorem dX12_digest_162 : decode cX12_digest 162 = .ok (.aload_n 0, 1) := by decide +kernel
theorem dX12_digest_163 : decode cX12_digest 163 = .ok (.getfield 44, 3) := by decide +kernel
theorem dX12_digest_166 : decode cX12_digest 166 = .ok (.iload_n 1, 1) := by decide +kernel
theorem dX12_digest_167 : decode cX12_digest 167 = .ok (.iaload, 1) := by decide +kernel
theorem dX12_digest_168 : decode cX12_digest 168 = .ok (.i2l, 1) := by decide +kernel
theorem dX12_digest_169 : decode cX12_digest 169 = .ok (.invokevirtual 310, 3) := by decide +kernel
theorem dX12_digest_172 : decode cX12_digest 172 = .ok (.aload_n 0, 1) := by decide +kernel
theorem dX12_digest_173 : decode cX12_digest 173 = .ok (.aload_n 0, 1) := by decide +kernel
theorem dX12_digest_174 : decode cX12_digest 174 = .ok (.getfield 47, 3) := by decide +kernel
theorem dX12_digest_177 : decode cX12_digest 177 = .ok (.iload_n 1, 1) := by decide +kernel
theorem dX12_digest_178 : decode cX12_digest 178 = .ok (.iaload, 1) := by decide +kernel
theorem dX12_digest_179 : decode cX12_digest 179 = .ok (.i2l, 1) := by decide +kernel
theorem dX12_digest_180 : decode cX12_digest 180 = .ok (.invokevirtual 310, 3) := by decide +kernel
theorem dX12_digest_183 : decode cX12_digest 183 = .ok (.iinc 1 1, 3) := by decide +kernel
theorem dX12_digest_186 : decode cX12_digest 186 = .ok (.goto (-66), 3) := by decide +kernel
theorem dX12_digest_189 : decode cX12_digest 189 = .ok (.aload_n 0, 1) := by decide +kernel
theorem dX12_digest_190 : decode cX12_digest 190 = .ok (.aload_n 0, 1) := by decide +kernel
theorem dX12_digest_191 : decode cX12_digest 191 = .ok (.getfield 280, 3) := by decide +kernel
theorem dX12_digest_194 : decode cX12_digest 194 = .ok (.invokevirtual 310, 3) := by decide +kernel
theorem dX12_digest_197 : decode cX12_digest 197 = .ok (.aload_n 0, 1) := by decide +kernel
theorem dX12_digest_198 : decode cX12_digest 198 = .ok (.aload_n 0, 1) := by decide +kernel
theorem dX12_digest_199 : decode cX12_digest 199 = .ok (.getfield 68, 3) := by decide +kernel
theorem dX12_digest_202 : decode cX12_digest 202 = .ok (.invokevirtual 310, 3) := by decide +kernel
theorem dX12_digest_205 : decode cX12_digest 205 = .ok (.aload_n 0, 1) := by decide +kernel
theorem dX12_digest_206 : decode cX12_digest 206 = .ok (.getfield 305, 3) := by decide +kernel
theorem dX12_digest_209 : decode cX12_digest 209 = .ok (.lreturn, 1) := by decide +kernel
theorem dJ6_bitCount_0f7a4_0 : decode cJ6_bitCount_0f7a4 0 = .ok (.iload_n 0, 1) := by decide +kernel
theorem dJ6_bitCount_0f7a4_1 : decode cJ6_bitCount_0f7a4 1 = .ok (.iload_n 0, 1) := by decide +kernel
theorem dJ6_bitCount_0f7a4_2 : decode cJ6_bitCount_0f7a4 2 = .ok (.iconst 1, 1) := by decide +kernel
theorem dJ6_bitCount_0f7a4_3 : decode cJ6_bitCount_0f7a4 3 = .ok (.iushr, 1) := by decide +kernel
theorem dJ6_bitCount_0f7a4_4 : decode cJ6_bitCount_0f7a4 4 = .ok (.ldc_w 265, 3) := by decide +kernel
theorem dJ6_bitCount_0f7a4_7 : decode cJ6_bitCount_0f7a4 7 = .ok (.iand, 1) := by decide +kernel
theorem dJ6_bitCount_0f7a4_8 : decode cJ6_bitCount_0f7a4 8 = .ok (.isub, 1) := by decide +kernel
theorem dJ6_bitCount_0f7a4_9 : decode cJ6_bitCount_0f7a4 9 = .ok (.istore_n 0, 1) := by decide +kernel
theorem dJ6_bitCount_0f7a4_10 : decode cJ6_bitCount_0f7a4 10 = .ok (.iload_n 0, 1) := by decide +kernel
theorem dJ6_bitCount_0f7a4_11 : decode cJ6_bitCount_0f7a4 11 = .ok (.ldc_w 266, 3) := by decide +kernel
theorem dJ6_bitCount_0f7a4_14 : decode cJ6_bitCount_0f7a4 14 = .ok (.iand, 1) := by decide +kernel
theorem dJ6_bitCount_0f7a4_15 : decode cJ6_bitCount_0f7a4 15 = .ok (.iload_n 0, 1) := by decide +kernel
theorem dJ6_bitCount_0f7a4_16 : decode cJ6_bitCount_0f7a4 16 = .ok (.iconst 2, 1) := by decide +kernel
theorem dJ6_bitCount_0f7a4_17 : decode cJ6_bitCount_0f7a4 17 = .ok (.iushr, 1) := by decide +kernel
theorem dJ6_bitCount_0f7a4_18 : decode cJ6_bitCount_0f7a4 18 = .ok (.ldc_w 266, 3) := by decide +kernel
theorem dJ6_bitCount_0f7a4_21 : decode cJ6_bitCount_0f7a4 21 = .ok (.iand, 1) := by decide +kernel
theorem dJ6_bitCount_0f7a4_22 : decode cJ6_bitCount_0f7a4 22 = .ok (.iadd, 1) := by decide +kernel
theorem dJ6_bitCount_0f7a4_23 : decode cJ6_bitCount_0f7a4 23 = .ok (.istore_n 0, 1) := by decide +kernel
theorem dJ6_bitCount_0f7a4_24 : decode cJ6_bitCount_0f7a4 24 = .ok (.iload_n 0, 1) := by decide +kernel
theorem dJ6_bitCount_0f7a4_25 : decode cJ6_bitCount_0f7a4 25 = .ok (.iload_n 0, 1) := by decide +kernel
theorem dJ6_bitCount_0f7a4_26 : decode cJ6_bitCount_0f7a4 26 = .ok (.iconst 4, 1) := by decide +kernel
theorem dJ6_bitCount_0f7a4_27 : decode cJ6_bitCount_0f7a4 27 = .ok (.iushr, 1) := by decide +kernel
theorem dJ6_bitCount_0f7a4_28 : decode cJ6_bitCount_0f7a4 28 = .ok (.iadd, 1) := by decide +kernel
theorem dJ6_bitCount_0f7a4_29 : decode cJ6_bitCount_0f7a4 29 = .ok (.ldc_w 267, 3) := by decide +kernel
theorem dJ6_bitCount_0f7a4_32 : decode cJ6_bitCount_0f7a4 32 = .ok (.iand, 1) := by decide +kernel
theorem dJ6_bitCount_0f7a4_33 : decode cJ6_bitCount_0f7a4 33 = .ok (.istore_n 0, 1) := by decide +kernel
theorem dJ6_bitCount_0f7a4_34 : decode cJ6_bitCount_0f7a4 34 = .ok (.iload_n 0, 1) := by decide +kernel
theorem dJ6_bitCount_0f7a4_35 : decode cJ6_bitCount_0f7a4 35 = .ok (.iload_n 0, 1) := by decide +kernel
theorem dJ6_bitCount_0f7a4_36 : decode cJ6_bitCount_0f7a4 36 = .ok (.bipush 8, 2) := by decide +kernel
theorem dJ6_bitCount_0f7a4_38 : decode cJ6_bitCount_0f7a4 38 = .ok (.iushr, 1) := by decide +kernel
theorem dJ6_bitCount_0f7a4_39 : decode cJ6_bitCount_0f7a4 39 = .ok (.iadd, 1) := by decide +kernel
theorem dJ6_bitCount_0f7a4_40 : decode cJ6_bitCount_0f7a4 40 = .ok (.istore_n 0, 1) := by decide +kernel
theorem dJ6_bitCount_0f7a4_41 : decode cJ6_bitCount_0f7a4 41 = .ok (.iload_n 0, 1) := by decide +kernel
theorem dJ6_bitCount_0f7a4_42 : decode cJ6_bitCount_0f7a4 42 = .ok (.iload_n 0, 1) := by decide +kernel
theorem dJ6_bitCount_0f7a4_43 : decode cJ6_bitCount_0f7a4 43 = .ok (.bipush 16, 2) := by decide +kernel
theorem dJ6_bitCount_0f7a4_45 : decode cJ6_bitCount_0f7a4 45 = .ok (.iushr, 1) := by decide +kernel
theorem dJ6_bitCount_0f7a4_46 : decode cJ6_bitCount_0f7a4 46 = .ok (.iadd, 1) := by decide +kernel
theorem dJ6_bitCount_0f7a4_47 : decode cJ6_bitCount_0f7a4 47 = .ok (.istore_n 0, 1) := by decide +kernel
theorem dJ6_bitCount_0f7a4_48 : decode cJ6_bitCount_0f7a4 48 = .ok (.iload_n 0, 1) := by decide +kernel
theorem dJ6_bitCount_0f7a4_49 : decode cJ6_bitCount_0f7a4 49 = .ok (.bipush 63, 2) := by decide +kernel
theorem dJ6_bitCount_0f7a4_51 : decode cJ6_bitCount_0f7a4 51 = .ok (.iand, 1) := by decide +kernel
theorem dJ6_bitCount_0f7a4_52 : decode cJ6_bitCount_0f7a4 52 = .ok (.ireturn, 1) := by decide +kernel
theorem dJ9_max_7cf53_0 : decode cJ9_max_7cf53 0 = .ok (.iload_n 0, 1) := by decide +kernel
theorem dJ9_max_7cf53_1 : decode cJ9_max_7cf53 1 = .ok (.iload_n 1, 1) := by decide +kernel
theorem dJ9_max_7cf53_2 : decode cJ9_max_7cf53 2 = .ok (.if_icmp .lt 7, 3) := by decide +kernel
theorem dJ9_max_7cf53_5 : decode cJ9_max_7cf53 5 = .ok (.iload_n 0, 1) := by decide +kernel
theorem dJ9_max_7cf53_6 : decode cJ9_max_7cf53 6 = .ok (.goto 4, 3) := by decide +kernel
theorem dJ9_max_7cf53_9 : decode cJ9_max_7cf53 9 = .ok (.iload_n 1, 1) := by decide +kernel
theorem dJ9_max_7cf53_10 : decode cJ9_max_7cf53 10 = .ok (.ireturn, 1) := by decide +kernel
theorem dJ9_min_7cf53_0 : decode cJ9_min_7cf53 0 = .ok (.iload_n 0, 1) := by decide +kernel
theorem dJ9_min_7cf53_1 : decode cJ9_min_7cf53 1 = .ok (.iload_n 1, 1) := by decide +kernel
theorem dJ9_min_7cf53_2 : decode cJ9_min_7cf53 2 = .ok (.if_icmp .gt 7, 3) := by decide +kernel
theorem dJ9_min_7cf53_5 : decode cJ9_min_7cf53 5 = .ok (.iload_n 0, 1) := by decide +kernel
theorem dJ9_min_7cf53_6 : decode cJ9_min_7cf53 6 = .ok (.goto 4, 3) := by decide +kernel
theorem dJ9_min_7cf53_9 : decode cJ9_min_7cf53 9 = .ok (.iload_n 1, 1) := by decide +kernel
theorem dJ9_min_7cf53_10 : decode cJ9_min_7cf53 10 = .ok (.ireturn, 1) := by decide +kernel
theorem dJ0_length_8abf5_0 : decode cJ0_length_8abf5 0 = .ok (.aload_n 0, 1) := by decide +kernel
theorem dJ0_length_8abf5_1 : decode cJ0_length_8abf5 1 = .ok (.getfield 9, 3) := by decide +kernel
theorem dJ0_length_8abf5_4 : decode cJ0_length_8abf5 4 = .ok (.arraylength, 1) := by decide +kernel
theorem dJ0_length_8abf5_5 : decode cJ0_length_8abf5 5 = .ok (.aload_n 0, 1) := by decide +kernel
theorem dJ0_length_8abf5_6 : decode cJ0_length_8abf5 6 = .ok (.invokevirtual 335, 3) := by decide +kernel
theorem dJ0_length_8abf5_9 : decode cJ0_length_8abf5 9 = .ok (.ishr, 1) := by decide +kernel
theorem dJ0_length_8abf5_10 : decode cJ0_length_8abf5 10 = .ok (.ireturn, 1) := by decide +kernel
theorem dJ0_charAt_5068e_0 : decode cJ0_charAt_5068e 0 = .ok (.aload_n 0, 1) := by decide +kernel
theorem dJ0_charAt_5068e_1 : decode cJ0_charAt_5068e 1 = .ok (.invokevirtual 492, 3) := by decide +kernel
theorem dJ0_charAt_5068e_4 : decode cJ0_charAt_5068e 4 = .ok (.ifCond .eq 12, 3) := by decide +kernel
theorem dJ0_charAt_5068e_7 : decode cJ0_charAt_5068e 7 = .ok (.aload_n 0, 1) := by decide +kernel
theorem dJ0_charAt_5068e_8 : decode cJ0_charAt_5068e 8 = .ok (.getfield 9, 3) := by decide +kernel
theorem dJ0_charAt_5068e_11 : decode cJ0_charAt_5068e 11 = .ok (.iload_n 1, 1) := by decide +kernel
theorem dJ0_charAt_5068e_12 : decode cJ0_charAt_5068e 12 = .ok (.invokestatic 495, 3) := by decide +kernel
theorem dJ0_charAt_5068e_15 : decode cJ0_charAt_5068e 15 = .ok (.ireturn, 1) := by decide +kernel
theorem dJ0_charAt_5068e_16 : decode cJ0_charAt_5068e 16 = .ok (.aload_n 0, 1) := by decide +kernel
theorem dJ0_charAt_5068e_17 : decode cJ0_charAt_5068e 17 = .ok (.getfield 9, 3) := by decide +kernel
theorem dJ0_charAt_5068e_20 : decode cJ0_charAt_5068e 20 = .ok (.iload_n 1, 1) := by decide +kernel
theorem dJ0_charAt_5068e_21 : decode cJ0_charAt_5068e 21 = .ok (.invokestatic 498, 3) := by decide +kernel
theorem dJ0_charAt_5068e_24 : decode cJ0_charAt_5068e 24 = .ok (.ireturn, 1) := by decide +kernel
theorem dJ0_coder_7d493_0 : decode cJ0_coder_7d493 0 = .ok (.getstatic 38, 3) := by decide +kernel
theorem dJ0_coder_7d493_3 : decode cJ0_coder_7d493 3 = .ok (.ifCond .eq 10, 3) := by decide +kernel
theorem dJ0_coder_7d493_6 : decode cJ0_coder_7d493 6 = .ok (.aload_n 0, 1) := by decide +kernel
theorem dJ0_coder_7d493_7 : decode cJ0_coder_7d493 7 = .ok (.getfield 15, 3) := by decide +kernel
theorem dJ0_coder_7d493_10 : decode cJ0_coder_7d493 10 = .ok (.goto 4, 3) := by decide +kernel
theorem dJ0_coder_7d493_13 : decode cJ0_coder_7d493 13 = .ok (.iconst 1, 1) := by decide +kernel
theorem dJ0_coder_7d493_14 : decode cJ0_coder_7d493 14 = .ok (.ireturn, 1) := by decide +kernel
theorem dJ0_isLatin1_aae02_0 : decode cJ0_isLatin1_aae02 0 = .ok (.getstatic 38, 3) := by decide +kernel
theorem dJ0_isLatin1_aae02_3 : decode cJ0_isLatin1_aae02 3 = .ok (.ifCond .eq 14, 3) := by decide +kernel
theorem dJ0_isLatin1_aae02_6 : decode cJ0_isLatin1_aae02 6 = .ok (.aload_n 0, 1) := by decide +kernel
theorem dJ0_isLatin1_aae02_7 : decode cJ0_isLatin1_aae02 7 = .ok (.getfield 15, 3) := by decide +kernel
theorem dJ0_isLatin1_aae02_10 : decode cJ0_isLatin1_aae02 10 = .ok (.ifCond .ne 7, 3) := by decide +kernel
theorem dJ0_isLatin1_aae02_13 : decode cJ0_isLatin1_aae02 13 = .ok (.iconst 1, 1) := by decide +kernel
theorem dJ0_isLatin1_aae02_14 : decode cJ0_isLatin1_aae02 14 = .ok (.goto 4, 3) := by decide +kernel
theorem dJ0_isLatin1_aae02_17 : decode cJ0_isLatin1_aae02 17 = .ok (.iconst 0, 1) := by decide +kernel
theorem dJ0_isLatin1_aae02_18 : decode cJ0_isLatin1_aae02 18 = .ok (.ireturn, 1) := by decide +kernel
theorem dJ0_checkIndex_df160_0 : decode cJ0_checkIndex_df160 0 = .ok (.iload_n 0, 1) := by decide +kernel
theorem dJ0_checkIndex_df160_1 : decode cJ0_checkIndex_df160 1 = .ok (.iload_n 1, 1) := by decide +kernel
theorem dJ0_checkIndex_df160_2 : decode cJ0_checkIndex_df160 2 = .ok (.getstatic 1053, 3) := by decide +kernel
theorem dJ0_checkIndex_df160_5 : decode cJ0_checkIndex_df160 5 = .ok (.invokestatic 1059, 3) := by decide +kernel
theorem dJ0_checkIndex_df160_8 : decode cJ0_checkIndex_df160 8 = .ok (.pop, 1) := by decide +kernel
theorem dJ0_checkIndex_df160_9 : decode cJ0_checkIndex_df160 9 = .ok (.return_, 1) := by decide +kernel
theorem dJ1_charAt_3b067_0 : decode cJ1_charAt_3b067 0 = .ok (.iload_n 1, 1) := by decide +kernel
theorem dJ1_charAt_3b067_1 : decode cJ1_charAt_3b067 1 = .ok (.aload_n 0, 1) := by decide +kernel
theorem dJ1_charAt_3b067_2 : decode cJ1_charAt_3b067 2 = .ok (.arraylength, 1) := by decide +kernel
theorem dJ1_charAt_3b067_3 : decode cJ1_charAt_3b067 3 = .ok (.invokestatic 9, 3) := by decide +kernel
theorem dJ1_charAt_3b067_6 : decode cJ1_charAt_3b067 6 = .ok (.aload_n 0, 1) := by decide +kernel
theorem dJ1_charAt_3b067_7 : decode cJ1_charAt_3b067 7 = .ok (.iload_n 1, 1) := by decide +kernel
theorem dJ1_charAt_3b067_8 : decode cJ1_charAt_3b067 8 = .ok (.baload, 1) := by decide +kernel
theorem dJ1_charAt_3b067_9 : decode cJ1_charAt_3b067 9 = .ok (.sipush 255, 3) := by decide +kernel
theorem dJ1_charAt_3b067_12 : decode cJ1_charAt_3b067 12 = .ok (.iand, 1) := by decide +kernel
theorem dJ1_charAt_3b067_13 : decode cJ1_charAt_3b067 13 = .ok (.i2c, 1) := by decide +kernel
theorem dJ1_charAt_3b067_14 : decode cJ1_charAt_3b067 14 = .ok (.ireturn, 1) := by decide +kernel
theorem dJ2_getChar_3b067_0 : decode cJ2_getChar_3b067 0 = .ok (.getstatic 44, 3) := by decide +kernel
theorem dJ2_getChar_3b067_3 : decode cJ2_getChar_3b067 3 = .ok (.ifCond .ne 25, 3) := by decide +kernel
theorem dJ2_getChar_3b067_6 : decode cJ2_getChar_3b067 6 = .ok (.iload_n 1, 1) := by decide +kernel
theorem dJ2_getChar_3b067_7 : decode cJ2_getChar_3b067 7 = .ok (.ifCond .lt 11, 3) := by decide +kernel
theorem dJ2_getChar_3b067_10 : decode cJ2_getChar_3b067 10 = .ok (.iload_n 1, 1) := by decide +kernel
theorem dJ2_getChar_3b067_11 : decode cJ2_getChar_3b067 11 = .ok (.aload_n 0, 1) := by decide +kernel
theorem dJ2_getChar_3b067_12 : decode cJ2_getChar_3b067 12 = .ok (.invokestatic 48, 3) := by decide +kernel
theorem dJ2_getChar_3b067_15 : decode cJ2_getChar_3b067 15 = .ok (.if_icmp .lt 13, 3) := by decide +kernel
theorem dJ2_getChar_3b067_18 : decode cJ2_getChar_3b067 18 = .ok (.new 52, 3) := by decide +kernel
theorem dJ2_getChar_3b067_21 : decode cJ2_getChar_3b067 21 = .ok (.dup, 1) := by decide +kernel
theorem dJ2_getChar_3b067_22 : decode cJ2_getChar_3b067 22 = .ok (.ldc 54, 2) := by decide +kernel
theorem dJ2_getChar_3b067_24 : decode cJ2_getChar_3b067 24 = .ok (.invokespecial 56, 3) := by decide +kernel
theorem dJ2_getChar_3b067_27 : decode cJ2_getChar_3b067 27 = .ok (.athrow, 1) := by decide +kernel
theorem dJ2_getChar_3b067_28 : decode cJ2_getChar_3b067 28 = .ok (.iload_n 1, 1) := by decide +kernel
theorem dJ2_getChar_3b067_29 : decode cJ2_getChar_3b067 29 = .ok (.iconst 1, 1) := by decide +kernel
theorem dJ2_getChar_3b067_30 : decode cJ2_getChar_3b067 30 = .ok (.ishl, 1) := by decide +kernel
theorem dJ2_getChar_3b067_31 : decode cJ2_getChar_3b067 31 = .ok (.istore_n 1, 1) := by decide +kernel
theorem dJ2_getChar_3b067_32 : decode cJ2_getChar_3b067 32 = .ok (.aload_n 0, 1) := by decide +kernel
theorem dJ2_getChar_3b067_33 : decode cJ2_getChar_3b067 33 = .ok (.iload_n 1, 1) := by decide +kernel
theorem dJ2_getChar_3b067_34 : decode cJ2_getChar_3b067 34 = .ok (.iinc 1 1, 3) := by decide +kernel
theorem dJ2_getChar_3b067_37 : decode cJ2_getChar_3b067 37 = .ok (.baload, 1) := by decide +kernel
theorem dJ2_getChar_3b067_38 : decode cJ2_getChar_3b067 38 = .ok (.sipush 255, 3) := by decide +kernel
theorem dJ2_getChar_3b067_41 : decode cJ2_getChar_3b067 41 = .ok (.iand, 1) := by decide +kernel
theorem dJ2_getChar_3b067_42 : decode cJ2_getChar_3b067 42 = .ok (.getstatic 59, 3) := by decide +kernel
theorem dJ2_getChar_3b067_45 : decode cJ2_getChar_3b067 45 = .ok (.ishl, 1) := by decide +kernel
theorem dJ2_getChar_3b067_46 : decode cJ2_getChar_3b067 46 = .ok (.aload_n 0, 1) := by decide +kernel
theorem dJ2_getChar_3b067_47 : decode cJ2_getChar_3b067 47 = .ok (.iload_n 1, 1) := by decide +kernel
theorem dJ2_getChar_3b067_48 : decode cJ2_getChar_3b067 48 = .ok (.baload, 1) := by decide +kernel
theorem dJ2_getChar_3b067_49 : decode cJ2_getChar_3b067 49 = .ok (.sipush 255, 3) := by decide +kernel
theorem dJ2_getChar_3b067_52 : decode cJ2_getChar_3b067 52 = .ok (.iand, 1) := by decide +kernel
theorem dJ2_getChar_3b067_53 : decode cJ2_getChar_3b067 53 = .ok (.getstatic 63, 3) := by decide +kernel
theorem dJ2_getChar_3b067_56 : decode cJ2_getChar_3b067 56 = .ok (.ishl, 1) := by decide +kernel
theorem dJ2_getChar_3b067_57 : decode cJ2_getChar_3b067 57 = .ok (.ior, 1) := by decide +kernel
theorem dJ2_getChar_3b067_58 : decode cJ2_getChar_3b067 58 = .ok (.i2c, 1) := by decide +kernel
theorem dJ2_getChar_3b067_59 : decode cJ2_getChar_3b067 59 = .ok (.ireturn, 1) := by decide +kernel
theorem dJ2_length_9d52b_0 : decode cJ2_length_9d52b 0 = .ok (.aload_n 0, 1) := by decide +kernel
theorem dJ2_length_9d52b_1 : decode cJ2_length_9d52b 1 = .ok (.arraylength, 1) := by decide +kernel
theorem dJ2_length_9d52b_2 : decode cJ2_length_9d52b 2 = .ok (.iconst 1, 1) := by decide +kernel
theorem dJ2_length_9d52b_3 : decode cJ2_length_9d52b 3 = .ok (.ishr, 1) := by decide +kernel
theorem dJ2_length_9d52b_4 : decode cJ2_length_9d52b 4 = .ok (.ireturn, 1) := by decide +kernel
theorem dJ2_charAt_3b067_0 : decode cJ2_charAt_3b067 0 = .ok (.iload_n 1, 1) := by decide +kernel
theorem dJ2_charAt_3b067_1 : decode cJ2_charAt_3b067 1 = .ok (.aload_n 0, 1) := by decide +kernel
theorem dJ2_charAt_3b067_2 : decode cJ2_charAt_3b067 2 = .ok (.invokestatic 67, 3) := by decide +kernel
theorem dJ2_charAt_3b067_5 : decode cJ2_charAt_3b067 5 = .ok (.aload_n 0, 1) := by decide +kernel
theorem dJ2_charAt_3b067_6 : decode cJ2_charAt_3b067 6 = .ok (.iload_n 1, 1) := by decide +kernel
theorem dJ2_charAt_3b067_7 : decode cJ2_charAt_3b067 7 = .ok (.invokestatic 71, 3) := by decide +kernel
theorem dJ2_charAt_3b067_10 : decode cJ2_charAt_3b067 10 = .ok (.ireturn, 1) := by decide +kernel
theorem dJ2_checkIndex_2214a_0 : decode cJ2_checkIndex_2214a 0 = .ok (.iload_n 0, 1) := by decide +kernel
theorem dJ2_checkIndex_2214a_1 : decode cJ2_checkIndex_2214a 1 = .ok (.aload_n 1, 1) := by decide +kernel
theorem dJ2_checkIndex_2214a_2 : decode cJ2_checkIndex_2214a 2 = .ok (.invokestatic 48, 3) := by decide +kernel
theorem dJ2_checkIndex_2214a_5 : decode cJ2_checkIndex_2214a 5 = .ok (.invokestatic 414, 3) := by decide +kernel
theorem dJ2_checkIndex_2214a_8 : decode cJ2_checkIndex_2214a 8 = .ok (.return_, 1) := by decide +kernel
theorem dJ3_checkIndex_8e157_0 : decode cJ3_checkIndex_8e157 0 = .ok (.iload_n 0, 1) := by decide +kernel
theorem dJ3_checkIndex_8e157_1 : decode cJ3_checkIndex_8e157 1 = .ok (.ifCond .lt 8, 3) := by decide +kernel
theorem dJ3_checkIndex_8e157_4 : decode cJ3_checkIndex_8e157 4 = .ok (.iload_n 0, 1) := by decide +kernel
theorem dJ3_checkIndex_8e157_5 : decode cJ3_checkIndex_8e157 5 = .ok (.iload_n 1, 1) := by decide +kernel
theorem dJ3_checkIndex_8e157_6 : decode cJ3_checkIndex_8e157 6 = .ok (.if_icmp .lt 10, 3) := by decide +kernel
theorem dJ3_checkIndex_8e157_9 : decode cJ3_checkIndex_8e157 9 = .ok (.aload_n 2, 1) := by decide +kernel
theorem dJ3_checkIndex_8e157_10 : decode cJ3_checkIndex_8e157 10 = .ok (.iload_n 0, 1) := by decide +kernel
theorem dJ3_checkIndex_8e157_11 : decode cJ3_checkIndex_8e157 11 = .ok (.iload_n 1, 1) := by decide +kernel
theorem dJ3_checkIndex_8e157_12 : decode cJ3_checkIndex_8e157 12 = .ok (.invokestatic 95, 3) := by decide +kernel
theorem dJ3_checkIndex_8e157_15 : decode cJ3_checkIndex_8e157 15 = .ok (.athrow, 1) := by decide +kernel
theorem dJ3_checkIndex_8e157_16 : decode cJ3_checkIndex_8e157 16 = .ok (.iload_n 0, 1) := by decide +kernel
theorem dJ3_checkIndex_8e157_17 : decode cJ3_checkIndex_8e157 17 = .ok (.ireturn, 1) := by decide +kernel
theorem dL_law_0 : decode code 0 = .ok (.new 7, 3) := by decide +kernel
theorem dL_law_3 : decode code 3 = .ok (.dup, 1) := by decide +kernel
theorem dL_law_4 : decode code 4 = .ok (.invokespecial 9, 3) := by decide +kernel
theorem dL_law_7 : decode code 7 = .ok (.astore_n 1, 1) := by decide +kernel
theorem dL_law_8 : decode code 8 = .ok (.new 10, 3) := by decide +kernel
theorem dL_law_11 : decode code 11 = .ok (.dup, 1) := by decide +kernel
theorem dL_law_12 : decode code 12 = .ok (.invokespecial 12, 3) := by decide +kernel
theorem dL_law_15 : decode code 15 = .ok (.astore_n 2, 1) := by decide +kernel
theorem dL_law_16 : decode code 16 = .ok (.iconst 0, 1) := by decide +kernel
theorem dL_law_17 : decode code 17 = .ok (.istore_n 3, 1) := by decide +kernel
theorem dL_law_18 : decode code 18 = .ok (.iload_n 3, 1) := by decide +kernel
theorem dL_law_19 : decode code 19 = .ok (.aload_n 0, 1) := by decide +kernel
theorem dL_law_20 : decode code 20 = .ok (.arraylength, 1) := by decide +kernel
theorem dL_law_21 : decode code 21 = .ok (.bipush 6, 2) := by decide +kernel
theorem dL_law_23 : decode code 23 = .ok (.isub, 1) := by decide +kernel
theorem dL_law_24 : decode code 24 = .ok (.if_icmp .gt 1030, 3) := by decide +kernel
theorem dL_law_27 : decode code 27 = .ok (.aload_n 0, 1) := by decide +kernel
theorem dL_law_28 : decode code 28 = .ok (.iload_n 3, 1) := by decide +kernel
theorem dL_law_29 : decode code 29 = .ok (.iaload, 1) := by decide +kernel
theorem dL_law_30 : decode code 30 = .ok (.bipush 63, 2) := by decide +kernel
theorem dL_law_32 : decode code 32 = .ok (.iand, 1) := by decide +kernel
theorem dL_law_33 : decode code 33 = .ok (.tableswitch 1015 0 33 #[151, 174, 227, 250, 263, 276, 309, 332, 355, 378, 391, 424, 447, 470, 493, 506, 529, 562, 585, 618, 641, 704, 717, 740, 773, 796, 819, 852, 885, 909, 932, 955, 978, 1001], 151) := by decide +kernel
theorem dL_law_184 : decode code 184 = .ok (.aload_n 1, 1) := by decide +kernel
theorem dL_law_185 : decode code 185 = .ok (.aload_n 0, 1) := by decide +kernel
theorem dL_law_186 : decode code 186 = .ok (.iload_n 3, 1) := by decide +kernel
theorem dL_law_187 : decode code 187 = .ok (.iconst 1, 1) := by decide +kernel
theorem dL_law_188 : decode code 188 = .ok (.iadd, 1) := by decide +kernel
theorem dL_law_189 : decode code 189 = .ok (.iaload, 1) := by decide +kernel
theorem dL_law_190 : decode code 190 = .ok (.invokevirtual 13, 3) := by decide +kernel
theorem dL_law_193 : decode code 193 = .ok (.aload_n 2, 1) := by decide +kernel
theorem dL_law_194 : decode code 194 = .ok (.aload_n 0, 1) := by decide +kernel
theorem dL_law_195 : decode code 195 = .ok (.iload_n 3, 1) := by decide +kernel
theorem dL_law_196 : decode code 196 = .ok (.iconst 1, 1) := by decide +kernel
theorem dL_law_197 : decode code 197 = .ok (.iadd, 1) := by decide +kernel
theorem dL_law_198 : decode code 198 = .ok (.iaload, 1) := by decide +kernel
theorem dL_law_199 : decode code 199 = .ok (.invokevirtual 17, 3) := by decide +kernel
theorem dL_law_202 : decode code 202 = .ok (.if_icmp .eq 846, 3) := by decide +kernel
theorem dL_law_205 : decode code 205 = .ok (.iconst 0, 1) := by decide +kernel
theorem dL_law_206 : decode code 206 = .ok (.ireturn, 1) := by decide +kernel
theorem dL_law_207 : decode code 207 = .ok (.aload_n 1, 1) := by decide +kernel
theorem dL_law_208 : decode code 208 = .ok (.aload_n 0, 1) := by decide +kernel
theorem dL_law_209 : decode code 209 = .ok (.iload_n 3, 1) := by decide +kernel
theorem dL_law_210 : decode code 210 = .ok (.iconst 1, 1) := by decide +kernel
theorem dL_law_211 : decode code 211 = .ok (.iadd, 1) := by decide +kernel
theorem dL_law_212 : decode code 212 = .ok (.iaload, 1) := by decide +kernel
theorem dL_law_213 : decode code 213 = .ok (.aload_n 0, 1) := by decide +kernel
theorem dL_law_214 : decode code 214 = .ok (.iload_n 3, 1) := by decide +kernel
theorem dL_law_215 : decode code 215 = .ok (.iconst 2, 1) := by decide +kernel
theorem dL_law_216 : decode code 216 = .ok (.iadd, 1) := by decide +kernel
theorem dL_law_217 : decode code 217 = .ok (.iaload, 1) := by decide +kernel
theorem dL_law_218 : decode code 218 = .ok (.aload_n 0, 1) := by decide +kernel
theorem dL_law_219 : decode code 219 = .ok (.iload_n 3, 1) := by decide +kernel
theorem dL_law_220 : decode code 220 = .ok (.iconst 3, 1) := by decide +kernel
theorem dL_law_221 : decode code 221 = .ok (.iadd, 1) := by decide +kernel
theorem dL_law_222 : decode code 222 = .ok (.iaload, 1) := by decide +kernel
theorem dL_law_223 : decode code 223 = .ok (.aload_n 0, 1) := by decide +kernel
theorem dL_law_224 : decode code 224 = .ok (.iload_n 3, 1) := by decide +kernel
theorem dL_law_225 : decode code 225 = .ok (.iconst 4, 1) := by decide +kernel
theorem dL_law_226 : decode code 226 = .ok (.iadd, 1) := by decide +kernel
theorem dL_law_227 : decode code 227 = .ok (.iaload, 1) := by decide +kernel
theorem dL_law_228 : decode code 228 = .ok (.invokevirtual 18, 3) := by decide +kernel
theorem dL_law_231 : decode code 231 = .ok (.aload_n 2, 1) := by decide +kernel
theorem dL_law_232 : decode code 232 = .ok (.aload_n 0, 1) := by decide +kernel
theorem dL_law_233 : decode code 233 = .ok (.iload_n 3, 1) := by decide +kernel
theorem dL_law_234 : decode code 234 = .ok (.iconst 1, 1) := by decide +kernel
theorem dL_law_235 : decode code 235 = .ok (.iadd, 1) := by decide +kernel
theorem dL_law_236 : decode code 236 = .ok (.iaload, 1) := by decide +kernel
theorem dL_law_237 : decode code 237 = .ok (.aload_n 0, 1) := by decide +kernel
theorem dL_law_238 : decode code 238 = .ok (.iload_n 3, 1) := by decide +kernel
theorem dL_law_239 : decode code 239 = .ok (.iconst 2, 1) := by decide +kernel
theorem dL_law_240 : decode code 240 = .ok (.iadd, 1) := by decide +kernel
theorem dL_law_241 : decode code 241 = .ok (.iaload, 1) := by decide +kernel
theorem dL_law_242 : decode code 242 = .ok (.aload_n 0, 1) := by decide +kernel
theorem dL_law_243 : decode code 243 = .ok (.iload_n 3, 1) := by decide +kernel
theorem dL_law_244 : decode code 244 = .ok (.iconst 3, 1) := by decide +kernel
theorem dL_law_245 : decode code 245 = .ok (.iadd, 1) := by decide +kernel
theorem dL_law_246 : decode code 246 = .ok (.iaload, 1) := by decide +kernel
theorem dL_law_247 : decode code 247 = .ok (.aload_n 0, 1) := by decide +kernel
theorem dL_law_248 : decode code 248 = .ok (.iload_n 3, 1) := by decide +kernel
theorem dL_law_249 : decode code 249 = .ok (.iconst 4, 1) := by decide +kernel
theorem dL_law_250 : decode code 250 = .ok (.iadd, 1) := by decide +kernel
theorem dL_law_251 : decode code 251 = .ok (.iaload, 1) := by decide +kernel
theorem dL_law_252 : decode code 252 = .ok (.invokevirtual 22, 3) := by decide +kernel
theorem dL_law_255 : decode code 255 = .ok (.if_icmp .eq 793, 3) := by decide +kernel
theorem dL_law_258 : decode code 258 = .ok (.iconst 0, 1) := by decide +kernel
theorem dL_law_259 : decode code 259 = .ok (.ireturn, 1) := by decide +kernel
theorem dL_law_260 : decode code 260 = .ok (.aload_n 1, 1) := by decide +kernel
theorem dL_law_261 : decode code 261 = .ok (.aload_n 0, 1) := by decide +kernel
theorem dL_law_262 : decode code 262 = .ok (.iload_n 3, 1) := by decide +kernel
theorem dL_law_263 : decode code 263 = .ok (.iconst 1, 1) := by decide +kernel
theorem dL_law_264 : decode code 264 = .ok (.iadd, 1) := by decide +kernel
theorem dL_law_265 : decode code 265 = .ok (.iaload, 1) := by decide +kernel
theorem dL_law_266 : decode code 266 = .ok (.invokevirtual 23, 3) := by decide +kernel
theorem dL_law_269 : decode code 269 = .ok (.aload_n 2, 1) := by decide +kernel
theorem dL_law_270 : decode code 270 = .ok (.aload_n 0, 1) := by decide +kernel
theorem dL_law_271 : decode code 271 = .ok (.iload_n 3, 1) := by decide +kernel
theorem dL_law_272 : decode code 272 = .ok (.iconst 1, 1) := by decide +kernel
theorem dL_law_273 : decode code 273 = .ok (.iadd, 1) := by decide +kernel
theorem dL_law_274 : decode code 274 = .ok (.iaload, 1) := by decide +kernel
theorem dL_law_275 : decode code 275 = .ok (.invokevirtual 26, 3) := by decide +kernel
theorem dL_law_278 : decode code 278 = .ok (.if_icmp .eq 770, 3) := by decide +kernel
theorem dL_law_281 : decode code 281 = .ok (.iconst 0, 1) := by decide +kernel
theorem dL_law_282 : decode code 282 = .ok (.ireturn, 1) := by decide +kernel
theorem dL_law_283 : decode code 283 = .ok (.aload_n 1, 1) := by decide +kernel
theorem dL_law_284 : decode code 284 = .ok (.invokevirtual 27, 3) := by decide +kernel
theorem dL_law_287 : decode code 287 = .ok (.aload_n 2, 1) := by decide +kernel
theorem dL_law_288 : decode code 288 = .ok (.invokevirtual 31, 3) := by decide +kernel
theorem dL_law_291 : decode code 291 = .ok (.if_icmp .eq 757, 3) := by decide +kernel
theorem dL_law_294 : decode code 294 = .ok (.iconst 0, 1) := by decide +kernel
theorem dL_law_295 : decode code 295 = .ok (.ireturn, 1) := by decide +kernel
theorem dL_law_296 : decode code 296 = .ok (.aload_n 1, 1) := by decide +kernel
theorem dL_law_297 : decode code 297 = .ok (.invokevirtual 32, 3) := by decide +kernel
theorem dL_law_300 : decode code 300 = .ok (.aload_n 2, 1) := by decide +kernel
theorem dL_law_301 : decode code 301 = .ok (.invokevirtual 35, 3) := by decide +kernel
theorem dL_law_304 : decode code 304 = .ok (.if_icmp .eq 744, 3) := by decide +kernel
theorem dL_law_307 : decode code 307 = .ok (.iconst 0, 1) := by decide +kernel
theorem dL_law_308 : decode code 308 = .ok (.ireturn, 1) := by decide +kernel
theorem dL_law_309 : decode code 309 = .ok (.aload_n 1, 1) := by decide +kernel
theorem dL_law_310 : decode code 310 = .ok (.aload_n 0, 1) := by decide +kernel
theorem dL_law_311 : decode code 311 = .ok (.iload_n 3, 1) := by decide +kernel
theorem dL_law_312 : decode code 312 = .ok (.iconst 1, 1) := by decide +kernel
theorem dL_law_313 : decode code 313 = .ok (.iadd, 1) := by decide +kernel
theorem dL_law_314 : decode code 314 = .ok (.iaload, 1) := by decide +kernel
theorem dL_law_315 : decode code 315 = .ok (.aload_n 0, 1) := by decide +kernel
theorem dL_law_316 : decode code 316 = .ok (.iload_n 3, 1) := by decide +kernel
theorem dL_law_317 : decode code 317 = .ok (.iconst 2, 1) := by decide +kernel
theorem dL_law_318 : decode code 318 = .ok (.iadd, 1) := by decide +kernel
theorem dL_law_319 : decode code 319 = .ok (.iaload, 1) := by decide +kernel
theorem dL_law_320 : decode code 320 = .ok (.invokevirtual 36, 3) := by decide +kernel
theorem dL_law_323 : decode code 323 = .ok (.aload_n 2, 1) := by decide +kernel
theorem dL_law_324 : decode code 324 = .ok (.aload_n 0, 1) := by decide +kernel
theorem dL_law_325 : decode code 325 = .ok (.iload_n 3, 1) := by decide +kernel
theorem dL_law_326 : decode code 326 = .ok (.iconst 1, 1) := by decide +kernel
theorem dL_law_327 : decode code 327 = .ok (.iadd, 1) := by decide +kernel
theorem dL_law_328 : decode code 328 = .ok (.iaload, 1) := by decide +kernel
theorem dL_law_329 : decode code 329 = .ok (.aload_n 0, 1) := by decide +kernel
theorem dL_law_330 : decode code 330 = .ok (.iload_n 3, 1) := by decide +kernel
theorem dL_law_331 : decode code 331 = .ok (.iconst 2, 1) := by decide +kernel
theorem dL_law_332 : decode code 332 = .ok (.iadd, 1) := by decide +kernel
theorem dL_law_333 : decode code 333 = .ok (.iaload, 1) := by decide +kernel
theorem dL_law_334 : decode code 334 = .ok (.invokevirtual 40, 3) := by decide +kernel
theorem dL_law_337 : decode code 337 = .ok (.if_icmp .eq 711, 3) := by decide +kernel
theorem dL_law_340 : decode code 340 = .ok (.iconst 0, 1) := by decide +kernel
theorem dL_law_341 : decode code 341 = .ok (.ireturn, 1) := by decide +kernel
theorem dL_law_342 : decode code 342 = .ok (.aload_n 1, 1) := by decide +kernel
theorem dL_law_343 : decode code 343 = .ok (.aload_n 0, 1) := by decide +kernel
theorem dL_law_344 : decode code 344 = .ok (.iload_n 3, 1) := by decide +kernel
theorem dL_law_345 : decode code 345 = .ok (.iconst 1, 1) := by decide +kernel
theorem dL_law_346 : decode code 346 = .ok (.iadd, 1) := by decide +kernel
theorem dL_law_347 : decode code 347 = .ok (.iaload, 1) := by decide +kernel
theorem dL_law_348 : decode code 348 = .ok (.invokevirtual 41, 3) := by decide +kernel
theorem dL_law_351 : decode code 351 = .ok (.aload_n 2, 1) := by decide +kernel
theorem dL_law_352 : decode code 352 = .ok (.aload_n 0, 1) := by decide +kernel
theorem dL_law_353 : decode code 353 = .ok (.iload_n 3, 1) := by decide +kernel
theorem dL_law_354 : decode code 354 = .ok (.iconst 1, 1) := by decide +kernel
theorem dL_law_355 : decode code 355 = .ok (.iadd, 1) := by decide +kernel
theorem dL_law_356 : decode code 356 = .ok (.iaload, 1) := by decide +kernel
theorem dL_law_357 : decode code 357 = .ok (.invokevirtual 44, 3) := by decide +kernel
theorem dL_law_360 : decode code 360 = .ok (.if_icmp .eq 688, 3) := by decide +kernel
theorem dL_law_363 : decode code 363 = .ok (.iconst 0, 1) := by decide +kernel
theorem dL_law_364 : decode code 364 = .ok (.ireturn, 1) := by decide +kernel
theorem dL_law_365 : decode code 365 = .ok (.aload_n 1, 1) := by decide +kernel
theorem dL_law_366 : decode code 366 = .ok (.aload_n 0, 1) := by decide +kernel
theorem dL_law_367 : decode code 367 = .ok (.iload_n 3, 1) := by decide +kernel
theorem dL_law_368 : decode code 368 = .ok (.iconst 1, 1) := by decide +kernel
theorem dL_law_369 : decode code 369 = .ok (.iadd, 1) := by decide +kernel
theorem dL_law_370 : decode code 370 = .ok (.iaload, 1) := by decide +kernel
theorem dL_law_371 : decode code 371 = .ok (.invokevirtual 45, 3) := by decide +kernel
theorem dL_law_374 : decode code 374 = .ok (.aload_n 2, 1) := by decide +kernel
theorem dL_law_375 : decode code 375 = .ok (.aload_n 0, 1) := by decide +kernel
theorem dL_law_376 : decode code 376 = .ok (.iload_n 3, 1) := by decide +kernel
theorem dL_law_377 : decode code 377 = .ok (.iconst 1, 1) := by decide +kernel
theorem dL_law_378 : decode code 378 = .ok (.iadd, 1) := by decide +kernel
theorem dL_law_379 : decode code 379 = .ok (.iaload, 1) := by decide +kernel
theorem dL_law_380 : decode code 380 = .ok (.invokevirtual 48, 3) := by decide +kernel
theorem dL_law_383 : decode code 383 = .ok (.if_icmp .eq 665, 3) := by decide +kernel
theorem dL_law_386 : decode code 386 = .ok (.iconst 0, 1) := by decide +kernel
theorem dL_law_387 : decode code 387 = .ok (.ireturn, 1) := by decide +kernel
theorem dL_law_388 : decode code 388 = .ok (.aload_n 1, 1) := by decide +kernel
theorem dL_law_389 : decode code 389 = .ok (.aload_n 0, 1) := by decide +kernel
theorem dL_law_390 : decode code 390 = .ok (.iload_n 3, 1) := by decide +kernel
theorem dL_law_391 : decode code 391 = .ok (.iconst 1, 1) := by decide +kernel
theorem dL_law_392 : decode code 392 = .ok (.iadd, 1) := by decide +kernel
theorem dL_law_393 : decode code 393 = .ok (.iaload, 1) := by decide +kernel
theorem dL_law_394 : decode code 394 = .ok (.invokevirtual 49, 3) := by decide +kernel
theorem dL_law_397 : decode code 397 = .ok (.aload_n 2, 1) := by decide +kernel
theorem dL_law_398 : decode code 398 = .ok (.aload_n 0, 1) := by decide +kernel
theorem dL_law_399 : decode code 399 = .ok (.iload_n 3, 1) := by decide +kernel
theorem dL_law_400 : decode code 400 = .ok (.iconst 1, 1) := by decide +kernel
theorem dL_law_401 : decode code 401 = .ok (.iadd, 1) := by decide +kernel
theorem dL_law_402 : decode code 402 = .ok (.iaload, 1) := by decide +kernel
theorem dL_law_403 : decode code 403 = .ok (.invokevirtual 52, 3) := by decide +kernel
theorem dL_law_406 : decode code 406 = .ok (.if_icmp .eq 642, 3) := by decide +kernel
theorem dL_law_409 : decode code 409 = .ok (.iconst 0, 1) := by decide +kernel
theorem dL_law_410 : decode code 410 = .ok (.ireturn, 1) := by decide +kernel
theorem dL_law_411 : decode code 411 = .ok (.aload_n 1, 1) := by decide +kernel
theorem dL_law_412 : decode code 412 = .ok (.invokevirtual 53, 3) := by decide +kernel
theorem dL_law_415 : decode code 415 = .ok (.aload_n 2, 1) := by decide +kernel
theorem dL_law_416 : decode code 416 = .ok (.invokevirtual 56, 3) := by decide +kernel
theorem dL_law_419 : decode code 419 = .ok (.if_icmp .eq 629, 3) := by decide +kernel
theorem dL_law_422 : decode code 422 = .ok (.iconst 0, 1) := by decide +kernel
theorem dL_law_423 : decode code 423 = .ok (.ireturn, 1) := by decide +kernel
theorem dL_law_424 : decode code 424 = .ok (.aload_n 1, 1) := by decide +kernel
theorem dL_law_425 : decode code 425 = .ok (.aload_n 0, 1) := by decide +kernel
theorem dL_law_426 : decode code 426 = .ok (.iload_n 3, 1) := by decide +kernel
theorem dL_law_427 : decode code 427 = .ok (.iconst 1, 1) := by decide +kernel
theorem dL_law_428 : decode code 428 = .ok (.iadd, 1) := by decide +kernel
theorem dL_law_429 : decode code 429 = .ok (.iaload, 1) := by decide +kernel
theorem dL_law_430 : decode code 430 = .ok (.aload_n 0, 1) := by decide +kernel
theorem dL_law_431 : decode code 431 = .ok (.iload_n 3, 1) := by decide +kernel
theorem dL_law_432 : decode code 432 = .ok (.iconst 2, 1) := by decide +kernel
theorem dL_law_433 : decode code 433 = .ok (.iadd, 1) := by decide +kernel
theorem dL_law_434 : decode code 434 = .ok (.iaload, 1) := by decide +kernel
theorem dL_law_435 : decode code 435 = .ok (.invokevirtual 57, 3) := by decide +kernel
theorem dL_law_438 : decode code 438 = .ok (.aload_n 2, 1) := by decide +kernel
theorem dL_law_439 : decode code 439 = .ok (.aload_n 0, 1) := by decide +kernel
theorem dL_law_440 : decode code 440 = .ok (.iload_n 3, 1) := by decide +kernel
theorem dL_law_441 : decode code 441 = .ok (.iconst 1, 1) := by decide +kernel
theorem dL_law_442 : decode code 442 = .ok (.iadd, 1) := by decide +kernel
theorem dL_law_443 : decode code 443 = .ok (.iaload, 1) := by decide +kernel
theorem dL_law_444 : decode code 444 = .ok (.aload_n 0, 1) := by decide +kernel
theorem dL_law_445 : decode code 445 = .ok (.iload_n 3, 1) := by decide +kernel
theorem dL_law_446 : decode code 446 = .ok (.iconst 2, 1) := by decide +kernel
theorem dL_law_447 : decode code 447 = .ok (.iadd, 1) := by decide +kernel
theorem dL_law_448 : decode code 448 = .ok (.iaload, 1) := by decide +kernel
theorem dL_law_449 : decode code 449 = .ok (.invokevirtual 60, 3) := by decide +kernel
theorem dL_law_452 : decode code 452 = .ok (.if_icmp .eq 596, 3) := by decide +kernel
theorem dL_law_455 : decode code 455 = .ok (.iconst 0, 1) := by decide +kernel
theorem dL_law_456 : decode code 456 = .ok (.ireturn, 1) := by decide +kernel
theorem dL_law_457 : decode code 457 = .ok (.aload_n 1, 1) := by decide +kernel
theorem dL_law_458 : decode code 458 = .ok (.aload_n 0, 1) := by decide +kernel
theorem dL_law_459 : decode code 459 = .ok (.iload_n 3, 1) := by decide +kernel
theorem dL_law_460 : decode code 460 = .ok (.iconst 1, 1) := by decide +kernel
theorem dL_law_461 : decode code 461 = .ok (.iadd, 1) := by decide +kernel
theorem dL_law_462 : decode code 462 = .ok (.iaload, 1) := by decide +kernel
theorem dL_law_463 : decode code 463 = .ok (.invokevirtual 61, 3) := by decide +kernel
theorem dL_law_466 : decode code 466 = .ok (.aload_n 2, 1) := by decide +kernel
theorem dL_law_467 : decode code 467 = .ok (.aload_n 0, 1) := by decide +kernel
theorem dL_law_468 : decode code 468 = .ok (.iload_n 3, 1) := by decide +kernel
theorem dL_law_469 : decode code 469 = .ok (.iconst 1, 1) := by decide +kernel
theorem dL_law_470 : decode code 470 = .ok (.iadd, 1) := by decide +kernel
theorem dL_law_471 : decode code 471 = .ok (.iaload, 1) := by decide +kernel
theorem dL_law_472 : decode code 472 = .ok (.invokevirtual 64, 3) := by decide +kernel
theorem dL_law_475 : decode code 475 = .ok (.if_icmp .eq 573, 3) := by decide +kernel
theorem dL_law_478 : decode code 478 = .ok (.iconst 0, 1) := by decide +kernel
theorem dL_law_479 : decode code 479 = .ok (.ireturn, 1) := by decide +kernel
theorem dL_law_480 : decode code 480 = .ok (.aload_n 1, 1) := by decide +kernel
theorem dL_law_481 : decode code 481 = .ok (.aload_n 0, 1) := by decide +kernel
theorem dL_law_482 : decode code 482 = .ok (.iload_n 3, 1) := by decide +kernel
theorem dL_law_483 : decode code 483 = .ok (.iconst 1, 1) := by decide +kernel
theorem dL_law_484 : decode code 484 = .ok (.iadd, 1) := by decide +kernel
theorem dL_law_485 : decode code 485 = .ok (.iaload, 1) := by decide +kernel
theorem dL_law_486 : decode code 486 = .ok (.invokevirtual 65, 3) := by decide +kernel
theorem dL_law_489 : decode code 489 = .ok (.aload_n 2, 1) := by decide +kernel
theorem dL_law_490 : decode code 490 = .ok (.aload_n 0, 1) := by decide +kernel
theorem dL_law_491 : decode code 491 = .ok (.iload_n 3, 1) := by decide +kernel
theorem dL_law_492 : decode code 492 = .ok (.iconst 1, 1) := by decide +kernel
theorem dL_law_493 : decode code 493 = .ok (.iadd, 1) := by decide +kernel
theorem dL_law_494 : decode code 494 = .ok (.iaload, 1) := by decide +kernel
theorem dL_law_495 : decode code 495 = .ok (.invokevirtual 68, 3) := by decide +kernel
theorem dL_law_498 : decode code 498 = .ok (.if_icmp .eq 550, 3) := by decide +kernel
theorem dL_law_501 : decode code 501 = .ok (.iconst 0, 1) := by decide +kernel
theorem dL_law_502 : decode code 502 = .ok (.ireturn, 1) := by decide +kernel
theorem dL_law_503 : decode code 503 = .ok (.aload_n 1, 1) := by decide +kernel
theorem dL_law_504 : decode code 504 = .ok (.aload_n 0, 1) := by decide +kernel
theorem dL_law_505 : decode code 505 = .ok (.iload_n 3, 1) := by decide +kernel
theorem dL_law_506 : decode code 506 = .ok (.iconst 1, 1) := by decide +kernel
theorem dL_law_507 : decode code 507 = .ok (.iadd, 1) := by decide +kernel
theorem dL_law_508 : decode code 508 = .ok (.iaload, 1) := by decide +kernel
theorem dL_law_509 : decode code 509 = .ok (.invokevirtual 69, 3) := by decide +kernel
theorem dL_law_512 : decode code 512 = .ok (.aload_n 2, 1) := by decide +kernel
theorem dL_law_513 : decode code 513 = .ok (.aload_n 0, 1) := by decide +kernel
theorem dL_law_514 : decode code 514 = .ok (.iload_n 3, 1) := by decide +kernel
theorem dL_law_515 : decode code 515 = .ok (.iconst 1, 1) := by decide +kernel
theorem dL_law_516 : decode code 516 = .ok (.iadd, 1) := by decide +kernel
theorem dL_law_517 : decode code 517 = .ok (.iaload, 1) := by decide +kernel
theorem dL_law_518 : decode code 518 = .ok (.invokevirtual 72, 3) := by decide +kernel
theorem dL_law_521 : decode code 521 = .ok (.if_icmp .eq 527, 3) := by decide +kernel
theorem dL_law_524 : decode code 524 = .ok (.iconst 0, 1) := by decide +kernel
theorem dL_law_525 : decode code 525 = .ok (.ireturn, 1) := by decide +kernel
theorem dL_law_526 : decode code 526 = .ok (.aload_n 1, 1) := by decide +kernel
theorem dL_law_527 : decode code 527 = .ok (.invokevirtual 73, 3) := by decide +kernel
theorem dL_law_530 : decode code 530 = .ok (.aload_n 2, 1) := by decide +kernel
theorem dL_law_531 : decode code 531 = .ok (.invokevirtual 76, 3) := by decide +kernel
theorem dL_law_534 : decode code 534 = .ok (.if_icmp .eq 514, 3) := by decide +kernel
theorem dL_law_537 : decode code 537 = .ok (.iconst 0, 1) := by decide +kernel
theorem dL_law_538 : decode code 538 = .ok (.ireturn, 1) := by decide +kernel
theorem dL_law_539 : decode code 539 = .ok (.aload_n 1, 1) := by decide +kernel
theorem dL_law_540 : decode code 540 = .ok (.aload_n 0, 1) := by decide +kernel
theorem dL_law_541 : decode code 541 = .ok (.iload_n 3, 1) := by decide +kernel
theorem dL_law_542 : decode code 542 = .ok (.iconst 1, 1) := by decide +kernel
theorem dL_law_543 : decode code 543 = .ok (.iadd, 1) := by decide +kernel
theorem dL_law_544 : decode code 544 = .ok (.iaload, 1) := by decide +kernel
theorem dL_law_545 : decode code 545 = .ok (.invokevirtual 77, 3) := by decide +kernel
theorem dL_law_548 : decode code 548 = .ok (.aload_n 2, 1) := by decide +kernel
theorem dL_law_549 : decode code 549 = .ok (.aload_n 0, 1) := by decide +kernel
theorem dL_law_550 : decode code 550 = .ok (.iload_n 3, 1) := by decide +kernel
theorem dL_law_551 : decode code 551 = .ok (.iconst 1, 1) := by decide +kernel
theorem dL_law_552 : decode code 552 = .ok (.iadd, 1) := by decide +kernel
theorem dL_law_553 : decode code 553 = .ok (.iaload, 1) := by decide +kernel
theorem dL_law_554 : decode code 554 = .ok (.invokevirtual 80, 3) := by decide +kernel
theorem dL_law_557 : decode code 557 = .ok (.if_icmp .eq 491, 3) := by decide +kernel
theorem dL_law_560 : decode code 560 = .ok (.iconst 0, 1) := by decide +kernel
theorem dL_law_561 : decode code 561 = .ok (.ireturn, 1) := by decide +kernel
theorem dL_law_562 : decode code 562 = .ok (.aload_n 1, 1) := by decide +kernel
theorem dL_law_563 : decode code 563 = .ok (.aload_n 0, 1) := by decide +kernel
theorem dL_law_564 : decode code 564 = .ok (.iload_n 3, 1) := by decide +kernel
theorem dL_law_565 : decode code 565 = .ok (.iconst 1, 1) := by decide +kernel
theorem dL_law_566 : decode code 566 = .ok (.iadd, 1) := by decide +kernel
theorem dL_law_567 : decode code 567 = .ok (.iaload, 1) := by decide +kernel
theorem dL_law_568 : decode code 568 = .ok (.aload_n 0, 1) := by decide +kernel
theorem dL_law_569 : decode code 569 = .ok (.iload_n 3, 1) := by decide +kernel
theorem dL_law_570 : decode code 570 = .ok (.iconst 2, 1) := by decide +kernel
theorem dL_law_571 : decode code 571 = .ok (.iadd, 1) := by decide +kernel
theorem dL_law_572 : decode code 572 = .ok (.iaload, 1) := by decide +kernel
theorem dL_law_573 : decode code 573 = .ok (.invokevirtual 81, 3) := by decide +kernel
theorem dL_law_576 : decode code 576 = .ok (.aload_n 2, 1) := by decide +kernel
theorem dL_law_577 : decode code 577 = .ok (.aload_n 0, 1) := by decide +kernel
theorem dL_law_578 : decode code 578 = .ok (.iload_n 3, 1) := by decide +kernel
theorem dL_law_579 : decode code 579 = .ok (.iconst 1, 1) := by decide +kernel
theorem dL_law_580 : decode code 580 = .ok (.iadd, 1) := by decide +kernel
theorem dL_law_581 : decode code 581 = .ok (.iaload, 1) := by decide +kernel
theorem dL_law_582 : decode code 582 = .ok (.aload_n 0, 1) := by decide +kernel
theorem dL_law_583 : decode code 583 = .ok (.iload_n 3, 1) := by decide +kernel
theorem dL_law_584 : decode code 584 = .ok (.iconst 2, 1) := by decide +kernel
theorem dL_law_585 : decode code 585 = .ok (.iadd, 1) := by decide +kernel
theorem dL_law_586 : decode code 586 = .ok (.iaload, 1) := by decide +kernel
theorem dL_law_587 : decode code 587 = .ok (.invokevirtual 84, 3) := by decide +kernel
theorem dL_law_590 : decode code 590 = .ok (.if_icmp .eq 458, 3) := by decide +kernel
theorem dL_law_593 : decode code 593 = .ok (.iconst 0, 1) := by decide +kernel
theorem dL_law_594 : decode code 594 = .ok (.ireturn, 1) := by decide +kernel
theorem dL_law_595 : decode code 595 = .ok (.aload_n 1, 1) := by decide +kernel
theorem dL_law_596 : decode code 596 = .ok (.aload_n 0, 1) := by decide +kernel
theorem dL_law_597 : decode code 597 = .ok (.iload_n 3, 1) := by decide +kernel
theorem dL_law_598 : decode code 598 = .ok (.iconst 1, 1) := by decide +kernel
theorem dL_law_599 : decode code 599 = .ok (.iadd, 1) := by decide +kernel
theorem dL_law_600 : decode code 600 = .ok (.iaload, 1) := by decide +kernel
theorem dL_law_601 : decode code 601 = .ok (.invokevirtual 85, 3) := by decide +kernel
theorem dL_law_604 : decode code 604 = .ok (.aload_n 2, 1) := by decide +kernel
theorem dL_law_605 : decode code 605 = .ok (.aload_n 0, 1) := by decide +kernel
theorem dL_law_606 : decode code 606 = .ok (.iload_n 3, 1) := by decide +kernel
theorem dL_law_607 : decode code 607 = .ok (.iconst 1, 1) := by decide +kernel
theorem dL_law_608 : decode code 608 = .ok (.iadd, 1) := by decide +kernel
theorem dL_law_609 : decode code 609 = .ok (.iaload, 1) := by decide +kernel
theorem dL_law_610 : decode code 610 = .ok (.invokevirtual 88, 3) := by decide +kernel
theorem dL_law_613 : decode code 613 = .ok (.if_icmp .eq 435, 3) := by decide +kernel
theorem dL_law_616 : decode code 616 = .ok (.iconst 0, 1) := by decide +kernel
theorem dL_law_617 : decode code 617 = .ok (.ireturn, 1) := by decide +kernel
theorem dL_law_618 : decode code 618 = .ok (.aload_n 1, 1) := by decide +kernel
theorem dL_law_619 : decode code 619 = .ok (.aload_n 0, 1) := by decide +kernel
theorem dL_law_620 : decode code 620 = .ok (.iload_n 3, 1) := by decide +kernel
theorem dL_law_621 : decode code 621 = .ok (.iconst 1, 1) := by decide +kernel
theorem dL_law_622 : decode code 622 = .ok (.iadd, 1) := by decide +kernel
theorem dL_law_623 : decode code 623 = .ok (.iaload, 1) := by decide +kernel
theorem dL_law_624 : decode code 624 = .ok (.aload_n 0, 1) := by decide +kernel
theorem dL_law_625 : decode code 625 = .ok (.iload_n 3, 1) := by decide +kernel
theorem dL_law_626 : decode code 626 = .ok (.iconst 2, 1) := by decide +kernel
theorem dL_law_627 : decode code 627 = .ok (.iadd, 1) := by decide +kernel
theorem dL_law_628 : decode code 628 = .ok (.iaload, 1) := by decide +kernel
theorem dL_law_629 : decode code 629 = .ok (.invokevirtual 89, 3) := by decide +kernel
theorem dL_law_632 : decode code 632 = .ok (.aload_n 2, 1) := by decide +kernel
theorem dL_law_633 : decode code 633 = .ok (.aload_n 0, 1) := by decide +kernel
theorem dL_law_634 : decode code 634 = .ok (.iload_n 3, 1) := by decide +kernel
theorem dL_law_635 : decode code 635 = .ok (.iconst 1, 1) := by decide +kernel
theorem dL_law_636 : decode code 636 = .ok (.iadd, 1) := by decide +kernel
theorem dL_law_637 : decode code 637 = .ok (.iaload, 1) := by decide +kernel
theorem dL_law_638 : decode code 638 = .ok (.aload_n 0, 1) := by decide +kernel
theorem dL_law_639 : decode code 639 = .ok (.iload_n 3, 1) := by decide +kernel
theorem dL_law_640 : decode code 640 = .ok (.iconst 2, 1) := by decide +kernel
theorem dL_law_641 : decode code 641 = .ok (.iadd, 1) := by decide +kernel
theorem dL_law_642 : decode code 642 = .ok (.iaload, 1) := by decide +kernel
theorem dL_law_643 : decode code 643 = .ok (.invokevirtual 92, 3) := by decide +kernel
theorem dL_law_646 : decode code 646 = .ok (.if_icmp .eq 402, 3) := by decide +kernel
theorem dL_law_649 : decode code 649 = .ok (.iconst 0, 1) := by decide +kernel
theorem dL_law_650 : decode code 650 = .ok (.ireturn, 1) := by decide +kernel
theorem dL_law_651 : decode code 651 = .ok (.aload_n 1, 1) := by decide +kernel
theorem dL_law_652 : decode code 652 = .ok (.aload_n 0, 1) := by decide +kernel
theorem dL_law_653 : decode code 653 = .ok (.iload_n 3, 1) := by decide +kernel
theorem dL_law_654 : decode code 654 = .ok (.iconst 1, 1) := by decide +kernel
theorem dL_law_655 : decode code 655 = .ok (.iadd, 1) := by decide +kernel
theorem dL_law_656 : decode code 656 = .ok (.iaload, 1) := by decide +kernel
theorem dL_law_657 : decode code 657 = .ok (.invokevirtual 93, 3) := by decide +kernel
theorem dL_law_660 : decode code 660 = .ok (.aload_n 2, 1) := by decide +kernel
theorem dL_law_661 : decode code 661 = .ok (.aload_n 0, 1) := by decide +kernel
theorem dL_law_662 : decode code 662 = .ok (.iload_n 3, 1) := by decide +kernel
theorem dL_law_663 : decode code 663 = .ok (.iconst 1, 1) := by decide +kernel
theorem dL_law_664 : decode code 664 = .ok (.iadd, 1) := by decide +kernel
theorem dL_law_665 : decode code 665 = .ok (.iaload, 1) := by decide +kernel
theorem dL_law_666 : decode code 666 = .ok (.invokevirtual 96, 3) := by decide +kernel
theorem dL_law_669 : decode code 669 = .ok (.if_icmp .eq 379, 3) := by decide +kernel
theorem dL_law_672 : decode code 672 = .ok (.iconst 0, 1) := by decide +kernel
theorem dL_law_673 : decode code 673 = .ok (.ireturn, 1) := by decide +kernel
theorem dL_law_674 : decode code 674 = .ok (.aload_n 1, 1) := by decide +kernel
theorem dL_law_675 : decode code 675 = .ok (.aload_n 0, 1) := by decide +kernel
theorem dL_law_676 : decode code 676 = .ok (.iload_n 3, 1) := by decide +kernel
theorem dL_law_677 : decode code 677 = .ok (.iconst 1, 1) := by decide +kernel
theorem dL_law_678 : decode code 678 = .ok (.iadd, 1) := by decide +kernel
theorem dL_law_679 : decode code 679 = .ok (.iaload, 1) := by decide +kernel
theorem dL_law_680 : decode code 680 = .ok (.aload_n 0, 1) := by decide +kernel
theorem dL_law_681 : decode code 681 = .ok (.iload_n 3, 1) := by decide +kernel
theorem dL_law_682 : decode code 682 = .ok (.iconst 2, 1) := by decide +kernel
theorem dL_law_683 : decode code 683 = .ok (.iadd, 1) := by decide +kernel
theorem dL_law_684 : decode code 684 = .ok (.iaload, 1) := by decide +kernel
theorem dL_law_685 : decode code 685 = .ok (.aload_n 0, 1) := by decide +kernel
theorem dL_law_686 : decode code 686 = .ok (.iload_n 3, 1) := by decide +kernel
theorem dL_law_687 : decode code 687 = .ok (.iconst 3, 1) := by decide +kernel
theorem dL_law_688 : decode code 688 = .ok (.iadd, 1) := by decide +kernel
theorem dL_law_689 : decode code 689 = .ok (.iaload, 1) := by decide +kernel
theorem dL_law_690 : decode code 690 = .ok (.aload_n 0, 1) := by decide +kernel
theorem dL_law_691 : decode code 691 = .ok (.iload_n 3, 1) := by decide +kernel
theorem dL_law_692 : decode code 692 = .ok (.iconst 4, 1) := by decide +kernel
theorem dL_law_693 : decode code 693 = .ok (.iadd, 1) := by decide +kernel
theorem dL_law_694 : decode code 694 = .ok (.iaload, 1) := by decide +kernel
theorem dL_law_695 : decode code 695 = .ok (.aload_n 0, 1) := by decide +kernel
theorem dL_law_696 : decode code 696 = .ok (.iload_n 3, 1) := by decide +kernel
theorem dL_law_697 : decode code 697 = .ok (.iconst 5, 1) := by decide +kernel
theorem dL_law_698 : decode code 698 = .ok (.iadd, 1) := by decide +kernel
theorem dL_law_699 : decode code 699 = .ok (.iaload, 1) := by decide +kernel
theorem dL_law_700 : decode code 700 = .ok (.invokevirtual 97, 3) := by decide +kernel
theorem dL_law_703 : decode code 703 = .ok (.aload_n 2, 1) := by decide +kernel
theorem dL_law_704 : decode code 704 = .ok (.aload_n 0, 1) := by decide +kernel
theorem dL_law_705 : decode code 705 = .ok (.iload_n 3, 1) := by decide +kernel
theorem dL_law_706 : decode code 706 = .ok (.iconst 1, 1) := by decide +kernel
theorem dL_law_707 : decode code 707 = .ok (.iadd, 1) := by decide +kernel
theorem dL_law_708 : decode code 708 = .ok (.iaload, 1) := by decide +kernel
theorem dL_law_709 : decode code 709 = .ok (.aload_n 0, 1) := by decide +kernel
theorem dL_law_710 : decode code 710 = .ok (.iload_n 3, 1) := by decide +kernel
theorem dL_law_711 : decode code 711 = .ok (.iconst 2, 1) := by decide +kernel
theorem dL_law_712 : decode code 712 = .ok (.iadd, 1) := by decide +kernel
theorem dL_law_713 : decode code 713 = .ok (.iaload, 1) := by decide +kernel
theorem dL_law_714 : decode code 714 = .ok (.aload_n 0, 1) := by decide +kernel
theorem dL_law_715 : decode code 715 = .ok (.iload_n 3, 1) := by decide +kernel
theorem dL_law_716 : decode code 716 = .ok (.iconst 3, 1) := by decide +kernel
theorem dL_law_717 : decode code 717 = .ok (.iadd, 1) := by decide +kernel
theorem dL_law_718 : decode code 718 = .ok (.iaload, 1) := by decide +kernel
theorem dL_law_719 : decode code 719 = .ok (.aload_n 0, 1) := by decide +kernel
theorem dL_law_720 : decode code 720 = .ok (.iload_n 3, 1) := by decide +kernel
theorem dL_law_721 : decode code 721 = .ok (.iconst 4, 1) := by decide +kernel
theorem dL_law_722 : decode code 722 = .ok (.iadd, 1) := by decide +kernel
theorem dL_law_723 : decode code 723 = .ok (.iaload, 1) := by decide +kernel
theorem dL_law_724 : decode code 724 = .ok (.aload_n 0, 1) := by decide +kernel
theorem dL_law_725 : decode code 725 = .ok (.iload_n 3, 1) := by decide +kernel
theorem dL_law_726 : decode code 726 = .ok (.iconst 5, 1) := by decide +kernel
theorem dL_law_727 : decode code 727 = .ok (.iadd, 1) := by decide +kernel
theorem dL_law_728 : decode code 728 = .ok (.iaload, 1) := by decide +kernel
theorem dL_law_729 : decode code 729 = .ok (.invokevirtual 101, 3) := by decide +kernel
theorem dL_law_732 : decode code 732 = .ok (.if_icmp .eq 316, 3) := by decide +kernel
theorem dL_law_735 : decode code 735 = .ok (.iconst 0, 1) := by decide +kernel
theorem dL_law_736 : decode code 736 = .ok (.ireturn, 1) := by decide +kernel
theorem dL_law_737 : decode code 737 = .ok (.aload_n 1, 1) := by decide +kernel
theorem dL_law_738 : decode code 738 = .ok (.invokevirtual 102, 3) := by decide +kernel
theorem dL_law_741 : decode code 741 = .ok (.aload_n 2, 1) := by decide +kernel
theorem dL_law_742 : decode code 742 = .ok (.invokevirtual 105, 3) := by decide +kernel
theorem dL_law_745 : decode code 745 = .ok (.if_icmp .eq 303, 3) := by decide +kernel
theorem dL_law_748 : decode code 748 = .ok (.iconst 0, 1) := by decide +kernel
theorem dL_law_749 : decode code 749 = .ok (.ireturn, 1) := by decide +kernel
theorem dL_law_750 : decode code 750 = .ok (.aload_n 1, 1) := by decide +kernel
theorem dL_law_751 : decode code 751 = .ok (.aload_n 0, 1) := by decide +kernel
theorem dL_law_752 : decode code 752 = .ok (.iload_n 3, 1) := by decide +kernel
theorem dL_law_753 : decode code 753 = .ok (.iconst 1, 1) := by decide +kernel
theorem dL_law_754 : decode code 754 = .ok (.iadd, 1) := by decide +kernel
theorem dL_law_755 : decode code 755 = .ok (.iaload, 1) := by decide +kernel
theorem dL_law_756 : decode code 756 = .ok (.invokevirtual 106, 3) := by decide +kernel
theorem dL_law_759 : decode code 759 = .ok (.aload_n 2, 1) := by decide +kernel
theorem dL_law_760 : decode code 760 = .ok (.aload_n 0, 1) := by decide +kernel
theorem dL_law_761 : decode code 761 = .ok (.iload_n 3, 1) := by decide +kernel
theorem dL_law_762 : decode code 762 = .ok (.iconst 1, 1) := by decide +kernel
theorem dL_law_763 : decode code 763 = .ok (.iadd, 1) := by decide +kernel
theorem dL_law_764 : decode code 764 = .ok (.iaload, 1) := by decide +kernel
theorem dL_law_765 : decode code 765 = .ok (.invokevirtual 109, 3) := by decide +kernel
theorem dL_law_768 : decode code 768 = .ok (.if_icmp .eq 280, 3) := by decide +kernel
theorem dL_law_771 : decode code 771 = .ok (.iconst 0, 1) := by decide +kernel
theorem dL_law_772 : decode code 772 = .ok (.ireturn, 1) := by decide +kernel
theorem dL_law_773 : decode code 773 = .ok (.aload_n 1, 1) := by decide +kernel
theorem dL_law_774 : decode code 774 = .ok (.aload_n 0, 1) := by decide +kernel
theorem dL_law_775 : decode code 775 = .ok (.iload_n 3, 1) := by decide +kernel
theorem dL_law_776 : decode code 776 = .ok (.iconst 1, 1) := by decide +kernel
theorem dL_law_777 : decode code 777 = .ok (.iadd, 1) := by decide +kernel
theorem dL_law_778 : decode code 778 = .ok (.iaload, 1) := by decide +kernel
theorem dL_law_779 : decode code 779 = .ok (.aload_n 0, 1) := by decide +kernel
theorem dL_law_780 : decode code 780 = .ok (.iload_n 3, 1) := by decide +kernel
theorem dL_law_781 : decode code 781 = .ok (.iconst 2, 1) := by decide +kernel
theorem dL_law_782 : decode code 782 = .ok (.iadd, 1) := by decide +kernel
theorem dL_law_783 : decode code 783 = .ok (.iaload, 1) := by decide +kernel
theorem dL_law_784 : decode code 784 = .ok (.invokevirtual 110, 3) := by decide +kernel
theorem dL_law_787 : decode code 787 = .ok (.aload_n 2, 1) := by decide +kernel
theorem dL_law_788 : decode code 788 = .ok (.aload_n 0, 1) := by decide +kernel
theorem dL_law_789 : decode code 789 = .ok (.iload_n 3, 1) := by decide +kernel
theorem dL_law_790 : decode code 790 = .ok (.iconst 1, 1) := by decide +kernel
theorem dL_law_791 : decode code 791 = .ok (.iadd, 1) := by decide +kernel
theorem dL_law_792 : decode code 792 = .ok (.iaload, 1) := by decide +kernel
theorem dL_law_793 : decode code 793 = .ok (.aload_n 0, 1) := by decide +kernel
theorem dL_law_794 : decode code 794 = .ok (.iload_n 3, 1) := by decide +kernel
theorem dL_law_795 : decode code 795 = .ok (.iconst 2, 1) := by decide +kernel
theorem dL_law_796 : decode code 796 = .ok (.iadd, 1) := by decide +kernel
theorem dL_law_797 : decode code 797 = .ok (.iaload, 1) := by decide +kernel
theorem dL_law_798 : decode code 798 = .ok (.invokevirtual 113, 3) := by decide +kernel
theorem dL_law_801 : decode code 801 = .ok (.if_icmp .eq 247, 3) := by decide +kernel
theorem dL_law_804 : decode code 804 = .ok (.iconst 0, 1) := by decide +kernel
theorem dL_law_805 : decode code 805 = .ok (.ireturn, 1) := by decide +kernel
theorem dL_law_806 : decode code 806 = .ok (.aload_n 1, 1) := by decide +kernel
theorem dL_law_807 : decode code 807 = .ok (.aload_n 0, 1) := by decide +kernel
theorem dL_law_808 : decode code 808 = .ok (.iload_n 3, 1) := by decide +kernel
theorem dL_law_809 : decode code 809 = .ok (.iconst 1, 1) := by decide +kernel
theorem dL_law_810 : decode code 810 = .ok (.iadd, 1) := by decide +kernel
theorem dL_law_811 : decode code 811 = .ok (.iaload, 1) := by decide +kernel
theorem dL_law_812 : decode code 812 = .ok (.invokevirtual 114, 3) := by decide +kernel
theorem dL_law_815 : decode code 815 = .ok (.aload_n 2, 1) := by decide +kernel
theorem dL_law_816 : decode code 816 = .ok (.aload_n 0, 1) := by decide +kernel
theorem dL_law_817 : decode code 817 = .ok (.iload_n 3, 1) := by decide +kernel
theorem dL_law_818 : decode code 818 = .ok (.iconst 1, 1) := by decide +kernel
theorem dL_law_819 : decode code 819 = .ok (.iadd, 1) := by decide +kernel
theorem dL_law_820 : decode code 820 = .ok (.iaload, 1) := by decide +kernel
theorem dL_law_821 : decode code 821 = .ok (.invokevirtual 117, 3) := by decide +kernel
theorem dL_law_824 : decode code 824 = .ok (.if_icmp .eq 224, 3) := by decide +kernel
theorem dL_law_827 : decode code 827 = .ok (.iconst 0, 1) := by decide +kernel
theorem dL_law_828 : decode code 828 = .ok (.ireturn, 1) := by decide +kernel
theorem dL_law_829 : decode code 829 = .ok (.aload_n 1, 1) := by decide +kernel
theorem dL_law_830 : decode code 830 = .ok (.aload_n 0, 1) := by decide +kernel
theorem dL_law_831 : decode code 831 = .ok (.iload_n 3, 1) := by decide +kernel
theorem dL_law_832 : decode code 832 = .ok (.iconst 1, 1) := by decide +kernel
theorem dL_law_833 : decode code 833 = .ok (.iadd, 1) := by decide +kernel
theorem dL_law_834 : decode code 834 = .ok (.iaload, 1) := by decide +kernel
theorem dL_law_835 : decode code 835 = .ok (.invokevirtual 118, 3) := by decide +kernel
theorem dL_law_838 : decode code 838 = .ok (.aload_n 2, 1) := by decide +kernel
theorem dL_law_839 : decode code 839 = .ok (.aload_n 0, 1) := by decide +kernel
theorem dL_law_840 : decode code 840 = .ok (.iload_n 3, 1) := by decide +kernel
theorem dL_law_841 : decode code 841 = .ok (.iconst 1, 1) := by decide +kernel
theorem dL_law_842 : decode code 842 = .ok (.iadd, 1) := by decide +kernel
theorem dL_law_843 : decode code 843 = .ok (.iaload, 1) := by decide +kernel
theorem dL_law_844 : decode code 844 = .ok (.invokevirtual 121, 3) := by decide +kernel
theorem dL_law_847 : decode code 847 = .ok (.if_icmp .eq 201, 3) := by decide +kernel
theorem dL_law_850 : decode code 850 = .ok (.iconst 0, 1) := by decide +kernel
theorem dL_law_851 : decode code 851 = .ok (.ireturn, 1) := by decide +kernel
theorem dL_law_852 : decode code 852 = .ok (.aload_n 1, 1) := by decide +kernel
theorem dL_law_853 : decode code 853 = .ok (.aload_n 0, 1) := by decide +kernel
theorem dL_law_854 : decode code 854 = .ok (.iload_n 3, 1) := by decide +kernel
theorem dL_law_855 : decode code 855 = .ok (.iconst 1, 1) := by decide +kernel
theorem dL_law_856 : decode code 856 = .ok (.iadd, 1) := by decide +kernel
theorem dL_law_857 : decode code 857 = .ok (.iaload, 1) := by decide +kernel
theorem dL_law_858 : decode code 858 = .ok (.aload_n 0, 1) := by decide +kernel
theorem dL_law_859 : decode code 859 = .ok (.iload_n 3, 1) := by decide +kernel
theorem dL_law_860 : decode code 860 = .ok (.iconst 2, 1) := by decide +kernel
theorem dL_law_861 : decode code 861 = .ok (.iadd, 1) := by decide +kernel
theorem dL_law_862 : decode code 862 = .ok (.iaload, 1) := by decide +kernel
theorem dL_law_863 : decode code 863 = .ok (.invokevirtual 122, 3) := by decide +kernel
theorem dL_law_866 : decode code 866 = .ok (.aload_n 2, 1) := by decide +kernel
theorem dL_law_867 : decode code 867 = .ok (.aload_n 0, 1) := by decide +kernel
theorem dL_law_868 : decode code 868 = .ok (.iload_n 3, 1) := by decide +kernel
theorem dL_law_869 : decode code 869 = .ok (.iconst 1, 1) := by decide +kernel
theorem dL_law_870 : decode code 870 = .ok (.iadd, 1) := by decide +kernel
theorem dL_law_871 : decode code 871 = .ok (.iaload, 1) := by decide +kernel
theorem dL_law_872 : decode code 872 = .ok (.aload_n 0, 1) := by decide +kernel
theorem dL_law_873 : decode code 873 = .ok (.iload_n 3, 1) := by decide +kernel
theorem dL_law_874 : decode code 874 = .ok (.iconst 2, 1) := by decide +kernel
theorem dL_law_875 : decode code 875 = .ok (.iadd, 1) := by decide +kernel
theorem dL_law_876 : decode code 876 = .ok (.iaload, 1) := by decide +kernel
theorem dL_law_877 : decode code 877 = .ok (.invokevirtual 125, 3) := by decide +kernel
theorem dL_law_880 : decode code 880 = .ok (.if_icmp .eq 168, 3) := by decide +kernel
theorem dL_law_883 : decode code 883 = .ok (.iconst 0, 1) := by decide +kernel
theorem dL_law_884 : decode code 884 = .ok (.ireturn, 1) := by decide +kernel
theorem dL_law_885 : decode code 885 = .ok (.aload_n 1, 1) := by decide +kernel
theorem dL_law_886 : decode code 886 = .ok (.aload_n 0, 1) := by decide +kernel
theorem dL_law_887 : decode code 887 = .ok (.iload_n 3, 1) := by decide +kernel
theorem dL_law_888 : decode code 888 = .ok (.iconst 1, 1) := by decide +kernel
theorem dL_law_889 : decode code 889 = .ok (.iadd, 1) := by decide +kernel
theorem dL_law_890 : decode code 890 = .ok (.iaload, 1) := by decide +kernel
theorem dL_law_891 : decode code 891 = .ok (.aload_n 0, 1) := by decide +kernel
theorem dL_law_892 : decode code 892 = .ok (.iload_n 3, 1) := by decide +kernel
theorem dL_law_893 : decode code 893 = .ok (.iconst 2, 1) := by decide +kernel
theorem dL_law_894 : decode code 894 = .ok (.iadd, 1) := by decide +kernel
theorem dL_law_895 : decode code 895 = .ok (.iaload, 1) := by decide +kernel
theorem dL_law_896 : decode code 896 = .ok (.invokevirtual 126, 3) := by decide +kernel
theorem dL_law_899 : decode code 899 = .ok (.aload_n 2, 1) := by decide +kernel
theorem dL_law_900 : decode code 900 = .ok (.aload_n 0, 1) := by decide +kernel
theorem dL_law_901 : decode code 901 = .ok (.iload_n 3, 1) := by decide +kernel
theorem dL_law_902 : decode code 902 = .ok (.iconst 1, 1) := by decide +kernel
theorem dL_law_903 : decode code 903 = .ok (.iadd, 1) := by decide +kernel
theorem dL_law_904 : decode code 904 = .ok (.iaload, 1) := by decide +kernel
theorem dL_law_905 : decode code 905 = .ok (.aload_n 0, 1) := by decide +kernel
theorem dL_law_906 : decode code 906 = .ok (.iload_n 3, 1) := by decide +kernel
theorem dL_law_907 : decode code 907 = .ok (.iconst 2, 1) := by decide +kernel
theorem dL_law_908 : decode code 908 = .ok (.iadd, 1) := by decide +kernel
theorem dL_law_909 : decode code 909 = .ok (.iaload, 1) := by decide +kernel
theorem dL_law_910 : decode code 910 = .ok (.invokevirtual 129, 3) := by decide +kernel
theorem dL_law_913 : decode code 913 = .ok (.if_icmp .eq 135, 3) := by decide +kernel
theorem dL_law_916 : decode code 916 = .ok (.iconst 0, 1) := by decide +kernel
theorem dL_law_917 : decode code 917 = .ok (.ireturn, 1) := by decide +kernel
theorem dL_law_918 : decode code 918 = .ok (.aload_n 1, 1) := by decide +kernel
theorem dL_law_919 : decode code 919 = .ok (.aload_n 0, 1) := by decide +kernel
theorem dL_law_920 : decode code 920 = .ok (.iload_n 3, 1) := by decide +kernel
theorem dL_law_921 : decode code 921 = .ok (.iconst 1, 1) := by decide +kernel
theorem dL_law_922 : decode code 922 = .ok (.iadd, 1) := by decide +kernel
theorem dL_law_923 : decode code 923 = .ok (.iaload, 1) := by decide +kernel
theorem dL_law_924 : decode code 924 = .ok (.invokevirtual 130, 3) := by decide +kernel
theorem dL_law_927 : decode code 927 = .ok (.aload_n 2, 1) := by decide +kernel
theorem dL_law_928 : decode code 928 = .ok (.aload_n 0, 1) := by decide +kernel
theorem dL_law_929 : decode code 929 = .ok (.iload_n 3, 1) := by decide +kernel
theorem dL_law_930 : decode code 930 = .ok (.iconst 1, 1) := by decide +kernel
theorem dL_law_931 : decode code 931 = .ok (.iadd, 1) := by decide +kernel
theorem dL_law_932 : decode code 932 = .ok (.iaload, 1) := by decide +kernel
theorem dL_law_933 : decode code 933 = .ok (.invokevirtual 134, 3) := by decide +kernel
theorem dL_law_936 : decode code 936 = .ok (.lcmp, 1) := by decide +kernel
theorem dL_law_937 : decode code 937 = .ok (.ifCond .eq 111, 3) := by decide +kernel
theorem dL_law_940 : decode code 940 = .ok (.iconst 0, 1) := by decide +kernel
theorem dL_law_941 : decode code 941 = .ok (.ireturn, 1) := by decide +kernel
theorem dL_law_942 : decode code 942 = .ok (.aload_n 1, 1) := by decide +kernel
theorem dL_law_943 : decode code 943 = .ok (.aload_n 0, 1) := by decide +kernel
theorem dL_law_944 : decode code 944 = .ok (.iload_n 3, 1) := by decide +kernel
theorem dL_law_945 : decode code 945 = .ok (.iconst 1, 1) := by decide +kernel
theorem dL_law_946 : decode code 946 = .ok (.iadd, 1) := by decide +kernel
theorem dL_law_947 : decode code 947 = .ok (.iaload, 1) := by decide +kernel
theorem dL_law_948 : decode code 948 = .ok (.invokevirtual 135, 3) := by decide +kernel
theorem dL_law_951 : decode code 951 = .ok (.aload_n 2, 1) := by decide +kernel
theorem dL_law_952 : decode code 952 = .ok (.aload_n 0, 1) := by decide +kernel
theorem dL_law_953 : decode code 953 = .ok (.iload_n 3, 1) := by decide +kernel
theorem dL_law_954 : decode code 954 = .ok (.iconst 1, 1) := by decide +kernel
theorem dL_law_955 : decode code 955 = .ok (.iadd, 1) := by decide +kernel
theorem dL_law_956 : decode code 956 = .ok (.iaload, 1) := by decide +kernel
theorem dL_law_957 : decode code 957 = .ok (.invokevirtual 138, 3) := by decide +kernel
theorem dL_law_960 : decode code 960 = .ok (.if_icmp .eq 88, 3) := by decide +kernel
theorem dL_law_963 : decode code 963 = .ok (.iconst 0, 1) := by decide +kernel
theorem dL_law_964 : decode code 964 = .ok (.ireturn, 1) := by decide +kernel
theorem dL_law_965 : decode code 965 = .ok (.aload_n 1, 1) := by decide +kernel
theorem dL_law_966 : decode code 966 = .ok (.aload_n 0, 1) := by decide +kernel
theorem dL_law_967 : decode code 967 = .ok (.iload_n 3, 1) := by decide +kernel
theorem dL_law_968 : decode code 968 = .ok (.iconst 1, 1) := by decide +kernel
theorem dL_law_969 : decode code 969 = .ok (.iadd, 1) := by decide +kernel
theorem dL_law_970 : decode code 970 = .ok (.iaload, 1) := by decide +kernel
theorem dL_law_971 : decode code 971 = .ok (.invokevirtual 139, 3) := by decide +kernel
theorem dL_law_974 : decode code 974 = .ok (.aload_n 2, 1) := by decide +kernel
theorem dL_law_975 : decode code 975 = .ok (.aload_n 0, 1) := by decide +kernel
theorem dL_law_976 : decode code 976 = .ok (.iload_n 3, 1) := by decide +kernel
theorem dL_law_977 : decode code 977 = .ok (.iconst 1, 1) := by decide +kernel
theorem dL_law_978 : decode code 978 = .ok (.iadd, 1) := by decide +kernel
theorem dL_law_979 : decode code 979 = .ok (.iaload, 1) := by decide +kernel
theorem dL_law_980 : decode code 980 = .ok (.invokevirtual 142, 3) := by decide +kernel
theorem dL_law_983 : decode code 983 = .ok (.if_icmp .eq 65, 3) := by decide +kernel
theorem dL_law_986 : decode code 986 = .ok (.iconst 0, 1) := by decide +kernel
theorem dL_law_987 : decode code 987 = .ok (.ireturn, 1) := by decide +kernel
theorem dL_law_988 : decode code 988 = .ok (.aload_n 1, 1) := by decide +kernel
theorem dL_law_989 : decode code 989 = .ok (.aload_n 0, 1) := by decide +kernel
theorem dL_law_990 : decode code 990 = .ok (.iload_n 3, 1) := by decide +kernel
theorem dL_law_991 : decode code 991 = .ok (.iconst 1, 1) := by decide +kernel
theorem dL_law_992 : decode code 992 = .ok (.iadd, 1) := by decide +kernel
theorem dL_law_993 : decode code 993 = .ok (.iaload, 1) := by decide +kernel
theorem dL_law_994 : decode code 994 = .ok (.invokevirtual 143, 3) := by decide +kernel
theorem dL_law_997 : decode code 997 = .ok (.aload_n 2, 1) := by decide +kernel
theorem dL_law_998 : decode code 998 = .ok (.aload_n 0, 1) := by decide +kernel
theorem dL_law_999 : decode code 999 = .ok (.iload_n 3, 1) := by decide +kernel
theorem dL_law_1000 : decode code 1000 = .ok (.iconst 1, 1) := by decide +kernel
theorem dL_law_1001 : decode code 1001 = .ok (.iadd, 1) := by decide +kernel
theorem dL_law_1002 : decode code 1002 = .ok (.iaload, 1) := by decide +kernel
theorem dL_law_1003 : decode code 1003 = .ok (.invokevirtual 146, 3) := by decide +kernel
theorem dL_law_1006 : decode code 1006 = .ok (.if_icmp .eq 42, 3) := by decide +kernel
theorem dL_law_1009 : decode code 1009 = .ok (.iconst 0, 1) := by decide +kernel
theorem dL_law_1010 : decode code 1010 = .ok (.ireturn, 1) := by decide +kernel
theorem dL_law_1011 : decode code 1011 = .ok (.aload_n 1, 1) := by decide +kernel
theorem dL_law_1012 : decode code 1012 = .ok (.aload_n 0, 1) := by decide +kernel
theorem dL_law_1013 : decode code 1013 = .ok (.iload_n 3, 1) := by decide +kernel
theorem dL_law_1014 : decode code 1014 = .ok (.iconst 1, 1) := by decide +kernel
theorem dL_law_1015 : decode code 1015 = .ok (.iadd, 1) := by decide +kernel
theorem dL_law_1016 : decode code 1016 = .ok (.iaload, 1) := by decide +kernel
theorem dL_law_1017 : decode code 1017 = .ok (.invokevirtual 147, 3) := by decide +kernel
theorem dL_law_1020 : decode code 1020 = .ok (.aload_n 2, 1) := by decide +kernel
theorem dL_law_1021 : decode code 1021 = .ok (.aload_n 0, 1) := by decide +kernel
theorem dL_law_1022 : decode code 1022 = .ok (.iload_n 3, 1) := by decide +kernel
theorem dL_law_1023 : decode code 1023 = .ok (.iconst 1, 1) := by decide +kernel
theorem dL_law_1024 : decode code 1024 = .ok (.iadd, 1) := by decide +kernel
theorem dL_law_1025 : decode code 1025 = .ok (.iaload, 1) := by decide +kernel
theorem dL_law_1026 : decode code 1026 = .ok (.invokevirtual 150, 3) := by decide +kernel
theorem dL_law_1029 : decode code 1029 = .ok (.if_icmp .eq 19, 3) := by decide +kernel
theorem dL_law_1032 : decode code 1032 = .ok (.iconst 0, 1) := by decide +kernel
theorem dL_law_1033 : decode code 1033 = .ok (.ireturn, 1) := by decide +kernel
theorem dL_law_1034 : decode code 1034 = .ok (.aload_n 1, 1) := by decide +kernel
theorem dL_law_1035 : decode code 1035 = .ok (.invokevirtual 151, 3) := by decide +kernel
theorem dL_law_1038 : decode code 1038 = .ok (.aload_n 2, 1) := by decide +kernel
theorem dL_law_1039 : decode code 1039 = .ok (.invokevirtual 155, 3) := by decide +kernel
theorem dL_law_1042 : decode code 1042 = .ok (.lcmp, 1) := by decide +kernel
theorem dL_law_1043 : decode code 1043 = .ok (.ifCond .eq 5, 3) := by decide +kernel
theorem dL_law_1046 : decode code 1046 = .ok (.iconst 0, 1) := by decide +kernel
theorem dL_law_1047 : decode code 1047 = .ok (.ireturn, 1) := by decide +kernel
theorem dL_law_1048 : decode code 1048 = .ok (.iinc 3 6, 3) := by decide +kernel
theorem dL_law_1051 : decode code 1051 = .ok (.goto (-1033), 3) := by decide +kernel
theorem dL_law_1054 : decode code 1054 = .ok (.iconst 1, 1) := by decide +kernel
theorem dL_law_1055 : decode code 1055 = .ok (.ireturn, 1) := by decide +kernel
