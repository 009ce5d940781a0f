theorem dX7_init_0 : decode cX7_init 0 = .ok (.aload_n 0, 1) := by decide +kernel
theorem dX7_init_1 : decode cX7_init 1 = .ok (.invokespecial 1, 3) := by decide +kernel
theorem dX7_init_4 : decode cX7_init 4 = .ok (.aload_n 0, 1) := by decide +kernel
theorem dX7_init_5 : decode cX7_init 5 = .ok (.new 7, 3) := by decide +kernel
theorem dX7_init_8 : decode cX7_init 8 = .ok (.dup, 1) := by decide +kernel
theorem dX7_init_9 : decode cX7_init 9 = .ok (.invokespecial 9, 3) := by decide +kernel
theorem dX7_init_12 : decode cX7_init 12 = .ok (.putfield 10, 3) := by decide +kernel
theorem dX7_init_15 : decode cX7_init 15 = .ok (.aload_n 0, 1) := by decide +kernel
theorem dX7_init_16 : decode cX7_init 16 = .ok (.new 16, 3) := by decide +kernel
theorem dX7_init_19 : decode cX7_init 19 = .ok (.dup, 1) := by decide +kernel
theorem dX7_init_20 : decode cX7_init 20 = .ok (.invokespecial 18, 3) := by decide +kernel
theorem dX7_init_23 : decode cX7_init 23 = .ok (.putfield 19, 3) := by decide +kernel
theorem dX7_init_26 : decode cX7_init 26 = .ok (.aload_n 0, 1) := by decide +kernel
theorem dX7_init_27 : decode cX7_init 27 = .ok (.new 23, 3) := by decide +kernel
theorem dX7_init_30 : decode cX7_init 30 = .ok (.dup, 1) := by decide +kernel
theorem dX7_init_31 : decode cX7_init 31 = .ok (.invokespecial 25, 3) := by decide +kernel
theorem dX7_init_34 : decode cX7_init 34 = .ok (.putfield 26, 3) := by decide +kernel
theorem dX7_init_37 : decode cX7_init 37 = .ok (.aload_n 0, 1) := by decide +kernel
theorem dX7_init_38 : decode cX7_init 38 = .ok (.new 23, 3) := by decide +kernel
theorem dX7_init_41 : decode cX7_init 41 = .ok (.dup, 1) := by decide +kernel
theorem dX7_init_42 : decode cX7_init 42 = .ok (.invokespecial 25, 3) := by decide +kernel
theorem dX7_init_45 : decode cX7_init 45 = .ok (.putfield 30, 3) := by decide +kernel
theorem dX7_init_48 : decode cX7_init 48 = .ok (.aload_n 0, 1) := by decide +kernel
theorem dX7_init_49 : decode cX7_init 49 = .ok (.new 33, 3) := by decide +kernel
theorem dX7_init_52 : decode cX7_init 52 = .ok (.dup, 1) := by decide +kernel
theorem dX7_init_53 : decode cX7_init 53 = .ok (.invokespecial 35, 3) := by decide +kernel
theorem dX7_init_56 : decode cX7_init 56 = .ok (.putfield 36, 3) := by decide +kernel
theorem dX7_init_59 : decode cX7_init 59 = .ok (.aload_n 0, 1) := by decide +kernel
theorem dX7_init_60 : decode cX7_init 60 = .ok (.new 33, 3) := by decide +kernel
theorem dX7_init_63 : decode cX7_init 63 = .ok (.dup, 1) := by decide +kernel
theorem dX7_init_64 : decode cX7_init 64 = .ok (.invokespecial 35, 3) := by decide +kernel
theorem dX7_init_67 : decode cX7_init 67 = .ok (.putfield 40, 3) := by decide +kernel
theorem dX7_init_70 : decode cX7_init 70 = .ok (.aload_n 0, 1) := by decide +kernel
theorem dX7_init_71 : decode cX7_init 71 = .ok (.new 33, 3) := by decide +kernel
theorem dX7_init_74 : decode cX7_init 74 = .ok (.dup, 1) := by decide +kernel
theorem dX7_init_75 : decode cX7_init 75 = .ok (.invokespecial 35, 3) := by decide +kernel
theorem dX7_init_78 : decode cX7_init 78 = .ok (.putfield 43, 3) := by decide +kernel
theorem dX7_init_81 : decode cX7_init 81 = .ok (.aload_n 0, 1) := by decide +kernel
theorem dX7_init_82 : decode cX7_init 82 = .ok (.new 46, 3) := by decide +kernel
theorem dX7_init_85 : decode cX7_init 85 = .ok (.dup, 1) := by decide +kernel
theorem dX7_init_86 : decode cX7_init 86 = .ok (.invokespecial 48, 3) := by decide +kernel
theorem dX7_init_89 : decode cX7_init 89 = .ok (.putfield 49, 3) := by decide +kernel
theorem dX7_init_92 : decode cX7_init 92 = .ok (.aload_n 0, 1) := by decide +kernel
theorem dX7_init_93 : decode cX7_init 93 = .ok (.new 46, 3) := by decide +kernel
theorem dX7_init_96 : decode cX7_init 96 = .ok (.dup, 1) := by decide +kernel
theorem dX7_init_97 : decode cX7_init 97 = .ok (.invokespecial 48, 3) := by decide +kernel
theorem dX7_init_100 : decode cX7_init 100 = .ok (.putfield 53, 3) := by decide +kernel
theorem dX7_init_103 : decode cX7_init 103 = .ok (.aload_n 0, 1) := by decide +kernel
theorem dX7_init_104 : decode cX7_init 104 = .ok (.new 56, 3) := by decide +kernel
theorem dX7_init_107 : decode cX7_init 107 = .ok (.dup, 1) := by decide +kernel
theorem dX7_init_108 : decode cX7_init 108 = .ok (.invokespecial 58, 3) := by decide +kernel
theorem dX7_init_111 : decode cX7_init 111 = .ok (.putfield 59, 3) := by decide +kernel
theorem dX7_init_114 : decode cX7_init 114 = .ok (.aload_n 0, 1) := by decide +kernel
theorem dX7_init_115 : decode cX7_init 115 = .ok (.new 63, 3) := by decide +kernel
theorem dX7_init_118 : decode cX7_init 118 = .ok (.dup, 1) := by decide +kernel
theorem dX7_init_119 : decode cX7_init 119 = .ok (.invokespecial 65, 3) := by decide +kernel
theorem dX7_init_122 : decode cX7_init 122 = .ok (.putfield 66, 3) := by decide +kernel
theorem dX7_init_125 : decode cX7_init 125 = .ok (.return_, 1) := by decide +kernel
theorem dX7_letter_0 : decode cX7_letter 0 = .ok (.iload_n 1, 1) := by decide +kernel
theorem dX7_letter_1 : decode cX7_letter 1 = .ok (.iconst 1, 1) := by decide +kernel
theorem dX7_letter_2 : decode cX7_letter 2 = .ok (.bipush 126, 2) := by decide +kernel
theorem dX7_letter_4 : decode cX7_letter 4 = .ok (.invokestatic 70, 3) := by decide +kernel
theorem dX7_letter_7 : decode cX7_letter 7 = .ok (.ifCond .ne 6, 3) := by decide +kernel
theorem dX7_letter_10 : decode cX7_letter 10 = .ok (.bipush (-102), 2) := by decide +kernel
theorem dX7_letter_12 : decode cX7_letter 12 = .ok (.ireturn, 1) := by decide +kernel
theorem dX7_letter_13 : decode cX7_letter 13 = .ok (.aload_n 0, 1) := by decide +kernel
theorem dX7_letter_14 : decode cX7_letter 14 = .ok (.getfield 10, 3) := by decide +kernel
theorem dX7_letter_17 : decode cX7_letter 17 = .ok (.getfield 74, 3) := by decide +kernel
theorem dX7_letter_20 : decode cX7_letter 20 = .ok (.bipush 60, 2) := by decide +kernel
theorem dX7_letter_22 : decode cX7_letter 22 = .ok (.if_icmp .lt 6, 3) := by decide +kernel
theorem dX7_letter_25 : decode cX7_letter 25 = .ok (.bipush (-104), 2) := by decide +kernel
theorem dX7_letter_27 : decode cX7_letter 27 = .ok (.ireturn, 1) := by decide +kernel
theorem dX7_letter_28 : decode cX7_letter 28 = .ok (.aload_n 0, 1) := by decide +kernel
theorem dX7_letter_29 : decode cX7_letter 29 = .ok (.getfield 10, 3) := by decide +kernel
theorem dX7_letter_32 : decode cX7_letter 32 = .ok (.getfield 78, 3) := by decide +kernel
theorem dX7_letter_35 : decode cX7_letter 35 = .ok (.aload_n 0, 1) := by decide +kernel
theorem dX7_letter_36 : decode cX7_letter 36 = .ok (.getfield 10, 3) := by decide +kernel
theorem dX7_letter_39 : decode cX7_letter 39 = .ok (.getfield 74, 3) := by decide +kernel
theorem dX7_letter_42 : decode cX7_letter 42 = .ok (.iload_n 1, 1) := by decide +kernel
theorem dX7_letter_43 : decode cX7_letter 43 = .ok (.iastore, 1) := by decide +kernel
theorem dX7_letter_44 : decode cX7_letter 44 = .ok (.aload_n 0, 1) := by decide +kernel
theorem dX7_letter_45 : decode cX7_letter 45 = .ok (.getfield 10, 3) := by decide +kernel
theorem dX7_letter_48 : decode cX7_letter 48 = .ok (.dup, 1) := by decide +kernel
theorem dX7_letter_49 : decode cX7_letter 49 = .ok (.getfield 74, 3) := by decide +kernel
theorem dX7_letter_52 : decode cX7_letter 52 = .ok (.iconst 1, 1) := by decide +kernel
theorem dX7_letter_53 : decode cX7_letter 53 = .ok (.iadd, 1) := by decide +kernel
theorem dX7_letter_54 : decode cX7_letter 54 = .ok (.putfield 74, 3) := by decide +kernel
theorem dX7_letter_57 : decode cX7_letter 57 = .ok (.aload_n 0, 1) := by decide +kernel
theorem dX7_letter_58 : decode cX7_letter 58 = .ok (.getfield 10, 3) := by decide +kernel
theorem dX7_letter_61 : decode cX7_letter 61 = .ok (.getfield 74, 3) := by decide +kernel
theorem dX7_letter_64 : decode cX7_letter 64 = .ok (.ireturn, 1) := by decide +kernel
theorem dX7_blank_0 : decode cX7_blank 0 = .ok (.aload_n 0, 1) := by decide +kernel
theorem dX7_blank_1 : decode cX7_blank 1 = .ok (.getfield 10, 3) := by decide +kernel
theorem dX7_blank_4 : decode cX7_blank 4 = .ok (.getfield 74, 3) := by decide +kernel
theorem dX7_blank_7 : decode cX7_blank 7 = .ok (.istore_n 1, 1) := by decide +kernel
theorem dX7_blank_8 : decode cX7_blank 8 = .ok (.aload_n 0, 1) := by decide +kernel
theorem dX7_blank_9 : decode cX7_blank 9 = .ok (.getfield 10, 3) := by decide +kernel
theorem dX7_blank_12 : decode cX7_blank 12 = .ok (.iconst 0, 1) := by decide +kernel
theorem dX7_blank_13 : decode cX7_blank 13 = .ok (.putfield 74, 3) := by decide +kernel
theorem dX7_blank_16 : decode cX7_blank 16 = .ok (.iload_n 1, 1) := by decide +kernel
theorem dX7_blank_17 : decode cX7_blank 17 = .ok (.ireturn, 1) := by decide +kernel
theorem dX7_fault_0 : decode cX7_fault 0 = .ok (.aload_n 0, 1) := by decide +kernel
theorem dX7_fault_1 : decode cX7_fault 1 = .ok (.getfield 10, 3) := by decide +kernel
theorem dX7_fault_4 : decode cX7_fault 4 = .ok (.invokevirtual 82, 3) := by decide +kernel
theorem dX7_fault_7 : decode cX7_fault 7 = .ok (.ireturn, 1) := by decide +kernel
theorem dX7_suburb_0 : decode cX7_suburb 0 = .ok (.aload_n 0, 1) := by decide +kernel
theorem dX7_suburb_1 : decode cX7_suburb 1 = .ok (.getfield 10, 3) := by decide +kernel
theorem dX7_suburb_4 : decode cX7_suburb 4 = .ok (.invokevirtual 86, 3) := by decide +kernel
theorem dX7_suburb_7 : decode cX7_suburb 7 = .ok (.ifCond .ne 6, 3) := by decide +kernel
theorem dX7_suburb_10 : decode cX7_suburb 10 = .ok (.bipush (-103), 2) := by decide +kernel
theorem dX7_suburb_12 : decode cX7_suburb 12 = .ok (.ireturn, 1) := by decide +kernel
theorem dX7_suburb_13 : decode cX7_suburb 13 = .ok (.aload_n 0, 1) := by decide +kernel
theorem dX7_suburb_14 : decode cX7_suburb 14 = .ok (.getfield 19, 3) := by decide +kernel
theorem dX7_suburb_17 : decode cX7_suburb 17 = .ok (.aload_n 0, 1) := by decide +kernel
theorem dX7_suburb_18 : decode cX7_suburb 18 = .ok (.getfield 10, 3) := by decide +kernel
theorem dX7_suburb_21 : decode cX7_suburb 21 = .ok (.invokevirtual 90, 3) := by decide +kernel
theorem dX7_suburb_24 : decode cX7_suburb 24 = .ok (.aload_n 0, 1) := by decide +kernel
theorem dX7_suburb_25 : decode cX7_suburb 25 = .ok (.getfield 26, 3) := by decide +kernel
theorem dX7_suburb_28 : decode cX7_suburb 28 = .ok (.aload_n 0, 1) := by decide +kernel
theorem dX7_suburb_29 : decode cX7_suburb 29 = .ok (.getfield 10, 3) := by decide +kernel
theorem dX7_suburb_32 : decode cX7_suburb 32 = .ok (.invokevirtual 94, 3) := by decide +kernel
theorem dX7_suburb_35 : decode cX7_suburb 35 = .ok (.aload_n 0, 1) := by decide +kernel
theorem dX7_suburb_36 : decode cX7_suburb 36 = .ok (.getfield 36, 3) := by decide +kernel
theorem dX7_suburb_39 : decode cX7_suburb 39 = .ok (.aload_n 0, 1) := by decide +kernel
theorem dX7_suburb_40 : decode cX7_suburb 40 = .ok (.getfield 10, 3) := by decide +kernel
theorem dX7_suburb_43 : decode cX7_suburb 43 = .ok (.iconst 1, 1) := by decide +kernel
theorem dX7_suburb_44 : decode cX7_suburb 44 = .ok (.invokevirtual 97, 3) := by decide +kernel
theorem dX7_suburb_47 : decode cX7_suburb 47 = .ok (.invokevirtual 101, 3) := by decide +kernel
theorem dX7_suburb_50 : decode cX7_suburb 50 = .ok (.aload_n 0, 1) := by decide +kernel
theorem dX7_suburb_51 : decode cX7_suburb 51 = .ok (.getfield 49, 3) := by decide +kernel
theorem dX7_suburb_54 : decode cX7_suburb 54 = .ok (.iconst 0, 1) := by decide +kernel
theorem dX7_suburb_55 : decode cX7_suburb 55 = .ok (.putfield 105, 3) := by decide +kernel
theorem dX7_suburb_58 : decode cX7_suburb 58 = .ok (.aload_n 0, 1) := by decide +kernel
theorem dX7_suburb_59 : decode cX7_suburb 59 = .ok (.iconst 0, 1) := by decide +kernel
theorem dX7_suburb_60 : decode cX7_suburb 60 = .ok (.putfield 106, 3) := by decide +kernel
theorem dX7_suburb_63 : decode cX7_suburb 63 = .ok (.aload_n 0, 1) := by decide +kernel
theorem dX7_suburb_64 : decode cX7_suburb 64 = .ok (.dup, 1) := by decide +kernel
theorem dX7_suburb_65 : decode cX7_suburb 65 = .ok (.getfield 110, 3) := by decide +kernel
theorem dX7_suburb_68 : decode cX7_suburb 68 = .ok (.iconst 1, 1) := by decide +kernel
theorem dX7_suburb_69 : decode cX7_suburb 69 = .ok (.iadd, 1) := by decide +kernel
theorem dX7_suburb_70 : decode cX7_suburb 70 = .ok (.putfield 110, 3) := by decide +kernel
theorem dX7_suburb_73 : decode cX7_suburb 73 = .ok (.aload_n 0, 1) := by decide +kernel
theorem dX7_suburb_74 : decode cX7_suburb 74 = .ok (.getfield 10, 3) := by decide +kernel
theorem dX7_suburb_77 : decode cX7_suburb 77 = .ok (.iconst 0, 1) := by decide +kernel
theorem dX7_suburb_78 : decode cX7_suburb 78 = .ok (.putfield 74, 3) := by decide +kernel
theorem dX7_suburb_81 : decode cX7_suburb 81 = .ok (.aload_n 0, 1) := by decide +kernel
theorem dX7_suburb_82 : decode cX7_suburb 82 = .ok (.getfield 26, 3) := by decide +kernel
theorem dX7_suburb_85 : decode cX7_suburb 85 = .ok (.getfield 113, 3) := by decide +kernel
theorem dX7_suburb_88 : decode cX7_suburb 88 = .ok (.ireturn, 1) := by decide +kernel
theorem dX7_person_0 : decode cX7_person 0 = .ok (.aload_n 0, 1) := by decide +kernel
theorem dX7_person_1 : decode cX7_person 1 = .ok (.iload_n 1, 1) := by decide +kernel
theorem dX7_person_2 : decode cX7_person 2 = .ok (.invokevirtual 114, 3) := by decide +kernel
theorem dX7_person_5 : decode cX7_person 5 = .ok (.ifCond .ne 6, 3) := by decide +kernel
theorem dX7_person_8 : decode cX7_person 8 = .ok (.bipush (-101), 2) := by decide +kernel
theorem dX7_person_10 : decode cX7_person 10 = .ok (.ireturn, 1) := by decide +kernel
theorem dX7_person_11 : decode cX7_person 11 = .ok (.iload_n 2, 1) := by decide +kernel
theorem dX7_person_12 : decode cX7_person 12 = .ok (.iconst 0, 1) := by decide +kernel
theorem dX7_person_13 : decode cX7_person 13 = .ok (.bipush 8, 2) := by decide +kernel
theorem dX7_person_15 : decode cX7_person 15 = .ok (.invokestatic 70, 3) := by decide +kernel
theorem dX7_person_18 : decode cX7_person 18 = .ok (.ifCond .ne 6, 3) := by decide +kernel
theorem dX7_person_21 : decode cX7_person 21 = .ok (.bipush (-102), 2) := by decide +kernel
theorem dX7_person_23 : decode cX7_person 23 = .ok (.ireturn, 1) := by decide +kernel
theorem dX7_person_24 : decode cX7_person 24 = .ok (.iload_n 2, 1) := by decide +kernel
theorem dX7_person_25 : decode cX7_person 25 = .ok (.tableswitch 137 0 7 #[47, 57, 67, 77, 87, 104, 114, 123], 47) := by decide +kernel
theorem dX7_person_72 : decode cX7_person 72 = .ok (.aload_n 0, 1) := by decide +kernel
theorem dX7_person_73 : decode cX7_person 73 = .ok (.getfield 26, 3) := by decide +kernel
theorem dX7_person_76 : decode cX7_person 76 = .ok (.getfield 118, 3) := by decide +kernel
theorem dX7_person_79 : decode cX7_person 79 = .ok (.iload_n 1, 1) := by decide +kernel
theorem dX7_person_80 : decode cX7_person 80 = .ok (.iaload, 1) := by decide +kernel
theorem dX7_person_81 : decode cX7_person 81 = .ok (.ireturn, 1) := by decide +kernel
theorem dX7_person_82 : decode cX7_person 82 = .ok (.aload_n 0, 1) := by decide +kernel
theorem dX7_person_83 : decode cX7_person 83 = .ok (.getfield 26, 3) := by decide +kernel
theorem dX7_person_86 : decode cX7_person 86 = .ok (.getfield 121, 3) := by decide +kernel
theorem dX7_person_89 : decode cX7_person 89 = .ok (.iload_n 1, 1) := by decide +kernel
theorem dX7_person_90 : decode cX7_person 90 = .ok (.iaload, 1) := by decide +kernel
theorem dX7_person_91 : decode cX7_person 91 = .ok (.ireturn, 1) := by decide +kernel
theorem dX7_person_92 : decode cX7_person 92 = .ok (.aload_n 0, 1) := by decide +kernel
theorem dX7_person_93 : decode cX7_person 93 = .ok (.getfield 26, 3) := by decide +kernel
theorem dX7_person_96 : decode cX7_person 96 = .ok (.getfield 124, 3) := by decide +kernel
theorem dX7_person_99 : decode cX7_person 99 = .ok (.iload_n 1, 1) := by decide +kernel
theorem dX7_person_100 : decode cX7_person 100 = .ok (.iaload, 1) := by decide +kernel
theorem dX7_person_101 : decode cX7_person 101 = .ok (.ireturn, 1) := by decide +kernel
theorem dX7_person_102 : decode cX7_person 102 = .ok (.aload_n 0, 1) := by decide +kernel
theorem dX7_person_103 : decode cX7_person 103 = .ok (.getfield 26, 3) := by decide +kernel
theorem dX7_person_106 : decode cX7_person 106 = .ok (.getfield 127, 3) := by decide +kernel
theorem dX7_person_109 : decode cX7_person 109 = .ok (.iload_n 1, 1) := by decide +kernel
theorem dX7_person_110 : decode cX7_person 110 = .ok (.iaload, 1) := by decide +kernel
theorem dX7_person_111 : decode cX7_person 111 = .ok (.ireturn, 1) := by decide +kernel
theorem dX7_person_112 : decode cX7_person 112 = .ok (.aload_n 0, 1) := by decide +kernel
theorem dX7_person_113 : decode cX7_person 113 = .ok (.getfield 36, 3) := by decide +kernel
theorem dX7_person_116 : decode cX7_person 116 = .ok (.iload_n 1, 1) := by decide +kernel
theorem dX7_person_117 : decode cX7_person 117 = .ok (.invokevirtual 130, 3) := by decide +kernel
theorem dX7_person_120 : decode cX7_person 120 = .ok (.ifCond .eq 7, 3) := by decide +kernel
theorem dX7_person_123 : decode cX7_person 123 = .ok (.iconst 1, 1) := by decide +kernel
theorem dX7_person_124 : decode cX7_person 124 = .ok (.goto 4, 3) := by decide +kernel
theorem dX7_person_127 : decode cX7_person 127 = .ok (.iconst 0, 1) := by decide +kernel
theorem dX7_person_128 : decode cX7_person 128 = .ok (.ireturn, 1) := by decide +kernel
theorem dX7_person_129 : decode cX7_person 129 = .ok (.aload_n 0, 1) := by decide +kernel
theorem dX7_person_130 : decode cX7_person 130 = .ok (.getfield 36, 3) := by decide +kernel
theorem dX7_person_133 : decode cX7_person 133 = .ok (.getfield 133, 3) := by decide +kernel
theorem dX7_person_136 : decode cX7_person 136 = .ok (.iload_n 1, 1) := by decide +kernel
theorem dX7_person_137 : decode cX7_person 137 = .ok (.iaload, 1) := by decide +kernel
theorem dX7_person_138 : decode cX7_person 138 = .ok (.ireturn, 1) := by decide +kernel
theorem dX7_person_139 : decode cX7_person 139 = .ok (.aload_n 0, 1) := by decide +kernel
theorem dX7_person_140 : decode cX7_person 140 = .ok (.getfield 26, 3) := by decide +kernel
theorem dX7_person_143 : decode cX7_person 143 = .ok (.iload_n 1, 1) := by decide +kernel
theorem dX7_person_144 : decode cX7_person 144 = .ok (.invokevirtual 136, 3) := by decide +kernel
theorem dX7_person_147 : decode cX7_person 147 = .ok (.ireturn, 1) := by decide +kernel
theorem dX7_person_148 : decode cX7_person 148 = .ok (.aload_n 0, 1) := by decide +kernel
theorem dX7_person_149 : decode cX7_person 149 = .ok (.iload_n 1, 1) := by decide +kernel
theorem dX7_person_150 : decode cX7_person 150 = .ok (.invokevirtual 139, 3) := by decide +kernel
theorem dX7_person_153 : decode cX7_person 153 = .ok (.ifCond .eq 7, 3) := by decide +kernel
theorem dX7_person_156 : decode cX7_person 156 = .ok (.iconst 1, 1) := by decide +kernel
theorem dX7_person_157 : decode cX7_person 157 = .ok (.goto 4, 3) := by decide +kernel
theorem dX7_person_160 : decode cX7_person 160 = .ok (.iconst 0, 1) := by decide +kernel
theorem dX7_person_161 : decode cX7_person 161 = .ok (.ireturn, 1) := by decide +kernel
theorem dX7_person_162 : decode cX7_person 162 = .ok (.aload_n 0, 1) := by decide +kernel
theorem dX7_person_163 : decode cX7_person 163 = .ok (.iload_n 1, 1) := by decide +kernel
theorem dX7_person_164 : decode cX7_person 164 = .ok (.invokevirtual 142, 3) := by decide +kernel
theorem dX7_person_167 : decode cX7_person 167 = .ok (.ireturn, 1) := by decide +kernel
theorem dX7_as_0 : decode cX7_as 0 = .ok (.aload_n 0, 1) := by decide +kernel
theorem dX7_as_1 : decode cX7_as 1 = .ok (.iload_n 1, 1) := by decide +kernel
theorem dX7_as_2 : decode cX7_as 2 = .ok (.invokevirtual 114, 3) := by decide +kernel
theorem dX7_as_5 : decode cX7_as 5 = .ok (.ifCond .ne 6, 3) := by decide +kernel
theorem dX7_as_8 : decode cX7_as 8 = .ok (.bipush (-101), 2) := by decide +kernel
theorem dX7_as_10 : decode cX7_as 10 = .ok (.ireturn, 1) := by decide +kernel
theorem dX7_as_11 : decode cX7_as 11 = .ok (.iload_n 2, 1) := by decide +kernel
theorem dX7_as_12 : decode cX7_as 12 = .ok (.iconst 0, 1) := by decide +kernel
theorem dX7_as_13 : decode cX7_as 13 = .ok (.iconst 4, 1) := by decide +kernel
theorem dX7_as_14 : decode cX7_as 14 = .ok (.invokestatic 70, 3) := by decide +kernel
theorem dX7_as_17 : decode cX7_as 17 = .ok (.ifCond .ne 6, 3) := by decide +kernel
theorem dX7_as_20 : decode cX7_as 20 = .ok (.bipush (-102), 2) := by decide +kernel
theorem dX7_as_22 : decode cX7_as 22 = .ok (.ireturn, 1) := by decide +kernel
theorem dX7_as_23 : decode cX7_as 23 = .ok (.aload_n 0, 1) := by decide +kernel
theorem dX7_as_24 : decode cX7_as 24 = .ok (.getfield 26, 3) := by decide +kernel
theorem dX7_as_27 : decode cX7_as 27 = .ok (.iload_n 1, 1) := by decide +kernel
theorem dX7_as_28 : decode cX7_as 28 = .ok (.iload_n 2, 1) := by decide +kernel
theorem dX7_as_29 : decode cX7_as 29 = .ok (.invokevirtual 145, 3) := by decide +kernel
theorem dX7_as_32 : decode cX7_as 32 = .ok (.ifCond .eq 7, 3) := by decide +kernel
theorem dX7_as_35 : decode cX7_as 35 = .ok (.iload_n 1, 1) := by decide +kernel
theorem dX7_as_36 : decode cX7_as 36 = .ok (.goto 4, 3) := by decide +kernel
theorem dX7_as_39 : decode cX7_as 39 = .ok (.iconst (-1), 1) := by decide +kernel
theorem dX7_as_40 : decode cX7_as 40 = .ok (.ireturn, 1) := by decide +kernel
theorem dX7_road_0 : decode cX7_road 0 = .ok (.iload_n 1, 1) := by decide +kernel
theorem dX7_road_1 : decode cX7_road 1 = .ok (.iconst 0, 1) := by decide +kernel
theorem dX7_road_2 : decode cX7_road 2 = .ok (.aload_n 0, 1) := by decide +kernel
theorem dX7_road_3 : decode cX7_road 3 = .ok (.getfield 19, 3) := by decide +kernel
theorem dX7_road_6 : decode cX7_road 6 = .ok (.getfield 149, 3) := by decide +kernel
theorem dX7_road_9 : decode cX7_road 9 = .ok (.iconst 1, 1) := by decide +kernel
theorem dX7_road_10 : decode cX7_road 10 = .ok (.isub, 1) := by decide +kernel
theorem dX7_road_11 : decode cX7_road 11 = .ok (.invokestatic 70, 3) := by decide +kernel
theorem dX7_road_14 : decode cX7_road 14 = .ok (.ifCond .ne 6, 3) := by decide +kernel
theorem dX7_road_17 : decode cX7_road 17 = .ok (.bipush (-101), 2) := by decide +kernel
theorem dX7_road_19 : decode cX7_road 19 = .ok (.ireturn, 1) := by decide +kernel
theorem dX7_road_20 : decode cX7_road 20 = .ok (.iload_n 2, 1) := by decide +kernel
theorem dX7_road_21 : decode cX7_road 21 = .ok (.iconst 0, 1) := by decide +kernel
theorem dX7_road_22 : decode cX7_road 22 = .ok (.iconst 1, 1) := by decide +kernel
theorem dX7_road_23 : decode cX7_road 23 = .ok (.invokestatic 70, 3) := by decide +kernel
theorem dX7_road_26 : decode cX7_road 26 = .ok (.ifCond .ne 6, 3) := by decide +kernel
theorem dX7_road_29 : decode cX7_road 29 = .ok (.bipush (-102), 2) := by decide +kernel
theorem dX7_road_31 : decode cX7_road 31 = .ok (.ireturn, 1) := by decide +kernel
theorem dX7_road_32 : decode cX7_road 32 = .ok (.iload_n 2, 1) := by decide +kernel
theorem dX7_road_33 : decode cX7_road 33 = .ok (.ifCond .ne 15, 3) := by decide +kernel
theorem dX7_road_36 : decode cX7_road 36 = .ok (.aload_n 0, 1) := by decide +kernel
theorem dX7_road_37 : decode cX7_road 37 = .ok (.getfield 19, 3) := by decide +kernel
theorem dX7_road_40 : decode cX7_road 40 = .ok (.getfield 152, 3) := by decide +kernel
theorem dX7_road_43 : decode cX7_road 43 = .ok (.iload_n 1, 1) := by decide +kernel
theorem dX7_road_44 : decode cX7_road 44 = .ok (.iaload, 1) := by decide +kernel
theorem dX7_road_45 : decode cX7_road 45 = .ok (.goto 12, 3) := by decide +kernel
theorem dX7_road_48 : decode cX7_road 48 = .ok (.aload_n 0, 1) := by decide +kernel
theorem dX7_road_49 : decode cX7_road 49 = .ok (.getfield 19, 3) := by decide +kernel
theorem dX7_road_52 : decode cX7_road 52 = .ok (.getfield 155, 3) := by decide +kernel
theorem dX7_road_55 : decode cX7_road 55 = .ok (.iload_n 1, 1) := by decide +kernel
theorem dX7_road_56 : decode cX7_road 56 = .ok (.iaload, 1) := by decide +kernel
theorem dX7_road_57 : decode cX7_road 57 = .ok (.ireturn, 1) := by decide +kernel
theorem dX7_corner_0 : decode cX7_corner 0 = .ok (.aload_n 0, 1) := by decide +kernel
theorem dX7_corner_1 : decode cX7_corner 1 = .ok (.iload_n 1, 1) := by decide +kernel
theorem dX7_corner_2 : decode cX7_corner 2 = .ok (.invokevirtual 158, 3) := by decide +kernel
theorem dX7_corner_5 : decode cX7_corner 5 = .ok (.ifCond .ne 6, 3) := by decide +kernel
theorem dX7_corner_8 : decode cX7_corner 8 = .ok (.bipush (-101), 2) := by decide +kernel
theorem dX7_corner_10 : decode cX7_corner 10 = .ok (.ireturn, 1) := by decide +kernel
theorem dX7_corner_11 : decode cX7_corner 11 = .ok (.iload_n 2, 1) := by decide +kernel
theorem dX7_corner_12 : decode cX7_corner 12 = .ok (.iconst 0, 1) := by decide +kernel
theorem dX7_corner_13 : decode cX7_corner 13 = .ok (.iconst 3, 1) := by decide +kernel
theorem dX7_corner_14 : decode cX7_corner 14 = .ok (.invokestatic 70, 3) := by decide +kernel
theorem dX7_corner_17 : decode cX7_corner 17 = .ok (.ifCond .ne 6, 3) := by decide +kernel
theorem dX7_corner_20 : decode cX7_corner 20 = .ok (.bipush (-102), 2) := by decide +kernel
theorem dX7_corner_22 : decode cX7_corner 22 = .ok (.ireturn, 1) := by decide +kernel
theorem dX7_corner_23 : decode cX7_corner 23 = .ok (.iload_n 2, 1) := by decide +kernel
theorem dX7_corner_24 : decode cX7_corner 24 = .ok (.tableswitch 71 0 2 #[28, 44, 53], 28) := by decide +kernel
theorem dX7_corner_52 : decode cX7_corner 52 = .ok (.aload_n 0, 1) := by decide +kernel
theorem dX7_corner_53 : decode cX7_corner 53 = .ok (.getfield 19, 3) := by decide +kernel
theorem dX7_corner_56 : decode cX7_corner 56 = .ok (.getfield 161, 3) := by decide +kernel
theorem dX7_corner_59 : decode cX7_corner 59 = .ok (.iload_n 1, 1) := by decide +kernel
theorem dX7_corner_60 : decode cX7_corner 60 = .ok (.iaload, 1) := by decide +kernel
theorem dX7_corner_61 : decode cX7_corner 61 = .ok (.iconst 1, 1) := by decide +kernel
theorem dX7_corner_62 : decode cX7_corner 62 = .ok (.iload_n 1, 1) := by decide +kernel
theorem dX7_corner_63 : decode cX7_corner 63 = .ok (.ishl, 1) := by decide +kernel
theorem dX7_corner_64 : decode cX7_corner 64 = .ok (.iconst (-1), 1) := by decide +kernel
theorem dX7_corner_65 : decode cX7_corner 65 = .ok (.ixor, 1) := by decide +kernel
theorem dX7_corner_66 : decode cX7_corner 66 = .ok (.iand, 1) := by decide +kernel
theorem dX7_corner_67 : decode cX7_corner 67 = .ok (.ireturn, 1) := by decide +kernel
theorem dX7_corner_68 : decode cX7_corner 68 = .ok (.aload_n 0, 1) := by decide +kernel
theorem dX7_corner_69 : decode cX7_corner 69 = .ok (.getfield 26, 3) := by decide +kernel
theorem dX7_corner_72 : decode cX7_corner 72 = .ok (.iload_n 1, 1) := by decide +kernel
theorem dX7_corner_73 : decode cX7_corner 73 = .ok (.invokevirtual 164, 3) := by decide +kernel
theorem dX7_corner_76 : decode cX7_corner 76 = .ok (.ireturn, 1) := by decide +kernel
theorem dX7_corner_77 : decode cX7_corner 77 = .ok (.aload_n 0, 1) := by decide +kernel
theorem dX7_corner_78 : decode cX7_corner 78 = .ok (.getfield 19, 3) := by decide +kernel
theorem dX7_corner_81 : decode cX7_corner 81 = .ok (.getfield 167, 3) := by decide +kernel
theorem dX7_corner_84 : decode cX7_corner 84 = .ok (.iload_n 1, 1) := by decide +kernel
theorem dX7_corner_85 : decode cX7_corner 85 = .ok (.aaload, 1) := by decide +kernel
theorem dX7_corner_86 : decode cX7_corner 86 = .ok (.aload_n 0, 1) := by decide +kernel
theorem dX7_corner_87 : decode cX7_corner 87 = .ok (.getfield 36, 3) := by decide +kernel
theorem dX7_corner_90 : decode cX7_corner 90 = .ok (.getfield 171, 3) := by decide +kernel
theorem dX7_corner_93 : decode cX7_corner 93 = .ok (.iaload, 1) := by decide +kernel
theorem dX7_corner_94 : decode cX7_corner 94 = .ok (.ireturn, 1) := by decide +kernel
theorem dX7_corner_95 : decode cX7_corner 95 = .ok (.aload_n 0, 1) := by decide +kernel
theorem dX7_corner_96 : decode cX7_corner 96 = .ok (.getfield 19, 3) := by decide +kernel
theorem dX7_corner_99 : decode cX7_corner 99 = .ok (.getfield 174, 3) := by decide +kernel
theorem dX7_corner_102 : decode cX7_corner 102 = .ok (.aload_n 0, 1) := by decide +kernel
theorem dX7_corner_103 : decode cX7_corner 103 = .ok (.getfield 36, 3) := by decide +kernel
theorem dX7_corner_106 : decode cX7_corner 106 = .ok (.getfield 171, 3) := by decide +kernel
theorem dX7_corner_109 : decode cX7_corner 109 = .ok (.aaload, 1) := by decide +kernel
theorem dX7_corner_110 : decode cX7_corner 110 = .ok (.iload_n 1, 1) := by decide +kernel
theorem dX7_corner_111 : decode cX7_corner 111 = .ok (.iaload, 1) := by decide +kernel
theorem dX7_corner_112 : decode cX7_corner 112 = .ok (.ireturn, 1) := by decide +kernel
theorem dX7_far_0 : decode cX7_far 0 = .ok (.aload_n 0, 1) := by decide +kernel
theorem dX7_far_1 : decode cX7_far 1 = .ok (.iload_n 1, 1) := by decide +kernel
theorem dX7_far_2 : decode cX7_far 2 = .ok (.invokevirtual 158, 3) := by decide +kernel
theorem dX7_far_5 : decode cX7_far 5 = .ok (.ifCond .eq 11, 3) := by decide +kernel
theorem dX7_far_8 : decode cX7_far 8 = .ok (.aload_n 0, 1) := by decide +kernel
theorem dX7_far_9 : decode cX7_far 9 = .ok (.iload_n 2, 1) := by decide +kernel
theorem dX7_far_10 : decode cX7_far 10 = .ok (.invokevirtual 158, 3) := by decide +kernel
theorem dX7_far_13 : decode cX7_far 13 = .ok (.ifCond .ne 6, 3) := by decide +kernel
theorem dX7_far_16 : decode cX7_far 16 = .ok (.bipush (-101), 2) := by decide +kernel
theorem dX7_far_18 : decode cX7_far 18 = .ok (.ireturn, 1) := by decide +kernel
theorem dX7_far_19 : decode cX7_far 19 = .ok (.aload_n 0, 1) := by decide +kernel
theorem dX7_far_20 : decode cX7_far 20 = .ok (.getfield 19, 3) := by decide +kernel
theorem dX7_far_23 : decode cX7_far 23 = .ok (.getfield 167, 3) := by decide +kernel
theorem dX7_far_26 : decode cX7_far 26 = .ok (.iload_n 1, 1) := by decide +kernel
theorem dX7_far_27 : decode cX7_far 27 = .ok (.aaload, 1) := by decide +kernel
theorem dX7_far_28 : decode cX7_far 28 = .ok (.iload_n 2, 1) := by decide +kernel
theorem dX7_far_29 : decode cX7_far 29 = .ok (.iaload, 1) := by decide +kernel
theorem dX7_far_30 : decode cX7_far 30 = .ok (.ireturn, 1) := by decide +kernel
theorem dX7_go_0 : decode cX7_go 0 = .ok (.aload_n 0, 1) := by decide +kernel
theorem dX7_go_1 : decode cX7_go 1 = .ok (.iload_n 1, 1) := by decide +kernel
theorem dX7_go_2 : decode cX7_go 2 = .ok (.invokevirtual 158, 3) := by decide +kernel
theorem dX7_go_5 : decode cX7_go 5 = .ok (.ifCond .ne 6, 3) := by decide +kernel
theorem dX7_go_8 : decode cX7_go 8 = .ok (.bipush (-101), 2) := by decide +kernel
theorem dX7_go_10 : decode cX7_go 10 = .ok (.ireturn, 1) := by decide +kernel
theorem dX7_go_11 : decode cX7_go 11 = .ok (.aload_n 0, 1) := by decide +kernel
theorem dX7_go_12 : decode cX7_go 12 = .ok (.getfield 19, 3) := by decide +kernel
theorem dX7_go_15 : decode cX7_go 15 = .ok (.getfield 161, 3) := by decide +kernel
theorem dX7_go_18 : decode cX7_go 18 = .ok (.aload_n 0, 1) := by decide +kernel
theorem dX7_go_19 : decode cX7_go 19 = .ok (.getfield 36, 3) := by decide +kernel
theorem dX7_go_22 : decode cX7_go 22 = .ok (.getfield 171, 3) := by decide +kernel
theorem dX7_go_25 : decode cX7_go 25 = .ok (.iaload, 1) := by decide +kernel
theorem dX7_go_26 : decode cX7_go 26 = .ok (.iload_n 1, 1) := by decide +kernel
theorem dX7_go_27 : decode cX7_go 27 = .ok (.invokestatic 177, 3) := by decide +kernel
theorem dX7_go_30 : decode cX7_go 30 = .ok (.ifCond .ne 6, 3) := by decide +kernel
theorem dX7_go_33 : decode cX7_go 33 = .ok (.bipush (-103), 2) := by decide +kernel
theorem dX7_go_35 : decode cX7_go 35 = .ok (.ireturn, 1) := by decide +kernel
theorem dX7_go_36 : decode cX7_go 36 = .ok (.aload_n 0, 1) := by decide +kernel
theorem dX7_go_37 : decode cX7_go 37 = .ok (.getfield 36, 3) := by decide +kernel
theorem dX7_go_40 : decode cX7_go 40 = .ok (.getfield 180, 3) := by decide +kernel
theorem dX7_go_43 : decode cX7_go 43 = .ok (.iconst 1, 1) := by decide +kernel
theorem dX7_go_44 : decode cX7_go 44 = .ok (.iadd, 1) := by decide +kernel
theorem dX7_go_45 : decode cX7_go 45 = .ok (.sipush 1000, 3) := by decide +kernel
theorem dX7_go_48 : decode cX7_go 48 = .ok (.if_icmp .lt 6, 3) := by decide +kernel
theorem dX7_go_51 : decode cX7_go 51 = .ok (.bipush (-104), 2) := by decide +kernel
theorem dX7_go_53 : decode cX7_go 53 = .ok (.ireturn, 1) := by decide +kernel
theorem dX7_go_54 : decode cX7_go 54 = .ok (.aload_n 0, 1) := by decide +kernel
theorem dX7_go_55 : decode cX7_go 55 = .ok (.getfield 36, 3) := by decide +kernel
theorem dX7_go_58 : decode cX7_go 58 = .ok (.iload_n 1, 1) := by decide +kernel
theorem dX7_go_59 : decode cX7_go 59 = .ok (.aload_n 0, 1) := by decide +kernel
theorem dX7_go_60 : decode cX7_go 60 = .ok (.getfield 26, 3) := by decide +kernel
theorem dX7_go_63 : decode cX7_go 63 = .ok (.invokevirtual 183, 3) := by decide +kernel
theorem dX7_go_66 : decode cX7_go 66 = .ok (.ireturn, 1) := by decide +kernel
theorem dX7_stand_0 : decode cX7_stand 0 = .ok (.aload_n 0, 1) := by decide +kernel
theorem dX7_stand_1 : decode cX7_stand 1 = .ok (.iload_n 1, 1) := by decide +kernel
theorem dX7_stand_2 : decode cX7_stand 2 = .ok (.invokevirtual 158, 3) := by decide +kernel
theorem dX7_stand_5 : decode cX7_stand 5 = .ok (.ifCond .ne 6, 3) := by decide +kernel
theorem dX7_stand_8 : decode cX7_stand 8 = .ok (.bipush (-101), 2) := by decide +kernel
theorem dX7_stand_10 : decode cX7_stand 10 = .ok (.ireturn, 1) := by decide +kernel
theorem dX7_stand_11 : decode cX7_stand 11 = .ok (.aload_n 0, 1) := by decide +kernel
theorem dX7_stand_12 : decode cX7_stand 12 = .ok (.getfield 36, 3) := by decide +kernel
theorem dX7_stand_15 : decode cX7_stand 15 = .ok (.getfield 171, 3) := by decide +kernel
theorem dX7_stand_18 : decode cX7_stand 18 = .ok (.istore_n 2, 1) := by decide +kernel
theorem dX7_stand_19 : decode cX7_stand 19 = .ok (.aload_n 0, 1) := by decide +kernel
theorem dX7_stand_20 : decode cX7_stand 20 = .ok (.getfield 36, 3) := by decide +kernel
theorem dX7_stand_23 : decode cX7_stand 23 = .ok (.iload_n 1, 1) := by decide +kernel
theorem dX7_stand_24 : decode cX7_stand 24 = .ok (.putfield 171, 3) := by decide +kernel
theorem dX7_stand_27 : decode cX7_stand 27 = .ok (.iload_n 2, 1) := by decide +kernel
theorem dX7_stand_28 : decode cX7_stand 28 = .ok (.ireturn, 1) := by decide +kernel
theorem dX7_call_0 : decode cX7_call 0 = .ok (.aload_n 0, 1) := by decide +kernel
theorem dX7_call_1 : decode cX7_call 1 = .ok (.iload_n 1, 1) := by decide +kernel
theorem dX7_call_2 : decode cX7_call 2 = .ok (.invokevirtual 114, 3) := by decide +kernel
theorem dX7_call_5 : decode cX7_call 5 = .ok (.ifCond .ne 6, 3) := by decide +kernel
theorem dX7_call_8 : decode cX7_call 8 = .ok (.bipush (-101), 2) := by decide +kernel
theorem dX7_call_10 : decode cX7_call 10 = .ok (.ireturn, 1) := by decide +kernel
theorem dX7_call_11 : decode cX7_call 11 = .ok (.iload_n 2, 1) := by decide +kernel
theorem dX7_call_12 : decode cX7_call 12 = .ok (.iconst 0, 1) := by decide +kernel
theorem dX7_call_13 : decode cX7_call 13 = .ok (.iconst 4, 1) := by decide +kernel
theorem dX7_call_14 : decode cX7_call 14 = .ok (.invokestatic 70, 3) := by decide +kernel
theorem dX7_call_17 : decode cX7_call 17 = .ok (.ifCond .eq 24, 3) := by decide +kernel
theorem dX7_call_20 : decode cX7_call 20 = .ok (.iload_n 3, 1) := by decide +kernel
theorem dX7_call_21 : decode cX7_call 21 = .ok (.iconst 0, 1) := by decide +kernel
theorem dX7_call_22 : decode cX7_call 22 = .ok (.bipush 9, 2) := by decide +kernel
theorem dX7_call_24 : decode cX7_call 24 = .ok (.invokestatic 70, 3) := by decide +kernel
theorem dX7_call_27 : decode cX7_call 27 = .ok (.ifCond .eq 14, 3) := by decide +kernel
theorem dX7_call_30 : decode cX7_call 30 = .ok (.iload 4, 2) := by decide +kernel
theorem dX7_call_32 : decode cX7_call 32 = .ok (.iconst 0, 1) := by decide +kernel
theorem dX7_call_33 : decode cX7_call 33 = .ok (.bipush 9, 2) := by decide +kernel
theorem dX7_call_35 : decode cX7_call 35 = .ok (.invokestatic 70, 3) := by decide +kernel
theorem dX7_call_38 : decode cX7_call 38 = .ok (.ifCond .ne 6, 3) := by decide +kernel
theorem dX7_call_41 : decode cX7_call 41 = .ok (.bipush (-102), 2) := by decide +kernel
theorem dX7_call_43 : decode cX7_call 43 = .ok (.ireturn, 1) := by decide +kernel
theorem dX7_call_44 : decode cX7_call 44 = .ok (.aload_n 0, 1) := by decide +kernel
theorem dX7_call_45 : decode cX7_call 45 = .ok (.getfield 26, 3) := by decide +kernel
theorem dX7_call_48 : decode cX7_call 48 = .ok (.getfield 118, 3) := by decide +kernel
theorem dX7_call_51 : decode cX7_call 51 = .ok (.iload_n 1, 1) := by decide +kernel
theorem dX7_call_52 : decode cX7_call 52 = .ok (.iaload, 1) := by decide +kernel
theorem dX7_call_53 : decode cX7_call 53 = .ok (.istore 5, 2) := by decide +kernel
theorem dX7_call_55 : decode cX7_call 55 = .ok (.aload_n 0, 1) := by decide +kernel
theorem dX7_call_56 : decode cX7_call 56 = .ok (.getfield 26, 3) := by decide +kernel
theorem dX7_call_59 : decode cX7_call 59 = .ok (.getfield 118, 3) := by decide +kernel
theorem dX7_call_62 : decode cX7_call 62 = .ok (.iload_n 1, 1) := by decide +kernel
theorem dX7_call_63 : decode cX7_call 63 = .ok (.iload_n 2, 1) := by decide +kernel
theorem dX7_call_64 : decode cX7_call 64 = .ok (.iastore, 1) := by decide +kernel
theorem dX7_call_65 : decode cX7_call 65 = .ok (.aload_n 0, 1) := by decide +kernel
theorem dX7_call_66 : decode cX7_call 66 = .ok (.getfield 26, 3) := by decide +kernel
theorem dX7_call_69 : decode cX7_call 69 = .ok (.getfield 124, 3) := by decide +kernel
theorem dX7_call_72 : decode cX7_call 72 = .ok (.iload_n 1, 1) := by decide +kernel
theorem dX7_call_73 : decode cX7_call 73 = .ok (.iload_n 3, 1) := by decide +kernel
theorem dX7_call_74 : decode cX7_call 74 = .ok (.iastore, 1) := by decide +kernel
theorem dX7_call_75 : decode cX7_call 75 = .ok (.aload_n 0, 1) := by decide +kernel
theorem dX7_call_76 : decode cX7_call 76 = .ok (.getfield 26, 3) := by decide +kernel
theorem dX7_call_79 : decode cX7_call 79 = .ok (.getfield 127, 3) := by decide +kernel
theorem dX7_call_82 : decode cX7_call 82 = .ok (.iload_n 1, 1) := by decide +kernel
theorem dX7_call_83 : decode cX7_call 83 = .ok (.iload 4, 2) := by decide +kernel
theorem dX7_call_85 : decode cX7_call 85 = .ok (.iastore, 1) := by decide +kernel
theorem dX7_call_86 : decode cX7_call 86 = .ok (.aload_n 0, 1) := by decide +kernel
theorem dX7_call_87 : decode cX7_call 87 = .ok (.getfield 36, 3) := by decide +kernel
theorem dX7_call_90 : decode cX7_call 90 = .ok (.iload_n 1, 1) := by decide +kernel
theorem dX7_call_91 : decode cX7_call 91 = .ok (.invokevirtual 187, 3) := by decide +kernel
theorem dX7_call_94 : decode cX7_call 94 = .ok (.iload 5, 2) := by decide +kernel
theorem dX7_call_96 : decode cX7_call 96 = .ok (.ireturn, 1) := by decide +kernel
theorem dX7_round_0 : decode cX7_round 0 = .ok (.iload_n 2, 1) := by decide +kernel
theorem dX7_round_1 : decode cX7_round 1 = .ok (.bipush 10, 2) := by decide +kernel
theorem dX7_round_3 : decode cX7_round 3 = .ok (.bipush 14, 2) := by decide +kernel
theorem dX7_round_5 : decode cX7_round 5 = .ok (.invokestatic 70, 3) := by decide +kernel
theorem dX7_round_8 : decode cX7_round 8 = .ok (.istore_n 3, 1) := by decide +kernel
theorem dX7_round_9 : decode cX7_round 9 = .ok (.iload_n 1, 1) := by decide +kernel
theorem dX7_round_10 : decode cX7_round 10 = .ok (.iconst 1, 1) := by decide +kernel
theorem dX7_round_11 : decode cX7_round 11 = .ok (.iconst 5, 1) := by decide +kernel
theorem dX7_round_12 : decode cX7_round 12 = .ok (.invokestatic 70, 3) := by decide +kernel
theorem dX7_round_15 : decode cX7_round 15 = .ok (.ifCond .eq 16, 3) := by decide +kernel
theorem dX7_round_18 : decode cX7_round 18 = .ok (.iload_n 2, 1) := by decide +kernel
theorem dX7_round_19 : decode cX7_round 19 = .ok (.iconst 0, 1) := by decide +kernel
theorem dX7_round_20 : decode cX7_round 20 = .ok (.iconst 1, 1) := by decide +kernel
theorem dX7_round_21 : decode cX7_round 21 = .ok (.invokestatic 70, 3) := by decide +kernel
theorem dX7_round_24 : decode cX7_round 24 = .ok (.ifCond .ne 10, 3) := by decide +kernel
theorem dX7_round_27 : decode cX7_round 27 = .ok (.iload_n 3, 1) := by decide +kernel
theorem dX7_round_28 : decode cX7_round 28 = .ok (.ifCond .ne 6, 3) := by decide +kernel
theorem dX7_round_31 : decode cX7_round 31 = .ok (.bipush (-102), 2) := by decide +kernel
theorem dX7_round_33 : decode cX7_round 33 = .ok (.ireturn, 1) := by decide +kernel
theorem dX7_round_34 : decode cX7_round 34 = .ok (.aload_n 0, 1) := by decide +kernel
theorem dX7_round_35 : decode cX7_round 35 = .ok (.invokevirtual 190, 3) := by decide +kernel
theorem dX7_round_38 : decode cX7_round 38 = .ok (.ifCond .eq 12, 3) := by decide +kernel
theorem dX7_round_41 : decode cX7_round 41 = .ok (.aload_n 0, 1) := by decide +kernel
theorem dX7_round_42 : decode cX7_round 42 = .ok (.getfield 193, 3) := by decide +kernel
theorem dX7_round_45 : decode cX7_round 45 = .ok (.bipush 20, 2) := by decide +kernel
theorem dX7_round_47 : decode cX7_round 47 = .ok (.if_icmp .lt 6, 3) := by decide +kernel
theorem dX7_round_50 : decode cX7_round 50 = .ok (.bipush (-103), 2) := by decide +kernel
theorem dX7_round_52 : decode cX7_round 52 = .ok (.ireturn, 1) := by decide +kernel
theorem dX7_round_53 : decode cX7_round 53 = .ok (.aload_n 0, 1) := by decide +kernel
theorem dX7_round_54 : decode cX7_round 54 = .ok (.dup, 1) := by decide +kernel
theorem dX7_round_55 : decode cX7_round 55 = .ok (.getfield 193, 3) := by decide +kernel
theorem dX7_round_58 : decode cX7_round 58 = .ok (.iconst 1, 1) := by decide +kernel
theorem dX7_round_59 : decode cX7_round 59 = .ok (.iadd, 1) := by decide +kernel
theorem dX7_round_60 : decode cX7_round 60 = .ok (.putfield 193, 3) := by decide +kernel
theorem dX7_round_63 : decode cX7_round 63 = .ok (.aload_n 0, 1) := by decide +kernel
theorem dX7_round_64 : decode cX7_round 64 = .ok (.getfield 59, 3) := by decide +kernel
theorem dX7_round_67 : decode cX7_round 67 = .ok (.aload_n 0, 1) := by decide +kernel
theorem dX7_round_68 : decode cX7_round 68 = .ok (.getfield 19, 3) := by decide +kernel
theorem dX7_round_71 : decode cX7_round 71 = .ok (.aload_n 0, 1) := by decide +kernel
theorem dX7_round_72 : decode cX7_round 72 = .ok (.getfield 26, 3) := by decide +kernel
theorem dX7_round_75 : decode cX7_round 75 = .ok (.aload_n 0, 1) := by decide +kernel
theorem dX7_round_76 : decode cX7_round 76 = .ok (.getfield 36, 3) := by decide +kernel
theorem dX7_round_79 : decode cX7_round 79 = .ok (.iload_n 1, 1) := by decide +kernel
theorem dX7_round_80 : decode cX7_round 80 = .ok (.invokevirtual 196, 3) := by decide +kernel
theorem dX7_round_83 : decode cX7_round 83 = .ok (.iload_n 3, 1) := by decide +kernel
theorem dX7_round_84 : decode cX7_round 84 = .ok (.ifCond .eq 30, 3) := by decide +kernel
theorem dX7_round_87 : decode cX7_round 87 = .ok (.iload_n 2, 1) := by decide +kernel
theorem dX7_round_88 : decode cX7_round 88 = .ok (.bipush 10, 2) := by decide +kernel
theorem dX7_round_90 : decode cX7_round 90 = .ok (.isub, 1) := by decide +kernel
theorem dX7_round_91 : decode cX7_round 91 = .ok (.istore 4, 2) := by decide +kernel
theorem dX7_round_93 : decode cX7_round 93 = .ok (.iload 4, 2) := by decide +kernel
theorem dX7_round_95 : decode cX7_round 95 = .ok (.iload_n 1, 1) := by decide +kernel
theorem dX7_round_96 : decode cX7_round 96 = .ok (.if_icmp .ge 16, 3) := by decide +kernel
theorem dX7_round_99 : decode cX7_round 99 = .ok (.aload_n 0, 1) := by decide +kernel
theorem dX7_round_100 : decode cX7_round 100 = .ok (.getfield 59, 3) := by decide +kernel
theorem dX7_round_103 : decode cX7_round 103 = .ok (.getfield 200, 3) := by decide +kernel
theorem dX7_round_106 : decode cX7_round 106 = .ok (.iload 4, 2) := by decide +kernel
theorem dX7_round_108 : decode cX7_round 108 = .ok (.iaload, 1) := by decide +kernel
theorem dX7_round_109 : decode cX7_round 109 = .ok (.goto 4, 3) := by decide +kernel
theorem dX7_round_112 : decode cX7_round 112 = .ok (.iconst (-1), 1) := by decide +kernel
theorem dX7_round_113 : decode cX7_round 113 = .ok (.ireturn, 1) := by decide +kernel
theorem dX7_round_114 : decode cX7_round 114 = .ok (.iload_n 2, 1) := by decide +kernel
theorem dX7_round_115 : decode cX7_round 115 = .ok (.ifCond .ne 13, 3) := by decide +kernel
theorem dX7_round_118 : decode cX7_round 118 = .ok (.aload_n 0, 1) := by decide +kernel
theorem dX7_round_119 : decode cX7_round 119 = .ok (.getfield 59, 3) := by decide +kernel
theorem dX7_round_122 : decode cX7_round 122 = .ok (.getfield 203, 3) := by decide +kernel
theorem dX7_round_125 : decode cX7_round 125 = .ok (.goto 10, 3) := by decide +kernel
theorem dX7_round_128 : decode cX7_round 128 = .ok (.aload_n 0, 1) := by decide +kernel
theorem dX7_round_129 : decode cX7_round 129 = .ok (.getfield 59, 3) := by decide +kernel
theorem dX7_round_132 : decode cX7_round 132 = .ok (.getfield 206, 3) := by decide +kernel
theorem dX7_round_135 : decode cX7_round 135 = .ok (.ireturn, 1) := by decide +kernel
theorem dX7_odds_0 : decode cX7_odds 0 = .ok (.aload_n 0, 1) := by decide +kernel
theorem dX7_odds_1 : decode cX7_odds 1 = .ok (.iload_n 1, 1) := by decide +kernel
theorem dX7_odds_2 : decode cX7_odds 2 = .ok (.invokevirtual 114, 3) := by decide +kernel
theorem dX7_odds_5 : decode cX7_odds 5 = .ok (.ifCond .ne 6, 3) := by decide +kernel
theorem dX7_odds_8 : decode cX7_odds 8 = .ok (.bipush (-101), 2) := by decide +kernel
theorem dX7_odds_10 : decode cX7_odds 10 = .ok (.ireturn, 1) := by decide +kernel
theorem dX7_odds_11 : decode cX7_odds 11 = .ok (.iload_n 2, 1) := by decide +kernel
theorem dX7_odds_12 : decode cX7_odds 12 = .ok (.iconst 1, 1) := by decide +kernel
theorem dX7_odds_13 : decode cX7_odds 13 = .ok (.iconst 4, 1) := by decide +kernel
theorem dX7_odds_14 : decode cX7_odds 14 = .ok (.invokestatic 70, 3) := by decide +kernel
theorem dX7_odds_17 : decode cX7_odds 17 = .ok (.ifCond .eq 12, 3) := by decide +kernel
theorem dX7_odds_20 : decode cX7_odds 20 = .ok (.iload_n 3, 1) := by decide +kernel
theorem dX7_odds_21 : decode cX7_odds 21 = .ok (.iconst 0, 1) := by decide +kernel
theorem dX7_odds_22 : decode cX7_odds 22 = .ok (.iconst 1, 1) := by decide +kernel
theorem dX7_odds_23 : decode cX7_odds 23 = .ok (.invokestatic 70, 3) := by decide +kernel
theorem dX7_odds_26 : decode cX7_odds 26 = .ok (.ifCond .ne 6, 3) := by decide +kernel
theorem dX7_odds_29 : decode cX7_odds 29 = .ok (.bipush (-102), 2) := by decide +kernel
theorem dX7_odds_31 : decode cX7_odds 31 = .ok (.ireturn, 1) := by decide +kernel
theorem dX7_odds_32 : decode cX7_odds 32 = .ok (.aload_n 0, 1) := by decide +kernel
theorem dX7_odds_33 : decode cX7_odds 33 = .ok (.getfield 66, 3) := by decide +kernel
theorem dX7_odds_36 : decode cX7_odds 36 = .ok (.aload_n 0, 1) := by decide +kernel
theorem dX7_odds_37 : decode cX7_odds 37 = .ok (.getfield 19, 3) := by decide +kernel
theorem dX7_odds_40 : decode cX7_odds 40 = .ok (.aload_n 0, 1) := by decide +kernel
theorem dX7_odds_41 : decode cX7_odds 41 = .ok (.getfield 36, 3) := by decide +kernel
theorem dX7_odds_44 : decode cX7_odds 44 = .ok (.getfield 171, 3) := by decide +kernel
theorem dX7_odds_47 : decode cX7_odds 47 = .ok (.iload_n 2, 1) := by decide +kernel
theorem dX7_odds_48 : decode cX7_odds 48 = .ok (.invokevirtual 209, 3) := by decide +kernel
theorem dX7_odds_51 : decode cX7_odds 51 = .ok (.iload_n 3, 1) := by decide +kernel
theorem dX7_odds_52 : decode cX7_odds 52 = .ok (.ifCond .ne 22, 3) := by decide +kernel
theorem dX7_odds_55 : decode cX7_odds 55 = .ok (.aload_n 0, 1) := by decide +kernel
theorem dX7_odds_56 : decode cX7_odds 56 = .ok (.getfield 66, 3) := by decide +kernel
theorem dX7_odds_59 : decode cX7_odds 59 = .ok (.aload_n 0, 1) := by decide +kernel
theorem dX7_odds_60 : decode cX7_odds 60 = .ok (.getfield 26, 3) := by decide +kernel
theorem dX7_odds_63 : decode cX7_odds 63 = .ok (.getfield 121, 3) := by decide +kernel
theorem dX7_odds_66 : decode cX7_odds 66 = .ok (.iload_n 1, 1) := by decide +kernel
theorem dX7_odds_67 : decode cX7_odds 67 = .ok (.iaload, 1) := by decide +kernel
theorem dX7_odds_68 : decode cX7_odds 68 = .ok (.invokevirtual 212, 3) := by decide +kernel
theorem dX7_odds_71 : decode cX7_odds 71 = .ok (.goto 19, 3) := by decide +kernel
theorem dX7_odds_74 : decode cX7_odds 74 = .ok (.aload_n 0, 1) := by decide +kernel
theorem dX7_odds_75 : decode cX7_odds 75 = .ok (.getfield 66, 3) := by decide +kernel
theorem dX7_odds_78 : decode cX7_odds 78 = .ok (.aload_n 0, 1) := by decide +kernel
theorem dX7_odds_79 : decode cX7_odds 79 = .ok (.getfield 26, 3) := by decide +kernel
theorem dX7_odds_82 : decode cX7_odds 82 = .ok (.getfield 121, 3) := by decide +kernel
theorem dX7_odds_85 : decode cX7_odds 85 = .ok (.iload_n 1, 1) := by decide +kernel
theorem dX7_odds_86 : decode cX7_odds 86 = .ok (.iaload, 1) := by decide +kernel
theorem dX7_odds_87 : decode cX7_odds 87 = .ok (.invokevirtual 215, 3) := by decide +kernel
theorem dX7_odds_90 : decode cX7_odds 90 = .ok (.ireturn, 1) := by decide +kernel
theorem dX7_see_0 : decode cX7_see 0 = .ok (.aload_n 0, 1) := by decide +kernel
theorem dX7_see_1 : decode cX7_see 1 = .ok (.iload_n 1, 1) := by decide +kernel
theorem dX7_see_2 : decode cX7_see 2 = .ok (.invokevirtual 114, 3) := by decide +kernel
theorem dX7_see_5 : decode cX7_see 5 = .ok (.ifCond .ne 6, 3) := by decide +kernel
theorem dX7_see_8 : decode cX7_see 8 = .ok (.bipush (-101), 2) := by decide +kernel
theorem dX7_see_10 : decode cX7_see 10 = .ok (.ireturn, 1) := by decide +kernel
theorem dX7_see_11 : decode cX7_see 11 = .ok (.aload_n 0, 1) := by decide +kernel
theorem dX7_see_12 : decode cX7_see 12 = .ok (.getfield 49, 3) := by decide +kernel
theorem dX7_see_15 : decode cX7_see 15 = .ok (.getfield 105, 3) := by decide +kernel
theorem dX7_see_18 : decode cX7_see 18 = .ok (.bipush 6, 2) := by decide +kernel
theorem dX7_see_20 : decode cX7_see 20 = .ok (.if_icmp .lt 6, 3) := by decide +kernel
theorem dX7_see_23 : decode cX7_see 23 = .ok (.bipush (-104), 2) := by decide +kernel
theorem dX7_see_25 : decode cX7_see 25 = .ok (.ireturn, 1) := by decide +kernel
theorem dX7_see_26 : decode cX7_see 26 = .ok (.aload_n 0, 1) := by decide +kernel
theorem dX7_see_27 : decode cX7_see 27 = .ok (.getfield 49, 3) := by decide +kernel
theorem dX7_see_30 : decode cX7_see 30 = .ok (.getfield 218, 3) := by decide +kernel
theorem dX7_see_33 : decode cX7_see 33 = .ok (.aload_n 0, 1) := by decide +kernel
theorem dX7_see_34 : decode cX7_see 34 = .ok (.getfield 49, 3) := by decide +kernel
theorem dX7_see_37 : decode cX7_see 37 = .ok (.getfield 105, 3) := by decide +kernel
theorem dX7_see_40 : decode cX7_see 40 = .ok (.iload_n 1, 1) := by decide +kernel
theorem dX7_see_41 : decode cX7_see 41 = .ok (.iastore, 1) := by decide +kernel
theorem dX7_see_42 : decode cX7_see 42 = .ok (.aload_n 0, 1) := by decide +kernel
theorem dX7_see_43 : decode cX7_see 43 = .ok (.getfield 49, 3) := by decide +kernel
theorem dX7_see_46 : decode cX7_see 46 = .ok (.getfield 221, 3) := by decide +kernel
theorem dX7_see_49 : decode cX7_see 49 = .ok (.aload_n 0, 1) := by decide +kernel
theorem dX7_see_50 : decode cX7_see 50 = .ok (.getfield 49, 3) := by decide +kernel
theorem dX7_see_53 : decode cX7_see 53 = .ok (.getfield 105, 3) := by decide +kernel
theorem dX7_see_56 : decode cX7_see 56 = .ok (.iload_n 2, 1) := by decide +kernel
theorem dX7_see_57 : decode cX7_see 57 = .ok (.bastore, 1) := by decide +kernel
theorem dX7_see_58 : decode cX7_see 58 = .ok (.aload_n 0, 1) := by decide +kernel
theorem dX7_see_59 : decode cX7_see 59 = .ok (.getfield 49, 3) := by decide +kernel
theorem dX7_see_62 : decode cX7_see 62 = .ok (.dup, 1) := by decide +kernel
theorem dX7_see_63 : decode cX7_see 63 = .ok (.getfield 105, 3) := by decide +kernel
theorem dX7_see_66 : decode cX7_see 66 = .ok (.iconst 1, 1) := by decide +kernel
theorem dX7_see_67 : decode cX7_see 67 = .ok (.iadd, 1) := by decide +kernel
theorem dX7_see_68 : decode cX7_see 68 = .ok (.putfield 105, 3) := by decide +kernel
theorem dX7_see_71 : decode cX7_see 71 = .ok (.aload_n 0, 1) := by decide +kernel
theorem dX7_see_72 : decode cX7_see 72 = .ok (.getfield 49, 3) := by decide +kernel
theorem dX7_see_75 : decode cX7_see 75 = .ok (.getfield 105, 3) := by decide +kernel
theorem dX7_see_78 : decode cX7_see 78 = .ok (.ireturn, 1) := by decide +kernel
theorem dX7_forget_0 : decode cX7_forget 0 = .ok (.aload_n 0, 1) := by decide +kernel
theorem dX7_forget_1 : decode cX7_forget 1 = .ok (.getfield 49, 3) := by decide +kernel
theorem dX7_forget_4 : decode cX7_forget 4 = .ok (.getfield 105, 3) := by decide +kernel
theorem dX7_forget_7 : decode cX7_forget 7 = .ok (.istore_n 1, 1) := by decide +kernel
theorem dX7_forget_8 : decode cX7_forget 8 = .ok (.aload_n 0, 1) := by decide +kernel
theorem dX7_forget_9 : decode cX7_forget 9 = .ok (.getfield 49, 3) := by decide +kernel
theorem dX7_forget_12 : decode cX7_forget 12 = .ok (.iconst 0, 1) := by decide +kernel
theorem dX7_forget_13 : decode cX7_forget 13 = .ok (.putfield 105, 3) := by decide +kernel
theorem dX7_forget_16 : decode cX7_forget 16 = .ok (.iload_n 1, 1) := by decide +kernel
theorem dX7_forget_17 : decode cX7_forget 17 = .ok (.ireturn, 1) := by decide +kernel
theorem dX7_places_0 : decode cX7_places 0 = .ok (.aload_n 0, 1) := by decide +kernel
theorem dX7_places_1 : decode cX7_places 1 = .ok (.invokevirtual 190, 3) := by decide +kernel
theorem dX7_places_4 : decode cX7_places 4 = .ok (.ifCond .eq 10, 3) := by decide +kernel
theorem dX7_places_7 : decode cX7_places 7 = .ok (.aload_n 0, 1) := by decide +kernel
theorem dX7_places_8 : decode cX7_places 8 = .ok (.invokevirtual 225, 3) := by decide +kernel
theorem dX7_places_11 : decode cX7_places 11 = .ok (.goto 5, 3) := by decide +kernel
theorem dX7_places_14 : decode cX7_places 14 = .ok (.bipush (-103), 2) := by decide +kernel
theorem dX7_places_16 : decode cX7_places 16 = .ok (.ireturn, 1) := by decide +kernel
theorem dX7_ask_0 : decode cX7_ask 0 = .ok (.aload_n 0, 1) := by decide +kernel
theorem dX7_ask_1 : decode cX7_ask 1 = .ok (.invokevirtual 190, 3) := by decide +kernel
theorem dX7_ask_4 : decode cX7_ask 4 = .ok (.ifCond .eq 14, 3) := by decide +kernel
theorem dX7_ask_7 : decode cX7_ask 7 = .ok (.aload_n 0, 1) := by decide +kernel
theorem dX7_ask_8 : decode cX7_ask 8 = .ok (.aload_n 0, 1) := by decide +kernel
theorem dX7_ask_9 : decode cX7_ask 9 = .ok (.invokevirtual 225, 3) := by decide +kernel
theorem dX7_ask_12 : decode cX7_ask 12 = .ok (.invokevirtual 228, 3) := by decide +kernel
theorem dX7_ask_15 : decode cX7_ask 15 = .ok (.goto 5, 3) := by decide +kernel
theorem dX7_ask_18 : decode cX7_ask 18 = .ok (.bipush (-103), 2) := by decide +kernel
theorem dX7_ask_20 : decode cX7_ask 20 = .ok (.ireturn, 1) := by decide +kernel
theorem dX7_evenings_0 : decode cX7_evenings 0 = .ok (.iload_n 1, 1) := by decide +kernel
theorem dX7_evenings_1 : decode cX7_evenings 1 = .ok (.iconst 1, 1) := by decide +kernel
theorem dX7_evenings_2 : decode cX7_evenings 2 = .ok (.bipush 60, 2) := by decide +kernel
theorem dX7_evenings_4 : decode cX7_evenings 4 = .ok (.invokestatic 70, 3) := by decide +kernel
theorem dX7_evenings_7 : decode cX7_evenings 7 = .ok (.ifCond .eq 16, 3) := by decide +kernel
theorem dX7_evenings_10 : decode cX7_evenings 10 = .ok (.iload_n 2, 1) := by decide +kernel
theorem dX7_evenings_11 : decode cX7_evenings 11 = .ok (.ifCond .lt 12, 3) := by decide +kernel
theorem dX7_evenings_14 : decode cX7_evenings 14 = .ok (.iload_n 3, 1) := by decide +kernel
theorem dX7_evenings_15 : decode cX7_evenings 15 = .ok (.iconst 0, 1) := by decide +kernel
theorem dX7_evenings_16 : decode cX7_evenings 16 = .ok (.iconst 2, 1) := by decide +kernel
theorem dX7_evenings_17 : decode cX7_evenings 17 = .ok (.invokestatic 70, 3) := by decide +kernel
theorem dX7_evenings_20 : decode cX7_evenings 20 = .ok (.ifCond .ne 6, 3) := by decide +kernel
theorem dX7_evenings_23 : decode cX7_evenings 23 = .ok (.bipush (-102), 2) := by decide +kernel
theorem dX7_evenings_25 : decode cX7_evenings 25 = .ok (.ireturn, 1) := by decide +kernel
theorem dX7_evenings_26 : decode cX7_evenings 26 = .ok (.aload_n 0, 1) := by decide +kernel
theorem dX7_evenings_27 : decode cX7_evenings 27 = .ok (.invokevirtual 190, 3) := by decide +kernel
theorem dX7_evenings_30 : decode cX7_evenings 30 = .ok (.ifCond .ne 6, 3) := by decide +kernel
theorem dX7_evenings_33 : decode cX7_evenings 33 = .ok (.bipush (-103), 2) := by decide +kernel
theorem dX7_evenings_35 : decode cX7_evenings 35 = .ok (.ireturn, 1) := by decide +kernel
theorem dX7_evenings_36 : decode cX7_evenings 36 = .ok (.aload_n 0, 1) := by decide +kernel
theorem dX7_evenings_37 : decode cX7_evenings 37 = .ok (.getfield 43, 3) := by decide +kernel
theorem dX7_evenings_40 : decode cX7_evenings 40 = .ok (.aload_n 0, 1) := by decide +kernel
theorem dX7_evenings_41 : decode cX7_evenings 41 = .ok (.getfield 36, 3) := by decide +kernel
theorem dX7_evenings_44 : decode cX7_evenings 44 = .ok (.invokevirtual 231, 3) := by decide +kernel
theorem dX7_evenings_47 : decode cX7_evenings 47 = .ok (.aload_n 0, 1) := by decide +kernel
theorem dX7_evenings_48 : decode cX7_evenings 48 = .ok (.iload_n 1, 1) := by decide +kernel
theorem dX7_evenings_49 : decode cX7_evenings 49 = .ok (.iload_n 2, 1) := by decide +kernel
theorem dX7_evenings_50 : decode cX7_evenings 50 = .ok (.invokevirtual 235, 3) := by decide +kernel
theorem dX7_evenings_53 : decode cX7_evenings 53 = .ok (.istore 4, 2) := by decide +kernel
theorem dX7_evenings_55 : decode cX7_evenings 55 = .ok (.iload_n 3, 1) := by decide +kernel
theorem dX7_evenings_56 : decode cX7_evenings 56 = .ok (.iconst 2, 1) := by decide +kernel
theorem dX7_evenings_57 : decode cX7_evenings 57 = .ok (.if_icmp .ne 6, 3) := by decide +kernel
theorem dX7_evenings_60 : decode cX7_evenings 60 = .ok (.iload 4, 2) := by decide +kernel
theorem dX7_evenings_62 : decode cX7_evenings 62 = .ok (.ireturn, 1) := by decide +kernel
theorem dX7_evenings_63 : decode cX7_evenings 63 = .ok (.iload_n 3, 1) := by decide +kernel
theorem dX7_evenings_64 : decode cX7_evenings 64 = .ok (.ifCond .ne 21, 3) := by decide +kernel
theorem dX7_evenings_67 : decode cX7_evenings 67 = .ok (.aload_n 0, 1) := by decide +kernel
theorem dX7_evenings_68 : decode cX7_evenings 68 = .ok (.getfield 43, 3) := by decide +kernel
theorem dX7_evenings_71 : decode cX7_evenings 71 = .ok (.invokevirtual 239, 3) := by decide +kernel
theorem dX7_evenings_74 : decode cX7_evenings 74 = .ok (.aload_n 0, 1) := by decide +kernel
theorem dX7_evenings_75 : decode cX7_evenings 75 = .ok (.getfield 36, 3) := by decide +kernel
theorem dX7_evenings_78 : decode cX7_evenings 78 = .ok (.invokevirtual 239, 3) := by decide +kernel
theorem dX7_evenings_81 : decode cX7_evenings 81 = .ok (.isub, 1) := by decide +kernel
theorem dX7_evenings_82 : decode cX7_evenings 82 = .ok (.goto 10, 3) := by decide +kernel
theorem dX7_evenings_85 : decode cX7_evenings 85 = .ok (.aload_n 0, 1) := by decide +kernel
theorem dX7_evenings_86 : decode cX7_evenings 86 = .ok (.getfield 43, 3) := by decide +kernel
theorem dX7_evenings_89 : decode cX7_evenings 89 = .ok (.getfield 171, 3) := by decide +kernel
theorem dX7_evenings_92 : decode cX7_evenings 92 = .ok (.ireturn, 1) := by decide +kernel
theorem dX7_image_0 : decode cX7_image 0 = .ok (.aload_n 0, 1) := by decide +kernel
theorem dX7_image_1 : decode cX7_image 1 = .ok (.invokevirtual 190, 3) := by decide +kernel
theorem dX7_image_4 : decode cX7_image 4 = .ok (.ifCond .ne 6, 3) := by decide +kernel
theorem dX7_image_7 : decode cX7_image 7 = .ok (.bipush (-103), 2) := by decide +kernel
theorem dX7_image_9 : decode cX7_image 9 = .ok (.ireturn, 1) := by decide +kernel
theorem dX7_image_10 : decode cX7_image 10 = .ok (.aload_n 0, 1) := by decide +kernel
theorem dX7_image_11 : decode cX7_image 11 = .ok (.getfield 30, 3) := by decide +kernel
theorem dX7_image_14 : decode cX7_image 14 = .ok (.aload_n 0, 1) := by decide +kernel
theorem dX7_image_15 : decode cX7_image 15 = .ok (.getfield 26, 3) := by decide +kernel
theorem dX7_image_18 : decode cX7_image 18 = .ok (.invokevirtual 242, 3) := by decide +kernel
theorem dX7_image_21 : decode cX7_image 21 = .ok (.aload_n 0, 1) := by decide +kernel
theorem dX7_image_22 : decode cX7_image 22 = .ok (.getfield 40, 3) := by decide +kernel
theorem dX7_image_25 : decode cX7_image 25 = .ok (.aload_n 0, 1) := by decide +kernel
theorem dX7_image_26 : decode cX7_image 26 = .ok (.getfield 36, 3) := by decide +kernel
theorem dX7_image_29 : decode cX7_image 29 = .ok (.invokevirtual 231, 3) := by decide +kernel
theorem dX7_image_32 : decode cX7_image 32 = .ok (.aload_n 0, 1) := by decide +kernel
theorem dX7_image_33 : decode cX7_image 33 = .ok (.getfield 53, 3) := by decide +kernel
theorem dX7_image_36 : decode cX7_image 36 = .ok (.aload_n 0, 1) := by decide +kernel
theorem dX7_image_37 : decode cX7_image 37 = .ok (.getfield 49, 3) := by decide +kernel
theorem dX7_image_40 : decode cX7_image 40 = .ok (.invokevirtual 245, 3) := by decide +kernel
theorem dX7_image_43 : decode cX7_image 43 = .ok (.aload_n 0, 1) := by decide +kernel
theorem dX7_image_44 : decode cX7_image 44 = .ok (.iconst 1, 1) := by decide +kernel
theorem dX7_image_45 : decode cX7_image 45 = .ok (.putfield 106, 3) := by decide +kernel
theorem dX7_image_48 : decode cX7_image 48 = .ok (.aload_n 0, 1) := by decide +kernel
theorem dX7_image_49 : decode cX7_image 49 = .ok (.getfield 36, 3) := by decide +kernel
theorem dX7_image_52 : decode cX7_image 52 = .ok (.getfield 180, 3) := by decide +kernel
theorem dX7_image_55 : decode cX7_image 55 = .ok (.ireturn, 1) := by decide +kernel
theorem dX7_restore_0 : decode cX7_restore 0 = .ok (.aload_n 0, 1) := by decide +kernel
theorem dX7_restore_1 : decode cX7_restore 1 = .ok (.getfield 106, 3) := by decide +kernel
theorem dX7_restore_4 : decode cX7_restore 4 = .ok (.ifCond .ne 6, 3) := by decide +kernel
theorem dX7_restore_7 : decode cX7_restore 7 = .ok (.bipush (-103), 2) := by decide +kernel
theorem dX7_restore_9 : decode cX7_restore 9 = .ok (.ireturn, 1) := by decide +kernel
theorem dX7_restore_10 : decode cX7_restore 10 = .ok (.aload_n 0, 1) := by decide +kernel
theorem dX7_restore_11 : decode cX7_restore 11 = .ok (.getfield 26, 3) := by decide +kernel
theorem dX7_restore_14 : decode cX7_restore 14 = .ok (.aload_n 0, 1) := by decide +kernel
theorem dX7_restore_15 : decode cX7_restore 15 = .ok (.getfield 30, 3) := by decide +kernel
theorem dX7_restore_18 : decode cX7_restore 18 = .ok (.invokevirtual 242, 3) := by decide +kernel
theorem dX7_restore_21 : decode cX7_restore 21 = .ok (.aload_n 0, 1) := by decide +kernel
theorem dX7_restore_22 : decode cX7_restore 22 = .ok (.getfield 36, 3) := by decide +kernel
theorem dX7_restore_25 : decode cX7_restore 25 = .ok (.aload_n 0, 1) := by decide +kernel
theorem dX7_restore_26 : decode cX7_restore 26 = .ok (.getfield 40, 3) := by decide +kernel
theorem dX7_restore_29 : decode cX7_restore 29 = .ok (.invokevirtual 231, 3) := by decide +kernel
theorem dX7_restore_32 : decode cX7_restore 32 = .ok (.aload_n 0, 1) := by decide +kernel
theorem dX7_restore_33 : decode cX7_restore 33 = .ok (.getfield 49, 3) := by decide +kernel
theorem dX7_restore_36 : decode cX7_restore 36 = .ok (.aload_n 0, 1) := by decide +kernel
theorem dX7_restore_37 : decode cX7_restore 37 = .ok (.getfield 53, 3) := by decide +kernel
theorem dX7_restore_40 : decode cX7_restore 40 = .ok (.invokevirtual 245, 3) := by decide +kernel
theorem dX7_restore_43 : decode cX7_restore 43 = .ok (.aload_n 0, 1) := by decide +kernel
theorem dX7_restore_44 : decode cX7_restore 44 = .ok (.getfield 36, 3) := by decide +kernel
theorem dX7_restore_47 : decode cX7_restore 47 = .ok (.getfield 180, 3) := by decide +kernel
theorem dX7_restore_50 : decode cX7_restore 50 = .ok (.ireturn, 1) := by decide +kernel
theorem dX7_count_0 : decode cX7_count 0 = .ok (.iload_n 1, 1) := by decide +kernel
theorem dX7_count_1 : decode cX7_count 1 = .ok (.tableswitch 150 0 11 #[63, 71, 79, 87, 95, 103, 111, 119, 124, 132, 140, 145], 63) := by decide +kernel
theorem dX7_count_64 : decode cX7_count 64 = .ok (.aload_n 0, 1) := by decide +kernel
theorem dX7_count_65 : decode cX7_count 65 = .ok (.getfield 19, 3) := by decide +kernel
theorem dX7_count_68 : decode cX7_count 68 = .ok (.getfield 248, 3) := by decide +kernel
theorem dX7_count_71 : decode cX7_count 71 = .ok (.ireturn, 1) := by decide +kernel
theorem dX7_count_72 : decode cX7_count 72 = .ok (.aload_n 0, 1) := by decide +kernel
theorem dX7_count_73 : decode cX7_count 73 = .ok (.getfield 19, 3) := by decide +kernel
theorem dX7_count_76 : decode cX7_count 76 = .ok (.getfield 149, 3) := by decide +kernel
theorem dX7_count_79 : decode cX7_count 79 = .ok (.ireturn, 1) := by decide +kernel
theorem dX7_count_80 : decode cX7_count 80 = .ok (.aload_n 0, 1) := by decide +kernel
theorem dX7_count_81 : decode cX7_count 81 = .ok (.getfield 26, 3) := by decide +kernel
theorem dX7_count_84 : decode cX7_count 84 = .ok (.getfield 113, 3) := by decide +kernel
theorem dX7_count_87 : decode cX7_count 87 = .ok (.ireturn, 1) := by decide +kernel
theorem dX7_count_88 : decode cX7_count 88 = .ok (.aload_n 0, 1) := by decide +kernel
theorem dX7_count_89 : decode cX7_count 89 = .ok (.getfield 36, 3) := by decide +kernel
theorem dX7_count_92 : decode cX7_count 92 = .ok (.getfield 171, 3) := by decide +kernel
theorem dX7_count_95 : decode cX7_count 95 = .ok (.ireturn, 1) := by decide +kernel
theorem dX7_count_96 : decode cX7_count 96 = .ok (.aload_n 0, 1) := by decide +kernel
theorem dX7_count_97 : decode cX7_count 97 = .ok (.getfield 36, 3) := by decide +kernel
theorem dX7_count_100 : decode cX7_count 100 = .ok (.getfield 180, 3) := by decide +kernel
theorem dX7_count_103 : decode cX7_count 103 = .ok (.ireturn, 1) := by decide +kernel
theorem dX7_count_104 : decode cX7_count 104 = .ok (.aload_n 0, 1) := by decide +kernel
theorem dX7_count_105 : decode cX7_count 105 = .ok (.getfield 36, 3) := by decide +kernel
theorem dX7_count_108 : decode cX7_count 108 = .ok (.invokevirtual 239, 3) := by decide +kernel
theorem dX7_count_111 : decode cX7_count 111 = .ok (.ireturn, 1) := by decide +kernel
theorem dX7_count_112 : decode cX7_count 112 = .ok (.aload_n 0, 1) := by decide +kernel
theorem dX7_count_113 : decode cX7_count 113 = .ok (.getfield 36, 3) := by decide +kernel
theorem dX7_count_116 : decode cX7_count 116 = .ok (.invokevirtual 251, 3) := by decide +kernel
theorem dX7_count_119 : decode cX7_count 119 = .ok (.ireturn, 1) := by decide +kernel
theorem dX7_count_120 : decode cX7_count 120 = .ok (.aload_n 0, 1) := by decide +kernel
theorem dX7_count_121 : decode cX7_count 121 = .ok (.invokevirtual 254, 3) := by decide +kernel
theorem dX7_count_124 : decode cX7_count 124 = .ok (.ireturn, 1) := by decide +kernel
theorem dX7_count_125 : decode cX7_count 125 = .ok (.aload_n 0, 1) := by decide +kernel
theorem dX7_count_126 : decode cX7_count 126 = .ok (.getfield 49, 3) := by decide +kernel
theorem dX7_count_129 : decode cX7_count 129 = .ok (.getfield 105, 3) := by decide +kernel
theorem dX7_count_132 : decode cX7_count 132 = .ok (.ireturn, 1) := by decide +kernel
theorem dX7_count_133 : decode cX7_count 133 = .ok (.aload_n 0, 1) := by decide +kernel
theorem dX7_count_134 : decode cX7_count 134 = .ok (.getfield 10, 3) := by decide +kernel
theorem dX7_count_137 : decode cX7_count 137 = .ok (.getfield 74, 3) := by decide +kernel
theorem dX7_count_140 : decode cX7_count 140 = .ok (.ireturn, 1) := by decide +kernel
theorem dX7_count_141 : decode cX7_count 141 = .ok (.aload_n 0, 1) := by decide +kernel
theorem dX7_count_142 : decode cX7_count 142 = .ok (.getfield 110, 3) := by decide +kernel
theorem dX7_count_145 : decode cX7_count 145 = .ok (.ireturn, 1) := by decide +kernel
theorem dX7_count_146 : decode cX7_count 146 = .ok (.aload_n 0, 1) := by decide +kernel
theorem dX7_count_147 : decode cX7_count 147 = .ok (.getfield 193, 3) := by decide +kernel
theorem dX7_count_150 : decode cX7_count 150 = .ok (.ireturn, 1) := by decide +kernel
theorem dX7_count_151 : decode cX7_count 151 = .ok (.bipush (-102), 2) := by decide +kernel
theorem dX7_count_153 : decode cX7_count 153 = .ok (.ireturn, 1) := by decide +kernel
theorem dX7_digest_0 : decode cX7_digest 0 = .ok (.aload_n 0, 1) := by decide +kernel
theorem dX7_digest_1 : decode cX7_digest 1 = .ok (.ldc2_w 257, 3) := by decide +kernel
theorem dX7_digest_4 : decode cX7_digest 4 = .ok (.invokevirtual 259, 3) := by decide +kernel
theorem dX7_digest_7 : decode cX7_digest 7 = .ok (.lstore_n 1, 1) := by decide +kernel
theorem dX7_digest_8 : decode cX7_digest 8 = .ok (.aload_n 0, 1) := by decide +kernel
theorem dX7_digest_9 : decode cX7_digest 9 = .ok (.lload_n 1, 1) := by decide +kernel
theorem dX7_digest_10 : decode cX7_digest 10 = .ok (.invokevirtual 263, 3) := by decide +kernel
theorem dX7_digest_13 : decode cX7_digest 13 = .ok (.lstore_n 1, 1) := by decide +kernel
theorem dX7_digest_14 : decode cX7_digest 14 = .ok (.aload_n 0, 1) := by decide +kernel
theorem dX7_digest_15 : decode cX7_digest 15 = .ok (.invokevirtual 190, 3) := by decide +kernel
theorem dX7_digest_18 : decode cX7_digest 18 = .ok (.ifCond .eq 21, 3) := by decide +kernel
theorem dX7_digest_21 : decode cX7_digest 21 = .ok (.lload_n 1, 1) := by decide +kernel
theorem dX7_digest_22 : decode cX7_digest 22 = .ok (.aload_n 0, 1) := by decide +kernel
theorem dX7_digest_23 : decode cX7_digest 23 = .ok (.invokevirtual 266, 3) := by decide +kernel
theorem dX7_digest_26 : decode cX7_digest 26 = .ok (.i2l, 1) := by decide +kernel
theorem dX7_digest_27 : decode cX7_digest 27 = .ok (.invokestatic 269, 3) := by decide +kernel
theorem dX7_digest_30 : decode cX7_digest 30 = .ok (.aload_n 0, 1) := by decide +kernel
theorem dX7_digest_31 : decode cX7_digest 31 = .ok (.invokevirtual 273, 3) := by decide +kernel
theorem dX7_digest_34 : decode cX7_digest 34 = .ok (.i2l, 1) := by decide +kernel
theorem dX7_digest_35 : decode cX7_digest 35 = .ok (.invokestatic 269, 3) := by decide +kernel
theorem dX7_digest_38 : decode cX7_digest 38 = .ok (.lstore_n 1, 1) := by decide +kernel
theorem dX7_digest_39 : decode cX7_digest 39 = .ok (.iconst 0, 1) := by decide +kernel
theorem dX7_digest_40 : decode cX7_digest 40 = .ok (.istore_n 3, 1) := by decide +kernel
theorem dX7_digest_41 : decode cX7_digest 41 = .ok (.iload_n 3, 1) := by decide +kernel
theorem dX7_digest_42 : decode cX7_digest 42 = .ok (.aload_n 0, 1) := by decide +kernel
theorem dX7_digest_43 : decode cX7_digest 43 = .ok (.getfield 10, 3) := by decide +kernel
theorem dX7_digest_46 : decode cX7_digest 46 = .ok (.getfield 74, 3) := by decide +kernel
theorem dX7_digest_49 : decode cX7_digest 49 = .ok (.if_icmp .ge 24, 3) := by decide +kernel
theorem dX7_digest_52 : decode cX7_digest 52 = .ok (.lload_n 1, 1) := by decide +kernel
theorem dX7_digest_53 : decode cX7_digest 53 = .ok (.aload_n 0, 1) := by decide +kernel
theorem dX7_digest_54 : decode cX7_digest 54 = .ok (.getfield 10, 3) := by decide +kernel
theorem dX7_digest_57 : decode cX7_digest 57 = .ok (.getfield 78, 3) := by decide +kernel
theorem dX7_digest_60 : decode cX7_digest 60 = .ok (.iload_n 3, 1) := by decide +kernel
theorem dX7_digest_61 : decode cX7_digest 61 = .ok (.iaload, 1) := by decide +kernel
theorem dX7_digest_62 : decode cX7_digest 62 = .ok (.i2l, 1) := by decide +kernel
theorem dX7_digest_63 : decode cX7_digest 63 = .ok (.invokestatic 269, 3) := by decide +kernel
theorem dX7_digest_66 : decode cX7_digest 66 = .ok (.lstore_n 1, 1) := by decide +kernel
theorem dX7_digest_67 : decode cX7_digest 67 = .ok (.iinc 3 1, 3) := by decide +kernel
theorem dX7_digest_70 : decode cX7_digest 70 = .ok (.goto (-29), 3) := by decide +kernel
theorem dX7_digest_73 : decode cX7_digest 73 = .ok (.iconst 0, 1) := by decide +kernel
theorem dX7_digest_74 : decode cX7_digest 74 = .ok (.istore_n 3, 1) := by decide +kernel
theorem dX7_digest_75 : decode cX7_digest 75 = .ok (.iload_n 3, 1) := by decide +kernel
theorem dX7_digest_76 : decode cX7_digest 76 = .ok (.bipush 12, 2) := by decide +kernel
theorem dX7_digest_78 : decode cX7_digest 78 = .ok (.if_icmp .ge 20, 3) := by decide +kernel
theorem dX7_digest_81 : decode cX7_digest 81 = .ok (.lload_n 1, 1) := by decide +kernel
theorem dX7_digest_82 : decode cX7_digest 82 = .ok (.aload_n 0, 1) := by decide +kernel
theorem dX7_digest_83 : decode cX7_digest 83 = .ok (.iload_n 3, 1) := by decide +kernel
theorem dX7_digest_84 : decode cX7_digest 84 = .ok (.invokevirtual 276, 3) := by decide +kernel
theorem dX7_digest_87 : decode cX7_digest 87 = .ok (.i2l, 1) := by decide +kernel
theorem dX7_digest_88 : decode cX7_digest 88 = .ok (.invokestatic 269, 3) := by decide +kernel
theorem dX7_digest_91 : decode cX7_digest 91 = .ok (.lstore_n 1, 1) := by decide +kernel
theorem dX7_digest_92 : decode cX7_digest 92 = .ok (.iinc 3 1, 3) := by decide +kernel
theorem dX7_digest_95 : decode cX7_digest 95 = .ok (.goto (-20), 3) := by decide +kernel
theorem dX7_digest_98 : decode cX7_digest 98 = .ok (.lload_n 1, 1) := by decide +kernel
theorem dX7_digest_99 : decode cX7_digest 99 = .ok (.lreturn, 1) := by decide +kernel
theorem dX7_digestOfPeople_0 : decode cX7_digestOfPeople 0 = .ok (.lload_n 1, 1) := by decide +kernel
theorem dX7_digestOfPeople_1 : decode cX7_digestOfPeople 1 = .ok (.lstore_n 3, 1) := by decide +kernel
theorem dX7_digestOfPeople_2 : decode cX7_digestOfPeople 2 = .ok (.iconst 0, 1) := by decide +kernel
theorem dX7_digestOfPeople_3 : decode cX7_digestOfPeople 3 = .ok (.istore 5, 2) := by decide +kernel
theorem dX7_digestOfPeople_5 : decode cX7_digestOfPeople 5 = .ok (.iload 5, 2) := by decide +kernel
theorem dX7_digestOfPeople_7 : decode cX7_digestOfPeople 7 = .ok (.aload_n 0, 1) := by decide +kernel
theorem dX7_digestOfPeople_8 : decode cX7_digestOfPeople 8 = .ok (.getfield 26, 3) := by decide +kernel
theorem dX7_digestOfPeople_11 : decode cX7_digestOfPeople 11 = .ok (.getfield 113, 3) := by decide +kernel
theorem dX7_digestOfPeople_14 : decode cX7_digestOfPeople 14 = .ok (.if_icmp .ge 65, 3) := by decide +kernel
theorem dX7_digestOfPeople_17 : decode cX7_digestOfPeople 17 = .ok (.iconst 0, 1) := by decide +kernel
theorem dX7_digestOfPeople_18 : decode cX7_digestOfPeople 18 = .ok (.istore 6, 2) := by decide +kernel
theorem dX7_digestOfPeople_20 : decode cX7_digestOfPeople 20 = .ok (.iload 6, 2) := by decide +kernel
theorem dX7_digestOfPeople_22 : decode cX7_digestOfPeople 22 = .ok (.bipush 9, 2) := by decide +kernel
theorem dX7_digestOfPeople_24 : decode cX7_digestOfPeople 24 = .ok (.if_icmp .ge 23, 3) := by decide +kernel
theorem dX7_digestOfPeople_27 : decode cX7_digestOfPeople 27 = .ok (.lload_n 3, 1) := by decide +kernel
theorem dX7_digestOfPeople_28 : decode cX7_digestOfPeople 28 = .ok (.aload_n 0, 1) := by decide +kernel
theorem dX7_digestOfPeople_29 : decode cX7_digestOfPeople 29 = .ok (.iload 5, 2) := by decide +kernel
theorem dX7_digestOfPeople_31 : decode cX7_digestOfPeople 31 = .ok (.iload 6, 2) := by decide +kernel
theorem dX7_digestOfPeople_33 : decode cX7_digestOfPeople 33 = .ok (.invokevirtual 279, 3) := by decide +kernel
theorem dX7_digestOfPeople_36 : decode cX7_digestOfPeople 36 = .ok (.i2l, 1) := by decide +kernel
theorem dX7_digestOfPeople_37 : decode cX7_digestOfPeople 37 = .ok (.invokestatic 269, 3) := by decide +kernel
theorem dX7_digestOfPeople_40 : decode cX7_digestOfPeople 40 = .ok (.lstore_n 3, 1) := by decide +kernel
theorem dX7_digestOfPeople_41 : decode cX7_digestOfPeople 41 = .ok (.iinc 6 1, 3) := by decide +kernel
theorem dX7_digestOfPeople_44 : decode cX7_digestOfPeople 44 = .ok (.goto (-24), 3) := by decide +kernel
theorem dX7_digestOfPeople_47 : decode cX7_digestOfPeople 47 = .ok (.lload_n 3, 1) := by decide +kernel
theorem dX7_digestOfPeople_48 : decode cX7_digestOfPeople 48 = .ok (.aload_n 0, 1) := by decide +kernel
theorem dX7_digestOfPeople_49 : decode cX7_digestOfPeople 49 = .ok (.iload 5, 2) := by decide +kernel
theorem dX7_digestOfPeople_51 : decode cX7_digestOfPeople 51 = .ok (.iconst 2, 1) := by decide +kernel
theorem dX7_digestOfPeople_52 : decode cX7_digestOfPeople 52 = .ok (.iconst 0, 1) := by decide +kernel
theorem dX7_digestOfPeople_53 : decode cX7_digestOfPeople 53 = .ok (.invokevirtual 282, 3) := by decide +kernel
theorem dX7_digestOfPeople_56 : decode cX7_digestOfPeople 56 = .ok (.i2l, 1) := by decide +kernel
theorem dX7_digestOfPeople_57 : decode cX7_digestOfPeople 57 = .ok (.invokestatic 269, 3) := by decide +kernel
theorem dX7_digestOfPeople_60 : decode cX7_digestOfPeople 60 = .ok (.aload_n 0, 1) := by decide +kernel
theorem dX7_digestOfPeople_61 : decode cX7_digestOfPeople 61 = .ok (.iload 5, 2) := by decide +kernel
theorem dX7_digestOfPeople_63 : decode cX7_digestOfPeople 63 = .ok (.iconst 2, 1) := by decide +kernel
theorem dX7_digestOfPeople_64 : decode cX7_digestOfPeople 64 = .ok (.iconst 1, 1) := by decide +kernel
theorem dX7_digestOfPeople_65 : decode cX7_digestOfPeople 65 = .ok (.invokevirtual 282, 3) := by decide +kernel
theorem dX7_digestOfPeople_68 : decode cX7_digestOfPeople 68 = .ok (.i2l, 1) := by decide +kernel
theorem dX7_digestOfPeople_69 : decode cX7_digestOfPeople 69 = .ok (.invokestatic 269, 3) := by decide +kernel
theorem dX7_digestOfPeople_72 : decode cX7_digestOfPeople 72 = .ok (.lstore_n 3, 1) := by decide +kernel
theorem dX7_digestOfPeople_73 : decode cX7_digestOfPeople 73 = .ok (.iinc 5 1, 3) := by decide +kernel
theorem dX7_digestOfPeople_76 : decode cX7_digestOfPeople 76 = .ok (.goto (-71), 3) := by decide +kernel
theorem dX7_digestOfPeople_79 : decode cX7_digestOfPeople 79 = .ok (.lload_n 3, 1) := by decide +kernel
theorem dX7_digestOfPeople_80 : decode cX7_digestOfPeople 80 = .ok (.lreturn, 1) := by decide +kernel
theorem dX7_digestOfStreets_0 : decode cX7_digestOfStreets 0 = .ok (.lload_n 1, 1) := by decide +kernel
theorem dX7_digestOfStreets_1 : decode cX7_digestOfStreets 1 = .ok (.lstore_n 3, 1) := by decide +kernel
theorem dX7_digestOfStreets_2 : decode cX7_digestOfStreets 2 = .ok (.iconst 0, 1) := by decide +kernel
theorem dX7_digestOfStreets_3 : decode cX7_digestOfStreets 3 = .ok (.istore 5, 2) := by decide +kernel
theorem dX7_digestOfStreets_5 : decode cX7_digestOfStreets 5 = .ok (.iload 5, 2) := by decide +kernel
theorem dX7_digestOfStreets_7 : decode cX7_digestOfStreets 7 = .ok (.aload_n 0, 1) := by decide +kernel
theorem dX7_digestOfStreets_8 : decode cX7_digestOfStreets 8 = .ok (.getfield 19, 3) := by decide +kernel
theorem dX7_digestOfStreets_11 : decode cX7_digestOfStreets 11 = .ok (.getfield 149, 3) := by decide +kernel
theorem dX7_digestOfStreets_14 : decode cX7_digestOfStreets 14 = .ok (.if_icmp .ge 38, 3) := by decide +kernel
theorem dX7_digestOfStreets_17 : decode cX7_digestOfStreets 17 = .ok (.iconst 0, 1) := by decide +kernel
theorem dX7_digestOfStreets_18 : decode cX7_digestOfStreets 18 = .ok (.istore 6, 2) := by decide +kernel
theorem dX7_digestOfStreets_20 : decode cX7_digestOfStreets 20 = .ok (.iload 6, 2) := by decide +kernel
theorem dX7_digestOfStreets_22 : decode cX7_digestOfStreets 22 = .ok (.iconst 2, 1) := by decide +kernel
theorem dX7_digestOfStreets_23 : decode cX7_digestOfStreets 23 = .ok (.if_icmp .ge 23, 3) := by decide +kernel
theorem dX7_digestOfStreets_26 : decode cX7_digestOfStreets 26 = .ok (.lload_n 3, 1) := by decide +kernel
theorem dX7_digestOfStreets_27 : decode cX7_digestOfStreets 27 = .ok (.aload_n 0, 1) := by decide +kernel
theorem dX7_digestOfStreets_28 : decode cX7_digestOfStreets 28 = .ok (.iload 5, 2) := by decide +kernel
theorem dX7_digestOfStreets_30 : decode cX7_digestOfStreets 30 = .ok (.iload 6, 2) := by decide +kernel
theorem dX7_digestOfStreets_32 : decode cX7_digestOfStreets 32 = .ok (.invokevirtual 286, 3) := by decide +kernel
theorem dX7_digestOfStreets_35 : decode cX7_digestOfStreets 35 = .ok (.i2l, 1) := by decide +kernel
theorem dX7_digestOfStreets_36 : decode cX7_digestOfStreets 36 = .ok (.invokestatic 269, 3) := by decide +kernel
theorem dX7_digestOfStreets_39 : decode cX7_digestOfStreets 39 = .ok (.lstore_n 3, 1) := by decide +kernel
theorem dX7_digestOfStreets_40 : decode cX7_digestOfStreets 40 = .ok (.iinc 6 1, 3) := by decide +kernel
theorem dX7_digestOfStreets_43 : decode cX7_digestOfStreets 43 = .ok (.goto (-23), 3) := by decide +kernel
theorem dX7_digestOfStreets_46 : decode cX7_digestOfStreets 46 = .ok (.iinc 5 1, 3) := by decide +kernel
theorem dX7_digestOfStreets_49 : decode cX7_digestOfStreets 49 = .ok (.goto (-44), 3) := by decide +kernel
theorem dX7_digestOfStreets_52 : decode cX7_digestOfStreets 52 = .ok (.iconst 0, 1) := by decide +kernel
theorem dX7_digestOfStreets_53 : decode cX7_digestOfStreets 53 = .ok (.istore 5, 2) := by decide +kernel
theorem dX7_digestOfStreets_55 : decode cX7_digestOfStreets 55 = .ok (.iload 5, 2) := by decide +kernel
theorem dX7_digestOfStreets_57 : decode cX7_digestOfStreets 57 = .ok (.aload_n 0, 1) := by decide +kernel
theorem dX7_digestOfStreets_58 : decode cX7_digestOfStreets 58 = .ok (.getfield 19, 3) := by decide +kernel
theorem dX7_digestOfStreets_61 : decode cX7_digestOfStreets 61 = .ok (.getfield 248, 3) := by decide +kernel
theorem dX7_digestOfStreets_64 : decode cX7_digestOfStreets 64 = .ok (.if_icmp .ge 38, 3) := by decide +kernel
theorem dX7_digestOfStreets_67 : decode cX7_digestOfStreets 67 = .ok (.iconst 0, 1) := by decide +kernel
theorem dX7_digestOfStreets_68 : decode cX7_digestOfStreets 68 = .ok (.istore 6, 2) := by decide +kernel
theorem dX7_digestOfStreets_70 : decode cX7_digestOfStreets 70 = .ok (.iload 6, 2) := by decide +kernel
theorem dX7_digestOfStreets_72 : decode cX7_digestOfStreets 72 = .ok (.iconst 4, 1) := by decide +kernel
theorem dX7_digestOfStreets_73 : decode cX7_digestOfStreets 73 = .ok (.if_icmp .ge 23, 3) := by decide +kernel
theorem dX7_digestOfStreets_76 : decode cX7_digestOfStreets 76 = .ok (.lload_n 3, 1) := by decide +kernel
theorem dX7_digestOfStreets_77 : decode cX7_digestOfStreets 77 = .ok (.aload_n 0, 1) := by decide +kernel
theorem dX7_digestOfStreets_78 : decode cX7_digestOfStreets 78 = .ok (.iload 5, 2) := by decide +kernel
theorem dX7_digestOfStreets_80 : decode cX7_digestOfStreets 80 = .ok (.iload 6, 2) := by decide +kernel
theorem dX7_digestOfStreets_82 : decode cX7_digestOfStreets 82 = .ok (.invokevirtual 289, 3) := by decide +kernel
theorem dX7_digestOfStreets_85 : decode cX7_digestOfStreets 85 = .ok (.i2l, 1) := by decide +kernel
theorem dX7_digestOfStreets_86 : decode cX7_digestOfStreets 86 = .ok (.invokestatic 269, 3) := by decide +kernel
theorem dX7_digestOfStreets_89 : decode cX7_digestOfStreets 89 = .ok (.lstore_n 3, 1) := by decide +kernel
theorem dX7_digestOfStreets_90 : decode cX7_digestOfStreets 90 = .ok (.iinc 6 1, 3) := by decide +kernel
theorem dX7_digestOfStreets_93 : decode cX7_digestOfStreets 93 = .ok (.goto (-23), 3) := by decide +kernel
theorem dX7_digestOfStreets_96 : decode cX7_digestOfStreets 96 = .ok (.iinc 5 1, 3) := by decide +kernel
theorem dX7_digestOfStreets_99 : decode cX7_digestOfStreets 99 = .ok (.goto (-44), 3) := by decide +kernel
theorem dX7_digestOfStreets_102 : decode cX7_digestOfStreets 102 = .ok (.lload_n 3, 1) := by decide +kernel
theorem dX7_digestOfStreets_103 : decode cX7_digestOfStreets 103 = .ok (.lreturn, 1) := by decide +kernel
theorem dX7_hasSuburb_0 : decode cX7_hasSuburb 0 = .ok (.aload_n 0, 1) := by decide +kernel
theorem dX7_hasSuburb_1 : decode cX7_hasSuburb 1 = .ok (.getfield 110, 3) := by decide +kernel
theorem dX7_hasSuburb_4 : decode cX7_hasSuburb 4 = .ok (.ifCond .le 7, 3) := by decide +kernel
theorem dX7_hasSuburb_7 : decode cX7_hasSuburb 7 = .ok (.iconst 1, 1) := by decide +kernel
theorem dX7_hasSuburb_8 : decode cX7_hasSuburb 8 = .ok (.goto 4, 3) := by decide +kernel
theorem dX7_hasSuburb_11 : decode cX7_hasSuburb 11 = .ok (.iconst 0, 1) := by decide +kernel
theorem dX7_hasSuburb_12 : decode cX7_hasSuburb 12 = .ok (.ireturn, 1) := by decide +kernel
theorem dX7_isPerson_0 : decode cX7_isPerson 0 = .ok (.iload_n 1, 1) := by decide +kernel
theorem dX7_isPerson_1 : decode cX7_isPerson 1 = .ok (.iconst 0, 1) := by decide +kernel
theorem dX7_isPerson_2 : decode cX7_isPerson 2 = .ok (.aload_n 0, 1) := by decide +kernel
theorem dX7_isPerson_3 : decode cX7_isPerson 3 = .ok (.getfield 26, 3) := by decide +kernel
theorem dX7_isPerson_6 : decode cX7_isPerson 6 = .ok (.getfield 113, 3) := by decide +kernel
theorem dX7_isPerson_9 : decode cX7_isPerson 9 = .ok (.iconst 1, 1) := by decide +kernel
theorem dX7_isPerson_10 : decode cX7_isPerson 10 = .ok (.isub, 1) := by decide +kernel
theorem dX7_isPerson_11 : decode cX7_isPerson 11 = .ok (.invokestatic 70, 3) := by decide +kernel
theorem dX7_isPerson_14 : decode cX7_isPerson 14 = .ok (.ireturn, 1) := by decide +kernel
theorem dX7_isCorner_0 : decode cX7_isCorner 0 = .ok (.iload_n 1, 1) := by decide +kernel
theorem dX7_isCorner_1 : decode cX7_isCorner 1 = .ok (.iconst 0, 1) := by decide +kernel
theorem dX7_isCorner_2 : decode cX7_isCorner 2 = .ok (.aload_n 0, 1) := by decide +kernel
theorem dX7_isCorner_3 : decode cX7_isCorner 3 = .ok (.getfield 19, 3) := by decide +kernel
theorem dX7_isCorner_6 : decode cX7_isCorner 6 = .ok (.getfield 248, 3) := by decide +kernel
theorem dX7_isCorner_9 : decode cX7_isCorner 9 = .ok (.iconst 1, 1) := by decide +kernel
theorem dX7_isCorner_10 : decode cX7_isCorner 10 = .ok (.isub, 1) := by decide +kernel
theorem dX7_isCorner_11 : decode cX7_isCorner 11 = .ok (.invokestatic 70, 3) := by decide +kernel
theorem dX7_isCorner_14 : decode cX7_isCorner 14 = .ok (.ireturn, 1) := by decide +kernel
theorem dX7_hearsVan_0 : decode cX7_hearsVan 0 = .ok (.aload_n 0, 1) := by decide +kernel
theorem dX7_hearsVan_1 : decode cX7_hearsVan 1 = .ok (.iload_n 1, 1) := by decide +kernel
theorem dX7_hearsVan_2 : decode cX7_hearsVan 2 = .ok (.invokevirtual 292, 3) := by decide +kernel
theorem dX7_hearsVan_5 : decode cX7_hearsVan 5 = .ok (.aload_n 0, 1) := by decide +kernel
theorem dX7_hearsVan_6 : decode cX7_hearsVan 6 = .ok (.getfield 36, 3) := by decide +kernel
theorem dX7_hearsVan_9 : decode cX7_hearsVan 9 = .ok (.getfield 171, 3) := by decide +kernel
theorem dX7_hearsVan_12 : decode cX7_hearsVan 12 = .ok (.invokestatic 177, 3) := by decide +kernel
theorem dX7_hearsVan_15 : decode cX7_hearsVan 15 = .ok (.ireturn, 1) := by decide +kernel
theorem dX7_earshot_0 : decode cX7_earshot 0 = .ok (.iconst 0, 1) := by decide +kernel
theorem dX7_earshot_1 : decode cX7_earshot 1 = .ok (.istore_n 2, 1) := by decide +kernel
theorem dX7_earshot_2 : decode cX7_earshot 2 = .ok (.aload_n 0, 1) := by decide +kernel
theorem dX7_earshot_3 : decode cX7_earshot 3 = .ok (.getfield 26, 3) := by decide +kernel
theorem dX7_earshot_6 : decode cX7_earshot 6 = .ok (.getfield 121, 3) := by decide +kernel
theorem dX7_earshot_9 : decode cX7_earshot 9 = .ok (.iload_n 1, 1) := by decide +kernel
theorem dX7_earshot_10 : decode cX7_earshot 10 = .ok (.iaload, 1) := by decide +kernel
theorem dX7_earshot_11 : decode cX7_earshot 11 = .ok (.istore_n 3, 1) := by decide +kernel
theorem dX7_earshot_12 : decode cX7_earshot 12 = .ok (.iconst 0, 1) := by decide +kernel
theorem dX7_earshot_13 : decode cX7_earshot 13 = .ok (.istore 4, 2) := by decide +kernel
theorem dX7_earshot_15 : decode cX7_earshot 15 = .ok (.iload 4, 2) := by decide +kernel
theorem dX7_earshot_17 : decode cX7_earshot 17 = .ok (.aload_n 0, 1) := by decide +kernel
theorem dX7_earshot_18 : decode cX7_earshot 18 = .ok (.getfield 19, 3) := by decide +kernel
theorem dX7_earshot_21 : decode cX7_earshot 21 = .ok (.getfield 248, 3) := by decide +kernel
theorem dX7_earshot_24 : decode cX7_earshot 24 = .ok (.if_icmp .ge 50, 3) := by decide +kernel
theorem dX7_earshot_27 : decode cX7_earshot 27 = .ok (.aload_n 0, 1) := by decide +kernel
theorem dX7_earshot_28 : decode cX7_earshot 28 = .ok (.getfield 19, 3) := by decide +kernel
theorem dX7_earshot_31 : decode cX7_earshot 31 = .ok (.getfield 167, 3) := by decide +kernel
theorem dX7_earshot_34 : decode cX7_earshot 34 = .ok (.iload_n 3, 1) := by decide +kernel
theorem dX7_earshot_35 : decode cX7_earshot 35 = .ok (.aaload, 1) := by decide +kernel
theorem dX7_earshot_36 : decode cX7_earshot 36 = .ok (.iload 4, 2) := by decide +kernel
theorem dX7_earshot_38 : decode cX7_earshot 38 = .ok (.iaload, 1) := by decide +kernel
theorem dX7_earshot_39 : decode cX7_earshot 39 = .ok (.istore 5, 2) := by decide +kernel
theorem dX7_earshot_41 : decode cX7_earshot 41 = .ok (.iload 5, 2) := by decide +kernel
theorem dX7_earshot_43 : decode cX7_earshot 43 = .ok (.iconst (-1), 1) := by decide +kernel
theorem dX7_earshot_44 : decode cX7_earshot 44 = .ok (.if_icmp .eq 24, 3) := by decide +kernel
theorem dX7_earshot_47 : decode cX7_earshot 47 = .ok (.iload 5, 2) := by decide +kernel
theorem dX7_earshot_49 : decode cX7_earshot 49 = .ok (.aload_n 0, 1) := by decide +kernel
theorem dX7_earshot_50 : decode cX7_earshot 50 = .ok (.getfield 26, 3) := by decide +kernel
theorem dX7_earshot_53 : decode cX7_earshot 53 = .ok (.getfield 127, 3) := by decide +kernel
theorem dX7_earshot_56 : decode cX7_earshot 56 = .ok (.iload_n 1, 1) := by decide +kernel
theorem dX7_earshot_57 : decode cX7_earshot 57 = .ok (.iaload, 1) := by decide +kernel
theorem dX7_earshot_58 : decode cX7_earshot 58 = .ok (.if_icmp .gt 10, 3) := by decide +kernel
theorem dX7_earshot_61 : decode cX7_earshot 61 = .ok (.iload_n 2, 1) := by decide +kernel
theorem dX7_earshot_62 : decode cX7_earshot 62 = .ok (.iconst 1, 1) := by decide +kernel
theorem dX7_earshot_63 : decode cX7_earshot 63 = .ok (.iload 4, 2) := by decide +kernel
theorem dX7_earshot_65 : decode cX7_earshot 65 = .ok (.ishl, 1) := by decide +kernel
theorem dX7_earshot_66 : decode cX7_earshot 66 = .ok (.ior, 1) := by decide +kernel
theorem dX7_earshot_67 : decode cX7_earshot 67 = .ok (.istore_n 2, 1) := by decide +kernel
theorem dX7_earshot_68 : decode cX7_earshot 68 = .ok (.iinc 4 1, 3) := by decide +kernel
theorem dX7_earshot_71 : decode cX7_earshot 71 = .ok (.goto (-56), 3) := by decide +kernel
theorem dX7_earshot_74 : decode cX7_earshot 74 = .ok (.iload_n 2, 1) := by decide +kernel
theorem dX7_earshot_75 : decode cX7_earshot 75 = .ok (.ireturn, 1) := by decide +kernel
theorem dX7_hearersNumber_0 : decode cX7_hearersNumber 0 = .ok (.iconst 0, 1) := by decide +kernel
theorem dX7_hearersNumber_1 : decode cX7_hearersNumber 1 = .ok (.istore_n 1, 1) := by decide +kernel
theorem dX7_hearersNumber_2 : decode cX7_hearersNumber 2 = .ok (.iconst 0, 1) := by decide +kernel
theorem dX7_hearersNumber_3 : decode cX7_hearersNumber 3 = .ok (.istore_n 2, 1) := by decide +kernel
theorem dX7_hearersNumber_4 : decode cX7_hearersNumber 4 = .ok (.iload_n 2, 1) := by decide +kernel
theorem dX7_hearersNumber_5 : decode cX7_hearersNumber 5 = .ok (.aload_n 0, 1) := by decide +kernel
theorem dX7_hearersNumber_6 : decode cX7_hearersNumber 6 = .ok (.getfield 26, 3) := by decide +kernel
theorem dX7_hearersNumber_9 : decode cX7_hearersNumber 9 = .ok (.getfield 113, 3) := by decide +kernel
theorem dX7_hearersNumber_12 : decode cX7_hearersNumber 12 = .ok (.if_icmp .ge 25, 3) := by decide +kernel
theorem dX7_hearersNumber_15 : decode cX7_hearersNumber 15 = .ok (.iload_n 1, 1) := by decide +kernel
theorem dX7_hearersNumber_16 : decode cX7_hearersNumber 16 = .ok (.aload_n 0, 1) := by decide +kernel
theorem dX7_hearersNumber_17 : decode cX7_hearersNumber 17 = .ok (.iload_n 2, 1) := by decide +kernel
theorem dX7_hearersNumber_18 : decode cX7_hearersNumber 18 = .ok (.invokevirtual 139, 3) := by decide +kernel
theorem dX7_hearersNumber_21 : decode cX7_hearersNumber 21 = .ok (.ifCond .eq 7, 3) := by decide +kernel
theorem dX7_hearersNumber_24 : decode cX7_hearersNumber 24 = .ok (.iconst 1, 1) := by decide +kernel
theorem dX7_hearersNumber_25 : decode cX7_hearersNumber 25 = .ok (.goto 4, 3) := by decide +kernel
theorem dX7_hearersNumber_28 : decode cX7_hearersNumber 28 = .ok (.iconst 0, 1) := by decide +kernel
theorem dX7_hearersNumber_29 : decode cX7_hearersNumber 29 = .ok (.iadd, 1) := by decide +kernel
theorem dX7_hearersNumber_30 : decode cX7_hearersNumber 30 = .ok (.istore_n 1, 1) := by decide +kernel
theorem dX7_hearersNumber_31 : decode cX7_hearersNumber 31 = .ok (.iinc 2 1, 3) := by decide +kernel
theorem dX7_hearersNumber_34 : decode cX7_hearersNumber 34 = .ok (.goto (-30), 3) := by decide +kernel
theorem dX7_hearersNumber_37 : decode cX7_hearersNumber 37 = .ok (.iload_n 1, 1) := by decide +kernel
theorem dX7_hearersNumber_38 : decode cX7_hearersNumber 38 = .ok (.ireturn, 1) := by decide +kernel
theorem dX7_soonest_0 : decode cX7_soonest 0 = .ok (.aload_n 0, 1) := by decide +kernel
theorem dX7_soonest_1 : decode cX7_soonest 1 = .ok (.getfield 36, 3) := by decide +kernel
theorem dX7_soonest_4 : decode cX7_soonest 4 = .ok (.iload_n 1, 1) := by decide +kernel
theorem dX7_soonest_5 : decode cX7_soonest 5 = .ok (.invokevirtual 130, 3) := by decide +kernel
theorem dX7_soonest_8 : decode cX7_soonest 8 = .ok (.ifCond .eq 5, 3) := by decide +kernel
theorem dX7_soonest_11 : decode cX7_soonest 11 = .ok (.iconst 0, 1) := by decide +kernel
theorem dX7_soonest_12 : decode cX7_soonest 12 = .ok (.ireturn, 1) := by decide +kernel
theorem dX7_soonest_13 : decode cX7_soonest 13 = .ok (.aload_n 0, 1) := by decide +kernel
theorem dX7_soonest_14 : decode cX7_soonest 14 = .ok (.getfield 19, 3) := by decide +kernel
theorem dX7_soonest_17 : decode cX7_soonest 17 = .ok (.getfield 167, 3) := by decide +kernel
theorem dX7_soonest_20 : decode cX7_soonest 20 = .ok (.aload_n 0, 1) := by decide +kernel
theorem dX7_soonest_21 : decode cX7_soonest 21 = .ok (.getfield 36, 3) := by decide +kernel
theorem dX7_soonest_24 : decode cX7_soonest 24 = .ok (.getfield 171, 3) := by decide +kernel
theorem dX7_soonest_27 : decode cX7_soonest 27 = .ok (.aaload, 1) := by decide +kernel
theorem dX7_soonest_28 : decode cX7_soonest 28 = .ok (.aload_n 0, 1) := by decide +kernel
theorem dX7_soonest_29 : decode cX7_soonest 29 = .ok (.getfield 26, 3) := by decide +kernel
theorem dX7_soonest_32 : decode cX7_soonest 32 = .ok (.getfield 121, 3) := by decide +kernel
theorem dX7_soonest_35 : decode cX7_soonest 35 = .ok (.iload_n 1, 1) := by decide +kernel
theorem dX7_soonest_36 : decode cX7_soonest 36 = .ok (.iaload, 1) := by decide +kernel
theorem dX7_soonest_37 : decode cX7_soonest 37 = .ok (.iaload, 1) := by decide +kernel
theorem dX7_soonest_38 : decode cX7_soonest 38 = .ok (.istore_n 2, 1) := by decide +kernel
theorem dX7_soonest_39 : decode cX7_soonest 39 = .ok (.iload_n 2, 1) := by decide +kernel
theorem dX7_soonest_40 : decode cX7_soonest 40 = .ok (.iconst (-1), 1) := by decide +kernel
theorem dX7_soonest_41 : decode cX7_soonest 41 = .ok (.if_icmp .ne 5, 3) := by decide +kernel
theorem dX7_soonest_44 : decode cX7_soonest 44 = .ok (.iconst (-1), 1) := by decide +kernel
theorem dX7_soonest_45 : decode cX7_soonest 45 = .ok (.ireturn, 1) := by decide +kernel
theorem dX7_soonest_46 : decode cX7_soonest 46 = .ok (.aload_n 0, 1) := by decide +kernel
theorem dX7_soonest_47 : decode cX7_soonest 47 = .ok (.getfield 36, 3) := by decide +kernel
theorem dX7_soonest_50 : decode cX7_soonest 50 = .ok (.getfield 133, 3) := by decide +kernel
theorem dX7_soonest_53 : decode cX7_soonest 53 = .ok (.iload_n 1, 1) := by decide +kernel
theorem dX7_soonest_54 : decode cX7_soonest 54 = .ok (.iaload, 1) := by decide +kernel
theorem dX7_soonest_55 : decode cX7_soonest 55 = .ok (.istore_n 3, 1) := by decide +kernel
theorem dX7_soonest_56 : decode cX7_soonest 56 = .ok (.iconst 1, 1) := by decide +kernel
theorem dX7_soonest_57 : decode cX7_soonest 57 = .ok (.istore 4, 2) := by decide +kernel
theorem dX7_soonest_59 : decode cX7_soonest 59 = .ok (.iload 4, 2) := by decide +kernel
theorem dX7_soonest_61 : decode cX7_soonest 61 = .ok (.bipush 40, 2) := by decide +kernel
theorem dX7_soonest_63 : decode cX7_soonest 63 = .ok (.if_icmp .gt 55, 3) := by decide +kernel
theorem dX7_soonest_66 : decode cX7_soonest 66 = .ok (.aload_n 0, 1) := by decide +kernel
theorem dX7_soonest_67 : decode cX7_soonest 67 = .ok (.getfield 26, 3) := by decide +kernel
theorem dX7_soonest_70 : decode cX7_soonest 70 = .ok (.iload_n 1, 1) := by decide +kernel
theorem dX7_soonest_71 : decode cX7_soonest 71 = .ok (.iload_n 3, 1) := by decide +kernel
theorem dX7_soonest_72 : decode cX7_soonest 72 = .ok (.iload 4, 2) := by decide +kernel
theorem dX7_soonest_74 : decode cX7_soonest 74 = .ok (.iload_n 2, 1) := by decide +kernel
theorem dX7_soonest_75 : decode cX7_soonest 75 = .ok (.if_icmp .lt 7, 3) := by decide +kernel
theorem dX7_soonest_78 : decode cX7_soonest 78 = .ok (.iconst 1, 1) := by decide +kernel
theorem dX7_soonest_79 : decode cX7_soonest 79 = .ok (.goto 4, 3) := by decide +kernel
theorem dX7_soonest_82 : decode cX7_soonest 82 = .ok (.iconst 0, 1) := by decide +kernel
theorem dX7_soonest_83 : decode cX7_soonest 83 = .ok (.aload_n 0, 1) := by decide +kernel
theorem dX7_soonest_84 : decode cX7_soonest 84 = .ok (.getfield 36, 3) := by decide +kernel
theorem dX7_soonest_87 : decode cX7_soonest 87 = .ok (.getfield 180, 3) := by decide +kernel
theorem dX7_soonest_90 : decode cX7_soonest 90 = .ok (.iload 4, 2) := by decide +kernel
theorem dX7_soonest_92 : decode cX7_soonest 92 = .ok (.iadd, 1) := by decide +kernel
theorem dX7_soonest_93 : decode cX7_soonest 93 = .ok (.invokevirtual 295, 3) := by decide +kernel
theorem dX7_soonest_96 : decode cX7_soonest 96 = .ok (.istore_n 3, 1) := by decide +kernel
theorem dX7_soonest_97 : decode cX7_soonest 97 = .ok (.iload_n 3, 1) := by decide +kernel
theorem dX7_soonest_98 : decode cX7_soonest 98 = .ok (.aload_n 0, 1) := by decide +kernel
theorem dX7_soonest_99 : decode cX7_soonest 99 = .ok (.getfield 26, 3) := by decide +kernel
theorem dX7_soonest_102 : decode cX7_soonest 102 = .ok (.iload_n 1, 1) := by decide +kernel
theorem dX7_soonest_103 : decode cX7_soonest 103 = .ok (.invokevirtual 136, 3) := by decide +kernel
theorem dX7_soonest_106 : decode cX7_soonest 106 = .ok (.if_icmp .lt 6, 3) := by decide +kernel
theorem dX7_soonest_109 : decode cX7_soonest 109 = .ok (.iload 4, 2) := by decide +kernel
theorem dX7_soonest_111 : decode cX7_soonest 111 = .ok (.ireturn, 1) := by decide +kernel
theorem dX7_soonest_112 : decode cX7_soonest 112 = .ok (.iinc 4 1, 3) := by decide +kernel
theorem dX7_soonest_115 : decode cX7_soonest 115 = .ok (.goto (-56), 3) := by decide +kernel
theorem dX7_soonest_118 : decode cX7_soonest 118 = .ok (.iconst (-1), 1) := by decide +kernel
theorem dX7_soonest_119 : decode cX7_soonest 119 = .ok (.ireturn, 1) := by decide +kernel
theorem dX7_possibleCorners_0 : decode cX7_possibleCorners 0 = .ok (.iconst 1, 1) := by decide +kernel
theorem dX7_possibleCorners_1 : decode cX7_possibleCorners 1 = .ok (.aload_n 0, 1) := by decide +kernel
theorem dX7_possibleCorners_2 : decode cX7_possibleCorners 2 = .ok (.getfield 19, 3) := by decide +kernel
theorem dX7_possibleCorners_5 : decode cX7_possibleCorners 5 = .ok (.getfield 248, 3) := by decide +kernel
theorem dX7_possibleCorners_8 : decode cX7_possibleCorners 8 = .ok (.ishl, 1) := by decide +kernel
theorem dX7_possibleCorners_9 : decode cX7_possibleCorners 9 = .ok (.iconst 1, 1) := by decide +kernel
theorem dX7_possibleCorners_10 : decode cX7_possibleCorners 10 = .ok (.isub, 1) := by decide +kernel
theorem dX7_possibleCorners_11 : decode cX7_possibleCorners 11 = .ok (.istore_n 1, 1) := by decide +kernel
theorem dX7_possibleCorners_12 : decode cX7_possibleCorners 12 = .ok (.iconst 0, 1) := by decide +kernel
theorem dX7_possibleCorners_13 : decode cX7_possibleCorners 13 = .ok (.istore_n 2, 1) := by decide +kernel
theorem dX7_possibleCorners_14 : decode cX7_possibleCorners 14 = .ok (.iload_n 2, 1) := by decide +kernel
theorem dX7_possibleCorners_15 : decode cX7_possibleCorners 15 = .ok (.aload_n 0, 1) := by decide +kernel
theorem dX7_possibleCorners_16 : decode cX7_possibleCorners 16 = .ok (.getfield 49, 3) := by decide +kernel
theorem dX7_possibleCorners_19 : decode cX7_possibleCorners 19 = .ok (.getfield 105, 3) := by decide +kernel
theorem dX7_possibleCorners_22 : decode cX7_possibleCorners 22 = .ok (.if_icmp .ge 45, 3) := by decide +kernel
theorem dX7_possibleCorners_25 : decode cX7_possibleCorners 25 = .ok (.aload_n 0, 1) := by decide +kernel
theorem dX7_possibleCorners_26 : decode cX7_possibleCorners 26 = .ok (.aload_n 0, 1) := by decide +kernel
theorem dX7_possibleCorners_27 : decode cX7_possibleCorners 27 = .ok (.getfield 49, 3) := by decide +kernel
theorem dX7_possibleCorners_30 : decode cX7_possibleCorners 30 = .ok (.getfield 218, 3) := by decide +kernel
theorem dX7_possibleCorners_33 : decode cX7_possibleCorners 33 = .ok (.iload_n 2, 1) := by decide +kernel
theorem dX7_possibleCorners_34 : decode cX7_possibleCorners 34 = .ok (.iaload, 1) := by decide +kernel
theorem dX7_possibleCorners_35 : decode cX7_possibleCorners 35 = .ok (.invokevirtual 292, 3) := by decide +kernel
theorem dX7_possibleCorners_38 : decode cX7_possibleCorners 38 = .ok (.istore_n 3, 1) := by decide +kernel
theorem dX7_possibleCorners_39 : decode cX7_possibleCorners 39 = .ok (.iload_n 1, 1) := by decide +kernel
theorem dX7_possibleCorners_40 : decode cX7_possibleCorners 40 = .ok (.aload_n 0, 1) := by decide +kernel
theorem dX7_possibleCorners_41 : decode cX7_possibleCorners 41 = .ok (.getfield 49, 3) := by decide +kernel
theorem dX7_possibleCorners_44 : decode cX7_possibleCorners 44 = .ok (.getfield 221, 3) := by decide +kernel
theorem dX7_possibleCorners_47 : decode cX7_possibleCorners 47 = .ok (.iload_n 2, 1) := by decide +kernel
theorem dX7_possibleCorners_48 : decode cX7_possibleCorners 48 = .ok (.baload, 1) := by decide +kernel
theorem dX7_possibleCorners_49 : decode cX7_possibleCorners 49 = .ok (.ifCond .eq 7, 3) := by decide +kernel
theorem dX7_possibleCorners_52 : decode cX7_possibleCorners 52 = .ok (.iload_n 3, 1) := by decide +kernel
theorem dX7_possibleCorners_53 : decode cX7_possibleCorners 53 = .ok (.goto 6, 3) := by decide +kernel
theorem dX7_possibleCorners_56 : decode cX7_possibleCorners 56 = .ok (.iload_n 3, 1) := by decide +kernel
theorem dX7_possibleCorners_57 : decode cX7_possibleCorners 57 = .ok (.iconst (-1), 1) := by decide +kernel
theorem dX7_possibleCorners_58 : decode cX7_possibleCorners 58 = .ok (.ixor, 1) := by decide +kernel
theorem dX7_possibleCorners_59 : decode cX7_possibleCorners 59 = .ok (.iand, 1) := by decide +kernel
theorem dX7_possibleCorners_60 : decode cX7_possibleCorners 60 = .ok (.istore_n 1, 1) := by decide +kernel
theorem dX7_possibleCorners_61 : decode cX7_possibleCorners 61 = .ok (.iinc 2 1, 3) := by decide +kernel
theorem dX7_possibleCorners_64 : decode cX7_possibleCorners 64 = .ok (.goto (-50), 3) := by decide +kernel
theorem dX7_possibleCorners_67 : decode cX7_possibleCorners 67 = .ok (.iload_n 1, 1) := by decide +kernel
theorem dX7_possibleCorners_68 : decode cX7_possibleCorners 68 = .ok (.ireturn, 1) := by decide +kernel
theorem dX7_bestWitness_0 : decode cX7_bestWitness 0 = .ok (.iload_n 1, 1) := by decide +kernel
theorem dX7_bestWitness_1 : decode cX7_bestWitness 1 = .ok (.invokestatic 299, 3) := by decide +kernel
theorem dX7_bestWitness_4 : decode cX7_bestWitness 4 = .ok (.istore_n 2, 1) := by decide +kernel
theorem dX7_bestWitness_5 : decode cX7_bestWitness 5 = .ok (.iload_n 2, 1) := by decide +kernel
theorem dX7_bestWitness_6 : decode cX7_bestWitness 6 = .ok (.ifCond .ne 5, 3) := by decide +kernel
theorem dX7_bestWitness_9 : decode cX7_bestWitness 9 = .ok (.iconst (-1), 1) := by decide +kernel
theorem dX7_bestWitness_10 : decode cX7_bestWitness 10 = .ok (.ireturn, 1) := by decide +kernel
theorem dX7_bestWitness_11 : decode cX7_bestWitness 11 = .ok (.iconst (-1), 1) := by decide +kernel
theorem dX7_bestWitness_12 : decode cX7_bestWitness 12 = .ok (.istore_n 3, 1) := by decide +kernel
theorem dX7_bestWitness_13 : decode cX7_bestWitness 13 = .ok (.iload_n 2, 1) := by decide +kernel
theorem dX7_bestWitness_14 : decode cX7_bestWitness 14 = .ok (.iconst 1, 1) := by decide +kernel
theorem dX7_bestWitness_15 : decode cX7_bestWitness 15 = .ok (.iadd, 1) := by decide +kernel
theorem dX7_bestWitness_16 : decode cX7_bestWitness 16 = .ok (.istore 4, 2) := by decide +kernel
theorem dX7_bestWitness_18 : decode cX7_bestWitness 18 = .ok (.iconst 0, 1) := by decide +kernel
theorem dX7_bestWitness_19 : decode cX7_bestWitness 19 = .ok (.istore 5, 2) := by decide +kernel
theorem dX7_bestWitness_21 : decode cX7_bestWitness 21 = .ok (.iload 5, 2) := by decide +kernel
theorem dX7_bestWitness_23 : decode cX7_bestWitness 23 = .ok (.aload_n 0, 1) := by decide +kernel
theorem dX7_bestWitness_24 : decode cX7_bestWitness 24 = .ok (.getfield 26, 3) := by decide +kernel
theorem dX7_bestWitness_27 : decode cX7_bestWitness 27 = .ok (.getfield 113, 3) := by decide +kernel
theorem dX7_bestWitness_30 : decode cX7_bestWitness 30 = .ok (.if_icmp .ge 47, 3) := by decide +kernel
theorem dX7_bestWitness_33 : decode cX7_bestWitness 33 = .ok (.iload_n 1, 1) := by decide +kernel
theorem dX7_bestWitness_34 : decode cX7_bestWitness 34 = .ok (.aload_n 0, 1) := by decide +kernel
theorem dX7_bestWitness_35 : decode cX7_bestWitness 35 = .ok (.iload 5, 2) := by decide +kernel
theorem dX7_bestWitness_37 : decode cX7_bestWitness 37 = .ok (.invokevirtual 292, 3) := by decide +kernel
theorem dX7_bestWitness_40 : decode cX7_bestWitness 40 = .ok (.iand, 1) := by decide +kernel
theorem dX7_bestWitness_41 : decode cX7_bestWitness 41 = .ok (.invokestatic 299, 3) := by decide +kernel
theorem dX7_bestWitness_44 : decode cX7_bestWitness 44 = .ok (.istore 6, 2) := by decide +kernel
theorem dX7_bestWitness_46 : decode cX7_bestWitness 46 = .ok (.iload 6, 2) := by decide +kernel
theorem dX7_bestWitness_48 : decode cX7_bestWitness 48 = .ok (.iload_n 2, 1) := by decide +kernel
theorem dX7_bestWitness_49 : decode cX7_bestWitness 49 = .ok (.iload 6, 2) := by decide +kernel
theorem dX7_bestWitness_51 : decode cX7_bestWitness 51 = .ok (.isub, 1) := by decide +kernel
theorem dX7_bestWitness_52 : decode cX7_bestWitness 52 = .ok (.invokestatic 304, 3) := by decide +kernel
theorem dX7_bestWitness_55 : decode cX7_bestWitness 55 = .ok (.istore 7, 2) := by decide +kernel
theorem dX7_bestWitness_57 : decode cX7_bestWitness 57 = .ok (.iload 7, 2) := by decide +kernel
theorem dX7_bestWitness_59 : decode cX7_bestWitness 59 = .ok (.iload 4, 2) := by decide +kernel
theorem dX7_bestWitness_61 : decode cX7_bestWitness 61 = .ok (.if_icmp .ge 10, 3) := by decide +kernel
theorem dX7_bestWitness_64 : decode cX7_bestWitness 64 = .ok (.iload 7, 2) := by decide +kernel
theorem dX7_bestWitness_66 : decode cX7_bestWitness 66 = .ok (.istore 4, 2) := by decide +kernel
theorem dX7_bestWitness_68 : decode cX7_bestWitness 68 = .ok (.iload 5, 2) := by decide +kernel
theorem dX7_bestWitness_70 : decode cX7_bestWitness 70 = .ok (.istore_n 3, 1) := by decide +kernel
theorem dX7_bestWitness_71 : decode cX7_bestWitness 71 = .ok (.iinc 5 1, 3) := by decide +kernel
theorem dX7_bestWitness_74 : decode cX7_bestWitness 74 = .ok (.goto (-53), 3) := by decide +kernel
theorem dX7_bestWitness_77 : decode cX7_bestWitness 77 = .ok (.iload_n 3, 1) := by decide +kernel
theorem dX7_bestWitness_78 : decode cX7_bestWitness 78 = .ok (.ireturn, 1) := by decide +kernel
theorem dX7_drift_0 : decode cX7_drift 0 = .ok (.iload_n 2, 1) := by decide +kernel
theorem dX7_drift_1 : decode cX7_drift 1 = .ok (.i2l, 1) := by decide +kernel
theorem dX7_drift_2 : decode cX7_drift 2 = .ok (.lstore_n 3, 1) := by decide +kernel
theorem dX7_drift_3 : decode cX7_drift 3 = .ok (.iconst 0, 1) := by decide +kernel
theorem dX7_drift_4 : decode cX7_drift 4 = .ok (.istore 5, 2) := by decide +kernel
theorem dX7_drift_6 : decode cX7_drift 6 = .ok (.iload 5, 2) := by decide +kernel
theorem dX7_drift_8 : decode cX7_drift 8 = .ok (.iload_n 1, 1) := by decide +kernel
theorem dX7_drift_9 : decode cX7_drift 9 = .ok (.if_icmp .ge 78, 3) := by decide +kernel
theorem dX7_drift_12 : decode cX7_drift 12 = .ok (.aload_n 0, 1) := by decide +kernel
theorem dX7_drift_13 : decode cX7_drift 13 = .ok (.getfield 19, 3) := by decide +kernel
theorem dX7_drift_16 : decode cX7_drift 16 = .ok (.getfield 149, 3) := by decide +kernel
theorem dX7_drift_19 : decode cX7_drift 19 = .ok (.ifCond .le 68, 3) := by decide +kernel
theorem dX7_drift_22 : decode cX7_drift 22 = .ok (.ldc2_w 309, 3) := by decide +kernel
theorem dX7_drift_25 : decode cX7_drift 25 = .ok (.lload_n 3, 1) := by decide +kernel
theorem dX7_drift_26 : decode cX7_drift 26 = .ok (.lmul, 1) := by decide +kernel
theorem dX7_drift_27 : decode cX7_drift 27 = .ok (.ldc2_w 311, 3) := by decide +kernel
theorem dX7_drift_30 : decode cX7_drift 30 = .ok (.ladd, 1) := by decide +kernel
theorem dX7_drift_31 : decode cX7_drift 31 = .ok (.ldc2_w 313, 3) := by decide +kernel
theorem dX7_drift_34 : decode cX7_drift 34 = .ok (.land, 1) := by decide +kernel
theorem dX7_drift_35 : decode cX7_drift 35 = .ok (.lstore_n 3, 1) := by decide +kernel
theorem dX7_drift_36 : decode cX7_drift 36 = .ok (.lload_n 3, 1) := by decide +kernel
theorem dX7_drift_37 : decode cX7_drift 37 = .ok (.ldc2_w 315, 3) := by decide +kernel
theorem dX7_drift_40 : decode cX7_drift 40 = .ok (.ldiv, 1) := by decide +kernel
theorem dX7_drift_41 : decode cX7_drift 41 = .ok (.aload_n 0, 1) := by decide +kernel
theorem dX7_drift_42 : decode cX7_drift 42 = .ok (.getfield 19, 3) := by decide +kernel
theorem dX7_drift_45 : decode cX7_drift 45 = .ok (.getfield 149, 3) := by decide +kernel
theorem dX7_drift_48 : decode cX7_drift 48 = .ok (.i2l, 1) := by decide +kernel
theorem dX7_drift_49 : decode cX7_drift 49 = .ok (.lrem, 1) := by decide +kernel
theorem dX7_drift_50 : decode cX7_drift 50 = .ok (.l2i, 1) := by decide +kernel
theorem dX7_drift_51 : decode cX7_drift 51 = .ok (.istore 6, 2) := by decide +kernel
theorem dX7_drift_53 : decode cX7_drift 53 = .ok (.aload_n 0, 1) := by decide +kernel
theorem dX7_drift_54 : decode cX7_drift 54 = .ok (.getfield 43, 3) := by decide +kernel
theorem dX7_drift_57 : decode cX7_drift 57 = .ok (.aload_n 0, 1) := by decide +kernel
theorem dX7_drift_58 : decode cX7_drift 58 = .ok (.getfield 19, 3) := by decide +kernel
theorem dX7_drift_61 : decode cX7_drift 61 = .ok (.iload 6, 2) := by decide +kernel
theorem dX7_drift_63 : decode cX7_drift 63 = .ok (.aload_n 0, 1) := by decide +kernel
theorem dX7_drift_64 : decode cX7_drift 64 = .ok (.getfield 43, 3) := by decide +kernel
theorem dX7_drift_67 : decode cX7_drift 67 = .ok (.getfield 171, 3) := by decide +kernel
theorem dX7_drift_70 : decode cX7_drift 70 = .ok (.invokevirtual 317, 3) := by decide +kernel
theorem dX7_drift_73 : decode cX7_drift 73 = .ok (.aload_n 0, 1) := by decide +kernel
theorem dX7_drift_74 : decode cX7_drift 74 = .ok (.getfield 26, 3) := by decide +kernel
theorem dX7_drift_77 : decode cX7_drift 77 = .ok (.invokevirtual 183, 3) := by decide +kernel
theorem dX7_drift_80 : decode cX7_drift 80 = .ok (.pop, 1) := by decide +kernel
theorem dX7_drift_81 : decode cX7_drift 81 = .ok (.iinc 5 1, 3) := by decide +kernel
theorem dX7_drift_84 : decode cX7_drift 84 = .ok (.goto (-78), 3) := by decide +kernel
theorem dX7_drift_87 : decode cX7_drift 87 = .ok (.lload_n 3, 1) := by decide +kernel
theorem dX7_drift_88 : decode cX7_drift 88 = .ok (.l2i, 1) := by decide +kernel
theorem dX7_drift_89 : decode cX7_drift 89 = .ok (.ireturn, 1) := by decide +kernel
theorem dX7_isWithin_0 : decode cX7_isWithin 0 = .ok (.iload_n 0, 1) := by decide +kernel
theorem dX7_isWithin_1 : decode cX7_isWithin 1 = .ok (.iload_n 1, 1) := by decide +kernel
theorem dX7_isWithin_2 : decode cX7_isWithin 2 = .ok (.if_icmp .lt 12, 3) := by decide +kernel
theorem dX7_isWithin_5 : decode cX7_isWithin 5 = .ok (.iload_n 0, 1) := by decide +kernel
theorem dX7_isWithin_6 : decode cX7_isWithin 6 = .ok (.iload_n 2, 1) := by decide +kernel
theorem dX7_isWithin_7 : decode cX7_isWithin 7 = .ok (.if_icmp .gt 7, 3) := by decide +kernel
theorem dX7_isWithin_10 : decode cX7_isWithin 10 = .ok (.iconst 1, 1) := by decide +kernel
theorem dX7_isWithin_11 : decode cX7_isWithin 11 = .ok (.goto 4, 3) := by decide +kernel
theorem dX7_isWithin_14 : decode cX7_isWithin 14 = .ok (.iconst 0, 1) := by decide +kernel
theorem dX7_isWithin_15 : decode cX7_isWithin 15 = .ok (.ireturn, 1) := by decide +kernel
theorem dX7_hasBit_0 : decode cX7_hasBit 0 = .ok (.iload_n 0, 1) := by decide +kernel
theorem dX7_hasBit_1 : decode cX7_hasBit 1 = .ok (.iload_n 1, 1) := by decide +kernel
theorem dX7_hasBit_2 : decode cX7_hasBit 2 = .ok (.ishr, 1) := by decide +kernel
theorem dX7_hasBit_3 : decode cX7_hasBit 3 = .ok (.iconst 1, 1) := by decide +kernel
theorem dX7_hasBit_4 : decode cX7_hasBit 4 = .ok (.iand, 1) := by decide +kernel
theorem dX7_hasBit_5 : decode cX7_hasBit 5 = .ok (.ifCond .eq 7, 3) := by decide +kernel
theorem dX7_hasBit_8 : decode cX7_hasBit 8 = .ok (.iconst 1, 1) := by decide +kernel
theorem dX7_hasBit_9 : decode cX7_hasBit 9 = .ok (.goto 4, 3) := by decide +kernel
theorem dX7_hasBit_12 : decode cX7_hasBit 12 = .ok (.iconst 0, 1) := by decide +kernel
theorem dX7_hasBit_13 : decode cX7_hasBit 13 = .ok (.ireturn, 1) := by decide +kernel
theorem dX7_mix_0 : decode cX7_mix 0 = .ok (.ldc2_w 320, 3) := by decide +kernel
theorem dX7_mix_3 : decode cX7_mix 3 = .ok (.lload_n 0, 1) := by decide +kernel
theorem dX7_mix_4 : decode cX7_mix 4 = .ok (.lmul, 1) := by decide +kernel
theorem dX7_mix_5 : decode cX7_mix 5 = .ok (.lload_n 2, 1) := by decide +kernel
theorem dX7_mix_6 : decode cX7_mix 6 = .ok (.ladd, 1) := by decide +kernel
theorem dX7_mix_7 : decode cX7_mix 7 = .ok (.lreturn, 1) := by decide +kernel
