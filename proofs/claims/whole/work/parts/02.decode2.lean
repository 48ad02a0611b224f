theorem dX9_part_39 : decode cX9_part 39 = .ok (.iload_n 3, 1) := by decide +kernel
theorem dX9_part_40 : decode cX9_part 40 = .ok (.bipush 60, 2) := by decide +kernel
theorem dX9_part_42 : decode cX9_part 42 = .ok (.if_icmp .ne 5, 3) := by decide +kernel
theorem dX9_part_45 : decode cX9_part 45 = .ok (.iconst 0, 1) := by decide +kernel
theorem dX9_part_46 : decode cX9_part 46 = .ok (.ireturn, 1) := by decide +kernel
theorem dX9_part_47 : decode cX9_part 47 = .ok (.iload_n 3, 1) := by decide +kernel
theorem dX9_part_48 : decode cX9_part 48 = .ok (.iload_n 1, 1) := by decide +kernel
theorem dX9_part_49 : decode cX9_part 49 = .ok (.if_icmp .ne 13, 3) := by decide +kernel
theorem dX9_part_52 : decode cX9_part 52 = .ok (.aload_n 0, 1) := by decide +kernel
theorem dX9_part_53 : decode cX9_part 53 = .ok (.getfield 82, 3) := by decide +kernel
theorem dX9_part_56 : decode cX9_part 56 = .ok (.iload_n 1, 1) := by decide +kernel
theorem dX9_part_57 : decode cX9_part 57 = .ok (.iload_n 2, 1) := by decide +kernel
theorem dX9_part_58 : decode cX9_part 58 = .ok (.iastore, 1) := by decide +kernel
theorem dX9_part_59 : decode cX9_part 59 = .ok (.iinc 1 1, 3) := by decide +kernel
theorem dX9_part_62 : decode cX9_part 62 = .ok (.aload_n 0, 1) := by decide +kernel
theorem dX9_part_63 : decode cX9_part 63 = .ok (.getfield 79, 3) := by decide +kernel
theorem dX9_part_66 : decode cX9_part 66 = .ok (.iload_n 2, 1) := by decide +kernel
theorem dX9_part_67 : decode cX9_part 67 = .ok (.iload_n 3, 1) := by decide +kernel
theorem dX9_part_68 : decode cX9_part 68 = .ok (.iastore, 1) := by decide +kernel
theorem dX9_part_69 : decode cX9_part 69 = .ok (.iinc 2 1, 3) := by decide +kernel
theorem dX9_part_72 : decode cX9_part 72 = .ok (.goto (-68), 3) := by decide +kernel
theorem dX9_part_75 : decode cX9_part 75 = .ok (.iconst 0, 1) := by decide +kernel
theorem dX9_part_76 : decode cX9_part 76 = .ok (.istore_n 2, 1) := by decide +kernel
theorem dX9_part_77 : decode cX9_part 77 = .ok (.iload_n 2, 1) := by decide +kernel
theorem dX9_part_78 : decode cX9_part 78 = .ok (.aload_n 0, 1) := by decide +kernel
theorem dX9_part_79 : decode cX9_part 79 = .ok (.getfield 218, 3) := by decide +kernel
theorem dX9_part_82 : decode cX9_part 82 = .ok (.if_icmp .ge 21, 3) := by decide +kernel
theorem dX9_part_85 : decode cX9_part 85 = .ok (.aload_n 0, 1) := by decide +kernel
theorem dX9_part_86 : decode cX9_part 86 = .ok (.getfield 76, 3) := by decide +kernel
theorem dX9_part_89 : decode cX9_part 89 = .ok (.iload_n 2, 1) := by decide +kernel
theorem dX9_part_90 : decode cX9_part 90 = .ok (.aload_n 0, 1) := by decide +kernel
theorem dX9_part_91 : decode cX9_part 91 = .ok (.getfield 79, 3) := by decide +kernel
theorem dX9_part_94 : decode cX9_part 94 = .ok (.iload_n 2, 1) := by decide +kernel
theorem dX9_part_95 : decode cX9_part 95 = .ok (.iaload, 1) := by decide +kernel
theorem dX9_part_96 : decode cX9_part 96 = .ok (.iastore, 1) := by decide +kernel
theorem dX9_part_97 : decode cX9_part 97 = .ok (.iinc 2 1, 3) := by decide +kernel
theorem dX9_part_100 : decode cX9_part 100 = .ok (.goto (-23), 3) := by decide +kernel
theorem dX9_part_103 : decode cX9_part 103 = .ok (.aload_n 0, 1) := by decide +kernel
theorem dX9_part_104 : decode cX9_part 104 = .ok (.iload_n 1, 1) := by decide +kernel
theorem dX9_part_105 : decode cX9_part 105 = .ok (.putfield 228, 3) := by decide +kernel
theorem dX9_part_108 : decode cX9_part 108 = .ok (.iconst 1, 1) := by decide +kernel
theorem dX9_part_109 : decode cX9_part 109 = .ok (.ireturn, 1) := by decide +kernel
theorem dX9_least_0 : decode cX9_least 0 = .ok (.iconst 0, 1) := by decide +kernel
theorem dX9_least_1 : decode cX9_least 1 = .ok (.istore_n 1, 1) := by decide +kernel
theorem dX9_least_2 : decode cX9_least 2 = .ok (.iload_n 1, 1) := by decide +kernel
theorem dX9_least_3 : decode cX9_least 3 = .ok (.aload_n 0, 1) := by decide +kernel
theorem dX9_least_4 : decode cX9_least 4 = .ok (.getfield 218, 3) := by decide +kernel
theorem dX9_least_7 : decode cX9_least 7 = .ok (.if_icmp .ge 28, 3) := by decide +kernel
theorem dX9_least_10 : decode cX9_least 10 = .ok (.aload_n 0, 1) := by decide +kernel
theorem dX9_least_11 : decode cX9_least 11 = .ok (.getfield 76, 3) := by decide +kernel
theorem dX9_least_14 : decode cX9_least 14 = .ok (.iload_n 1, 1) := by decide +kernel
theorem dX9_least_15 : decode cX9_least 15 = .ok (.aload_n 0, 1) := by decide +kernel
theorem dX9_least_16 : decode cX9_least 16 = .ok (.iload_n 1, 1) := by decide +kernel
theorem dX9_least_17 : decode cX9_least 17 = .ok (.invokevirtual 231, 3) := by decide +kernel
theorem dX9_least_20 : decode cX9_least 20 = .ok (.ifCond .eq 7, 3) := by decide +kernel
theorem dX9_least_23 : decode cX9_least 23 = .ok (.iconst 1, 1) := by decide +kernel
theorem dX9_least_24 : decode cX9_least 24 = .ok (.goto 4, 3) := by decide +kernel
theorem dX9_least_27 : decode cX9_least 27 = .ok (.iconst 0, 1) := by decide +kernel
theorem dX9_least_28 : decode cX9_least 28 = .ok (.iastore, 1) := by decide +kernel
theorem dX9_least_29 : decode cX9_least 29 = .ok (.iinc 1 1, 3) := by decide +kernel
theorem dX9_least_32 : decode cX9_least 32 = .ok (.goto (-30), 3) := by decide +kernel
theorem dX9_least_35 : decode cX9_least 35 = .ok (.aload_n 0, 1) := by decide +kernel
theorem dX9_least_36 : decode cX9_least 36 = .ok (.iconst 0, 1) := by decide +kernel
theorem dX9_least_37 : decode cX9_least 37 = .ok (.putfield 228, 3) := by decide +kernel
theorem dX9_least_40 : decode cX9_least 40 = .ok (.iconst (-1), 1) := by decide +kernel
theorem dX9_least_41 : decode cX9_least 41 = .ok (.istore_n 1, 1) := by decide +kernel
theorem dX9_least_42 : decode cX9_least 42 = .ok (.aload_n 0, 1) := by decide +kernel
theorem dX9_least_43 : decode cX9_least 43 = .ok (.getfield 228, 3) := by decide +kernel
theorem dX9_least_46 : decode cX9_least 46 = .ok (.iload_n 1, 1) := by decide +kernel
theorem dX9_least_47 : decode cX9_least 47 = .ok (.if_icmp .eq 17, 3) := by decide +kernel
theorem dX9_least_50 : decode cX9_least 50 = .ok (.aload_n 0, 1) := by decide +kernel
theorem dX9_least_51 : decode cX9_least 51 = .ok (.getfield 228, 3) := by decide +kernel
theorem dX9_least_54 : decode cX9_least 54 = .ok (.istore_n 1, 1) := by decide +kernel
theorem dX9_least_55 : decode cX9_least 55 = .ok (.aload_n 0, 1) := by decide +kernel
theorem dX9_least_56 : decode cX9_least 56 = .ok (.invokevirtual 234, 3) := by decide +kernel
theorem dX9_least_59 : decode cX9_least 59 = .ok (.ifCond .ne (-17), 3) := by decide +kernel
theorem dX9_least_62 : decode cX9_least 62 = .ok (.iconst 0, 1) := by decide +kernel
theorem dX9_least_63 : decode cX9_least 63 = .ok (.ireturn, 1) := by decide +kernel
theorem dX9_least_64 : decode cX9_least 64 = .ok (.iconst 1, 1) := by decide +kernel
theorem dX9_least_65 : decode cX9_least 65 = .ok (.ireturn, 1) := by decide +kernel
theorem dX9_number_0 : decode cX9_number 0 = .ok (.iconst 0, 1) := by decide +kernel
theorem dX9_number_1 : decode cX9_number 1 = .ok (.istore_n 1, 1) := by decide +kernel
theorem dX9_number_2 : decode cX9_number 2 = .ok (.iload_n 1, 1) := by decide +kernel
theorem dX9_number_3 : decode cX9_number 3 = .ok (.aload_n 0, 1) := by decide +kernel
theorem dX9_number_4 : decode cX9_number 4 = .ok (.getfield 228, 3) := by decide +kernel
theorem dX9_number_7 : decode cX9_number 7 = .ok (.if_icmp .ge 17, 3) := by decide +kernel
theorem dX9_number_10 : decode cX9_number 10 = .ok (.aload_n 0, 1) := by decide +kernel
theorem dX9_number_11 : decode cX9_number 11 = .ok (.getfield 94, 3) := by decide +kernel
theorem dX9_number_14 : decode cX9_number 14 = .ok (.iload_n 1, 1) := by decide +kernel
theorem dX9_number_15 : decode cX9_number 15 = .ok (.bipush (-9), 2) := by decide +kernel
theorem dX9_number_17 : decode cX9_number 17 = .ok (.iastore, 1) := by decide +kernel
theorem dX9_number_18 : decode cX9_number 18 = .ok (.iinc 1 1, 3) := by decide +kernel
theorem dX9_number_21 : decode cX9_number 21 = .ok (.goto (-19), 3) := by decide +kernel
theorem dX9_number_24 : decode cX9_number 24 = .ok (.aload_n 0, 1) := by decide +kernel
theorem dX9_number_25 : decode cX9_number 25 = .ok (.iconst 1, 1) := by decide +kernel
theorem dX9_number_26 : decode cX9_number 26 = .ok (.putfield 237, 3) := by decide +kernel
theorem dX9_number_29 : decode cX9_number 29 = .ok (.aload_n 0, 1) := by decide +kernel
theorem dX9_number_30 : decode cX9_number 30 = .ok (.getfield 94, 3) := by decide +kernel
theorem dX9_number_33 : decode cX9_number 33 = .ok (.aload_n 0, 1) := by decide +kernel
theorem dX9_number_34 : decode cX9_number 34 = .ok (.getfield 76, 3) := by decide +kernel
theorem dX9_number_37 : decode cX9_number 37 = .ok (.iconst 0, 1) := by decide +kernel
theorem dX9_number_38 : decode cX9_number 38 = .ok (.iaload, 1) := by decide +kernel
theorem dX9_number_39 : decode cX9_number 39 = .ok (.iconst 0, 1) := by decide +kernel
theorem dX9_number_40 : decode cX9_number 40 = .ok (.iastore, 1) := by decide +kernel
theorem dX9_number_41 : decode cX9_number 41 = .ok (.aload_n 0, 1) := by decide +kernel
theorem dX9_number_42 : decode cX9_number 42 = .ok (.getfield 97, 3) := by decide +kernel
theorem dX9_number_45 : decode cX9_number 45 = .ok (.iconst 0, 1) := by decide +kernel
theorem dX9_number_46 : decode cX9_number 46 = .ok (.aload_n 0, 1) := by decide +kernel
theorem dX9_number_47 : decode cX9_number 47 = .ok (.getfield 76, 3) := by decide +kernel
theorem dX9_number_50 : decode cX9_number 50 = .ok (.iconst 0, 1) := by decide +kernel
theorem dX9_number_51 : decode cX9_number 51 = .ok (.iaload, 1) := by decide +kernel
theorem dX9_number_52 : decode cX9_number 52 = .ok (.iastore, 1) := by decide +kernel
theorem dX9_number_53 : decode cX9_number 53 = .ok (.iconst 0, 1) := by decide +kernel
theorem dX9_number_54 : decode cX9_number 54 = .ok (.istore_n 1, 1) := by decide +kernel
theorem dX9_number_55 : decode cX9_number 55 = .ok (.iload_n 1, 1) := by decide +kernel
theorem dX9_number_56 : decode cX9_number 56 = .ok (.aload_n 0, 1) := by decide +kernel
theorem dX9_number_57 : decode cX9_number 57 = .ok (.getfield 237, 3) := by decide +kernel
theorem dX9_number_60 : decode cX9_number 60 = .ok (.if_icmp .ge 123, 3) := by decide +kernel
theorem dX9_number_63 : decode cX9_number 63 = .ok (.aload_n 0, 1) := by decide +kernel
theorem dX9_number_64 : decode cX9_number 64 = .ok (.getfield 82, 3) := by decide +kernel
theorem dX9_number_67 : decode cX9_number 67 = .ok (.aload_n 0, 1) := by decide +kernel
theorem dX9_number_68 : decode cX9_number 68 = .ok (.getfield 97, 3) := by decide +kernel
theorem dX9_number_71 : decode cX9_number 71 = .ok (.iload_n 1, 1) := by decide +kernel
theorem dX9_number_72 : decode cX9_number 72 = .ok (.iaload, 1) := by decide +kernel
theorem dX9_number_73 : decode cX9_number 73 = .ok (.iaload, 1) := by decide +kernel
theorem dX9_number_74 : decode cX9_number 74 = .ok (.istore_n 2, 1) := by decide +kernel
theorem dX9_number_75 : decode cX9_number 75 = .ok (.aload_n 0, 1) := by decide +kernel
theorem dX9_number_76 : decode cX9_number 76 = .ok (.getfield 88, 3) := by decide +kernel
theorem dX9_number_79 : decode cX9_number 79 = .ok (.iload_n 1, 1) := by decide +kernel
theorem dX9_number_80 : decode cX9_number 80 = .ok (.aload_n 0, 1) := by decide +kernel
theorem dX9_number_81 : decode cX9_number 81 = .ok (.iload_n 2, 1) := by decide +kernel
theorem dX9_number_82 : decode cX9_number 82 = .ok (.invokevirtual 231, 3) := by decide +kernel
theorem dX9_number_85 : decode cX9_number 85 = .ok (.bastore, 1) := by decide +kernel
theorem dX9_number_86 : decode cX9_number 86 = .ok (.iconst 0, 1) := by decide +kernel
theorem dX9_number_87 : decode cX9_number 87 = .ok (.istore_n 3, 1) := by decide +kernel
theorem dX9_number_88 : decode cX9_number 88 = .ok (.iload_n 3, 1) := by decide +kernel
theorem dX9_number_89 : decode cX9_number 89 = .ok (.iconst 4, 1) := by decide +kernel
theorem dX9_number_90 : decode cX9_number 90 = .ok (.if_icmp .ge 87, 3) := by decide +kernel
theorem dX9_number_93 : decode cX9_number 93 = .ok (.aload_n 0, 1) := by decide +kernel
theorem dX9_number_94 : decode cX9_number 94 = .ok (.getfield 76, 3) := by decide +kernel
theorem dX9_number_97 : decode cX9_number 97 = .ok (.aload_n 0, 1) := by decide +kernel
theorem dX9_number_98 : decode cX9_number 98 = .ok (.getfield 64, 3) := by decide +kernel
theorem dX9_number_101 : decode cX9_number 101 = .ok (.iconst 4, 1) := by decide +kernel
theorem dX9_number_102 : decode cX9_number 102 = .ok (.iload_n 2, 1) := by decide +kernel
theorem dX9_number_103 : decode cX9_number 103 = .ok (.imul, 1) := by decide +kernel
theorem dX9_number_104 : decode cX9_number 104 = .ok (.iload_n 3, 1) := by decide +kernel
theorem dX9_number_105 : decode cX9_number 105 = .ok (.iadd, 1) := by decide +kernel
theorem dX9_number_106 : decode cX9_number 106 = .ok (.iaload, 1) := by decide +kernel
theorem dX9_number_107 : decode cX9_number 107 = .ok (.iaload, 1) := by decide +kernel
theorem dX9_number_108 : decode cX9_number 108 = .ok (.istore 4, 2) := by decide +kernel
theorem dX9_number_110 : decode cX9_number 110 = .ok (.aload_n 0, 1) := by decide +kernel
theorem dX9_number_111 : decode cX9_number 111 = .ok (.getfield 94, 3) := by decide +kernel
theorem dX9_number_114 : decode cX9_number 114 = .ok (.iload 4, 2) := by decide +kernel
theorem dX9_number_116 : decode cX9_number 116 = .ok (.iaload, 1) := by decide +kernel
theorem dX9_number_117 : decode cX9_number 117 = .ok (.bipush (-9), 2) := by decide +kernel
theorem dX9_number_119 : decode cX9_number 119 = .ok (.if_icmp .ne 35, 3) := by decide +kernel
theorem dX9_number_122 : decode cX9_number 122 = .ok (.aload_n 0, 1) := by decide +kernel
theorem dX9_number_123 : decode cX9_number 123 = .ok (.getfield 94, 3) := by decide +kernel
theorem dX9_number_126 : decode cX9_number 126 = .ok (.iload 4, 2) := by decide +kernel
theorem dX9_number_128 : decode cX9_number 128 = .ok (.aload_n 0, 1) := by decide +kernel
theorem dX9_number_129 : decode cX9_number 129 = .ok (.getfield 237, 3) := by decide +kernel
theorem dX9_number_132 : decode cX9_number 132 = .ok (.iastore, 1) := by decide +kernel
theorem dX9_number_133 : decode cX9_number 133 = .ok (.aload_n 0, 1) := by decide +kernel
theorem dX9_number_134 : decode cX9_number 134 = .ok (.getfield 97, 3) := by decide +kernel
theorem dX9_number_137 : decode cX9_number 137 = .ok (.aload_n 0, 1) := by decide +kernel
theorem dX9_number_138 : decode cX9_number 138 = .ok (.getfield 237, 3) := by decide +kernel
theorem dX9_number_141 : decode cX9_number 141 = .ok (.iload 4, 2) := by decide +kernel
theorem dX9_number_143 : decode cX9_number 143 = .ok (.iastore, 1) := by decide +kernel
theorem dX9_number_144 : decode cX9_number 144 = .ok (.aload_n 0, 1) := by decide +kernel
theorem dX9_number_145 : decode cX9_number 145 = .ok (.dup, 1) := by decide +kernel
theorem dX9_number_146 : decode cX9_number 146 = .ok (.getfield 237, 3) := by decide +kernel
theorem dX9_number_149 : decode cX9_number 149 = .ok (.iconst 1, 1) := by decide +kernel
theorem dX9_number_150 : decode cX9_number 150 = .ok (.iadd, 1) := by decide +kernel
theorem dX9_number_151 : decode cX9_number 151 = .ok (.putfield 237, 3) := by decide +kernel
theorem dX9_number_154 : decode cX9_number 154 = .ok (.aload_n 0, 1) := by decide +kernel
theorem dX9_number_155 : decode cX9_number 155 = .ok (.getfield 85, 3) := by decide +kernel
theorem dX9_number_158 : decode cX9_number 158 = .ok (.iconst 4, 1) := by decide +kernel
theorem dX9_number_159 : decode cX9_number 159 = .ok (.iload_n 1, 1) := by decide +kernel
theorem dX9_number_160 : decode cX9_number 160 = .ok (.imul, 1) := by decide +kernel
theorem dX9_number_161 : decode cX9_number 161 = .ok (.iload_n 3, 1) := by decide +kernel
theorem dX9_number_162 : decode cX9_number 162 = .ok (.iadd, 1) := by decide +kernel
theorem dX9_number_163 : decode cX9_number 163 = .ok (.aload_n 0, 1) := by decide +kernel
theorem dX9_number_164 : decode cX9_number 164 = .ok (.getfield 94, 3) := by decide +kernel
theorem dX9_number_167 : decode cX9_number 167 = .ok (.iload 4, 2) := by decide +kernel
theorem dX9_number_169 : decode cX9_number 169 = .ok (.iaload, 1) := by decide +kernel
theorem dX9_number_170 : decode cX9_number 170 = .ok (.iastore, 1) := by decide +kernel
theorem dX9_number_171 : decode cX9_number 171 = .ok (.iinc 3 1, 3) := by decide +kernel
theorem dX9_number_174 : decode cX9_number 174 = .ok (.goto (-86), 3) := by decide +kernel
theorem dX9_number_177 : decode cX9_number 177 = .ok (.iinc 1 1, 3) := by decide +kernel
theorem dX9_number_180 : decode cX9_number 180 = .ok (.goto (-125), 3) := by decide +kernel
theorem dX9_number_183 : decode cX9_number 183 = .ok (.iconst 0, 1) := by decide +kernel
theorem dX9_number_184 : decode cX9_number 184 = .ok (.istore_n 1, 1) := by decide +kernel
theorem dX9_number_185 : decode cX9_number 185 = .ok (.iload_n 1, 1) := by decide +kernel
theorem dX9_number_186 : decode cX9_number 186 = .ok (.aload_n 0, 1) := by decide +kernel
theorem dX9_number_187 : decode cX9_number 187 = .ok (.getfield 237, 3) := by decide +kernel
theorem dX9_number_190 : decode cX9_number 190 = .ok (.if_icmp .ge 109, 3) := by decide +kernel
theorem dX9_number_193 : decode cX9_number 193 = .ok (.aload_n 0, 1) := by decide +kernel
theorem dX9_number_194 : decode cX9_number 194 = .ok (.iload_n 1, 1) := by decide +kernel
theorem dX9_number_195 : decode cX9_number 195 = .ok (.invokevirtual 240, 3) := by decide +kernel
theorem dX9_number_198 : decode cX9_number 198 = .ok (.iconst 1, 1) := by decide +kernel
theorem dX9_number_199 : decode cX9_number 199 = .ok (.istore_n 2, 1) := by decide +kernel
theorem dX9_number_200 : decode cX9_number 200 = .ok (.iconst 0, 1) := by decide +kernel
theorem dX9_number_201 : decode cX9_number 201 = .ok (.istore_n 3, 1) := by decide +kernel
theorem dX9_number_202 : decode cX9_number 202 = .ok (.iload_n 3, 1) := by decide +kernel
theorem dX9_number_203 : decode cX9_number 203 = .ok (.aload_n 0, 1) := by decide +kernel
theorem dX9_number_204 : decode cX9_number 204 = .ok (.getfield 237, 3) := by decide +kernel
theorem dX9_number_207 : decode cX9_number 207 = .ok (.if_icmp .ge 45, 3) := by decide +kernel
theorem dX9_number_210 : decode cX9_number 210 = .ok (.iload_n 2, 1) := by decide +kernel
theorem dX9_number_211 : decode cX9_number 211 = .ok (.ifCond .eq 33, 3) := by decide +kernel
theorem dX9_number_214 : decode cX9_number 214 = .ok (.aload_n 0, 1) := by decide +kernel
theorem dX9_number_215 : decode cX9_number 215 = .ok (.getfield 100, 3) := by decide +kernel
theorem dX9_number_218 : decode cX9_number 218 = .ok (.iload_n 3, 1) := by decide +kernel
theorem dX9_number_219 : decode cX9_number 219 = .ok (.iaload, 1) := by decide +kernel
theorem dX9_number_220 : decode cX9_number 220 = .ok (.bipush (-9), 2) := by decide +kernel
theorem dX9_number_222 : decode cX9_number 222 = .ok (.if_icmp .eq 18, 3) := by decide +kernel
theorem dX9_number_225 : decode cX9_number 225 = .ok (.aload_n 0, 1) := by decide +kernel
theorem dX9_number_226 : decode cX9_number 226 = .ok (.getfield 88, 3) := by decide +kernel
theorem dX9_number_229 : decode cX9_number 229 = .ok (.iload_n 3, 1) := by decide +kernel
theorem dX9_number_230 : decode cX9_number 230 = .ok (.baload, 1) := by decide +kernel
theorem dX9_number_231 : decode cX9_number 231 = .ok (.aload_n 0, 1) := by decide +kernel
theorem dX9_number_232 : decode cX9_number 232 = .ok (.getfield 88, 3) := by decide +kernel
theorem dX9_number_235 : decode cX9_number 235 = .ok (.iload_n 1, 1) := by decide +kernel
theorem dX9_number_236 : decode cX9_number 236 = .ok (.baload, 1) := by decide +kernel
theorem dX9_number_237 : decode cX9_number 237 = .ok (.if_icmp .ne 7, 3) := by decide +kernel
theorem dX9_number_240 : decode cX9_number 240 = .ok (.iconst 1, 1) := by decide +kernel
theorem dX9_number_241 : decode cX9_number 241 = .ok (.goto 4, 3) := by decide +kernel
theorem dX9_number_244 : decode cX9_number 244 = .ok (.iconst 0, 1) := by decide +kernel
theorem dX9_number_245 : decode cX9_number 245 = .ok (.istore_n 2, 1) := by decide +kernel
theorem dX9_number_246 : decode cX9_number 246 = .ok (.iinc 3 1, 3) := by decide +kernel
theorem dX9_number_249 : decode cX9_number 249 = .ok (.goto (-47), 3) := by decide +kernel
theorem dX9_number_252 : decode cX9_number 252 = .ok (.aload_n 0, 1) := by decide +kernel
theorem dX9_number_253 : decode cX9_number 253 = .ok (.getfield 91, 3) := by decide +kernel
theorem dX9_number_256 : decode cX9_number 256 = .ok (.iload_n 1, 1) := by decide +kernel
theorem dX9_number_257 : decode cX9_number 257 = .ok (.iload_n 2, 1) := by decide +kernel
theorem dX9_number_258 : decode cX9_number 258 = .ok (.ifCond .eq 20, 3) := by decide +kernel
theorem dX9_number_261 : decode cX9_number 261 = .ok (.aload_n 0, 1) := by decide +kernel
theorem dX9_number_262 : decode cX9_number 262 = .ok (.getfield 88, 3) := by decide +kernel
theorem dX9_number_265 : decode cX9_number 265 = .ok (.iload_n 1, 1) := by decide +kernel
theorem dX9_number_266 : decode cX9_number 266 = .ok (.baload, 1) := by decide +kernel
theorem dX9_number_267 : decode cX9_number 267 = .ok (.ifCond .eq 7, 3) := by decide +kernel
theorem dX9_number_270 : decode cX9_number 270 = .ok (.iconst 3, 1) := by decide +kernel
theorem dX9_number_271 : decode cX9_number 271 = .ok (.goto 21, 3) := by decide +kernel
theorem dX9_number_274 : decode cX9_number 274 = .ok (.iconst 2, 1) := by decide +kernel
theorem dX9_number_275 : decode cX9_number 275 = .ok (.goto 17, 3) := by decide +kernel
theorem dX9_number_278 : decode cX9_number 278 = .ok (.aload_n 0, 1) := by decide +kernel
theorem dX9_number_279 : decode cX9_number 279 = .ok (.getfield 88, 3) := by decide +kernel
theorem dX9_number_282 : decode cX9_number 282 = .ok (.iload_n 1, 1) := by decide +kernel
theorem dX9_number_283 : decode cX9_number 283 = .ok (.baload, 1) := by decide +kernel
theorem dX9_number_284 : decode cX9_number 284 = .ok (.ifCond .eq 7, 3) := by decide +kernel
theorem dX9_number_287 : decode cX9_number 287 = .ok (.iconst 1, 1) := by decide +kernel
theorem dX9_number_288 : decode cX9_number 288 = .ok (.goto 4, 3) := by decide +kernel
theorem dX9_number_291 : decode cX9_number 291 = .ok (.iconst 0, 1) := by decide +kernel
theorem dX9_number_292 : decode cX9_number 292 = .ok (.iastore, 1) := by decide +kernel
theorem dX9_number_293 : decode cX9_number 293 = .ok (.iinc 1 1, 3) := by decide +kernel
theorem dX9_number_296 : decode cX9_number 296 = .ok (.goto (-111), 3) := by decide +kernel
theorem dX9_number_299 : decode cX9_number 299 = .ok (.return_, 1) := by decide +kernel
theorem dX9_spread_0 : decode cX9_spread 0 = .ok (.iconst 0, 1) := by decide +kernel
theorem dX9_spread_1 : decode cX9_spread 1 = .ok (.istore_n 2, 1) := by decide +kernel
theorem dX9_spread_2 : decode cX9_spread 2 = .ok (.iload_n 2, 1) := by decide +kernel
theorem dX9_spread_3 : decode cX9_spread 3 = .ok (.aload_n 0, 1) := by decide +kernel
theorem dX9_spread_4 : decode cX9_spread 4 = .ok (.getfield 237, 3) := by decide +kernel
theorem dX9_spread_7 : decode cX9_spread 7 = .ok (.if_icmp .ge 17, 3) := by decide +kernel
theorem dX9_spread_10 : decode cX9_spread 10 = .ok (.aload_n 0, 1) := by decide +kernel
theorem dX9_spread_11 : decode cX9_spread 11 = .ok (.getfield 100, 3) := by decide +kernel
theorem dX9_spread_14 : decode cX9_spread 14 = .ok (.iload_n 2, 1) := by decide +kernel
theorem dX9_spread_15 : decode cX9_spread 15 = .ok (.bipush (-9), 2) := by decide +kernel
theorem dX9_spread_17 : decode cX9_spread 17 = .ok (.iastore, 1) := by decide +kernel
theorem dX9_spread_18 : decode cX9_spread 18 = .ok (.iinc 2 1, 3) := by decide +kernel
theorem dX9_spread_21 : decode cX9_spread 21 = .ok (.goto (-19), 3) := by decide +kernel
theorem dX9_spread_24 : decode cX9_spread 24 = .ok (.aload_n 0, 1) := by decide +kernel
theorem dX9_spread_25 : decode cX9_spread 25 = .ok (.getfield 100, 3) := by decide +kernel
theorem dX9_spread_28 : decode cX9_spread 28 = .ok (.iload_n 1, 1) := by decide +kernel
theorem dX9_spread_29 : decode cX9_spread 29 = .ok (.iconst 0, 1) := by decide +kernel
theorem dX9_spread_30 : decode cX9_spread 30 = .ok (.iastore, 1) := by decide +kernel
theorem dX9_spread_31 : decode cX9_spread 31 = .ok (.aload_n 0, 1) := by decide +kernel
theorem dX9_spread_32 : decode cX9_spread 32 = .ok (.getfield 103, 3) := by decide +kernel
theorem dX9_spread_35 : decode cX9_spread 35 = .ok (.iconst 0, 1) := by decide +kernel
theorem dX9_spread_36 : decode cX9_spread 36 = .ok (.iload_n 1, 1) := by decide +kernel
theorem dX9_spread_37 : decode cX9_spread 37 = .ok (.iastore, 1) := by decide +kernel
theorem dX9_spread_38 : decode cX9_spread 38 = .ok (.iconst 1, 1) := by decide +kernel
theorem dX9_spread_39 : decode cX9_spread 39 = .ok (.istore_n 2, 1) := by decide +kernel
theorem dX9_spread_40 : decode cX9_spread 40 = .ok (.iconst 0, 1) := by decide +kernel
theorem dX9_spread_41 : decode cX9_spread 41 = .ok (.istore_n 3, 1) := by decide +kernel
theorem dX9_spread_42 : decode cX9_spread 42 = .ok (.iload_n 3, 1) := by decide +kernel
theorem dX9_spread_43 : decode cX9_spread 43 = .ok (.iload_n 2, 1) := by decide +kernel
theorem dX9_spread_44 : decode cX9_spread 44 = .ok (.if_icmp .ge 85, 3) := by decide +kernel
theorem dX9_spread_47 : decode cX9_spread 47 = .ok (.iconst 0, 1) := by decide +kernel
theorem dX9_spread_48 : decode cX9_spread 48 = .ok (.istore 4, 2) := by decide +kernel
theorem dX9_spread_50 : decode cX9_spread 50 = .ok (.iload 4, 2) := by decide +kernel
theorem dX9_spread_52 : decode cX9_spread 52 = .ok (.iconst 4, 1) := by decide +kernel
theorem dX9_spread_53 : decode cX9_spread 53 = .ok (.if_icmp .ge 70, 3) := by decide +kernel
theorem dX9_spread_56 : decode cX9_spread 56 = .ok (.aload_n 0, 1) := by decide +kernel
theorem dX9_spread_57 : decode cX9_spread 57 = .ok (.getfield 85, 3) := by decide +kernel
theorem dX9_spread_60 : decode cX9_spread 60 = .ok (.iconst 4, 1) := by decide +kernel
theorem dX9_spread_61 : decode cX9_spread 61 = .ok (.aload_n 0, 1) := by decide +kernel
theorem dX9_spread_62 : decode cX9_spread 62 = .ok (.getfield 103, 3) := by decide +kernel
theorem dX9_spread_65 : decode cX9_spread 65 = .ok (.iload_n 3, 1) := by decide +kernel
theorem dX9_spread_66 : decode cX9_spread 66 = .ok (.iaload, 1) := by decide +kernel
theorem dX9_spread_67 : decode cX9_spread 67 = .ok (.imul, 1) := by decide +kernel
theorem dX9_spread_68 : decode cX9_spread 68 = .ok (.iload 4, 2) := by decide +kernel
theorem dX9_spread_70 : decode cX9_spread 70 = .ok (.iadd, 1) := by decide +kernel
theorem dX9_spread_71 : decode cX9_spread 71 = .ok (.iaload, 1) := by decide +kernel
theorem dX9_spread_72 : decode cX9_spread 72 = .ok (.istore 5, 2) := by decide +kernel
theorem dX9_spread_74 : decode cX9_spread 74 = .ok (.aload_n 0, 1) := by decide +kernel
theorem dX9_spread_75 : decode cX9_spread 75 = .ok (.getfield 100, 3) := by decide +kernel
theorem dX9_spread_78 : decode cX9_spread 78 = .ok (.iload 5, 2) := by decide +kernel
theorem dX9_spread_80 : decode cX9_spread 80 = .ok (.iaload, 1) := by decide +kernel
theorem dX9_spread_81 : decode cX9_spread 81 = .ok (.bipush (-9), 2) := by decide +kernel
theorem dX9_spread_83 : decode cX9_spread 83 = .ok (.if_icmp .ne 34, 3) := by decide +kernel
theorem dX9_spread_86 : decode cX9_spread 86 = .ok (.aload_n 0, 1) := by decide +kernel
theorem dX9_spread_87 : decode cX9_spread 87 = .ok (.getfield 100, 3) := by decide +kernel
theorem dX9_spread_90 : decode cX9_spread 90 = .ok (.iload 5, 2) := by decide +kernel
theorem dX9_spread_92 : decode cX9_spread 92 = .ok (.aload_n 0, 1) := by decide +kernel
theorem dX9_spread_93 : decode cX9_spread 93 = .ok (.getfield 100, 3) := by decide +kernel
theorem dX9_spread_96 : decode cX9_spread 96 = .ok (.aload_n 0, 1) := by decide +kernel
theorem dX9_spread_97 : decode cX9_spread 97 = .ok (.getfield 103, 3) := by decide +kernel
theorem dX9_spread_100 : decode cX9_spread 100 = .ok (.iload_n 3, 1) := by decide +kernel
theorem dX9_spread_101 : decode cX9_spread 101 = .ok (.iaload, 1) := by decide +kernel
theorem dX9_spread_102 : decode cX9_spread 102 = .ok (.iaload, 1) := by decide +kernel
theorem dX9_spread_103 : decode cX9_spread 103 = .ok (.iconst 1, 1) := by decide +kernel
theorem dX9_spread_104 : decode cX9_spread 104 = .ok (.iadd, 1) := by decide +kernel
theorem dX9_spread_105 : decode cX9_spread 105 = .ok (.iastore, 1) := by decide +kernel
theorem dX9_spread_106 : decode cX9_spread 106 = .ok (.aload_n 0, 1) := by decide +kernel
theorem dX9_spread_107 : decode cX9_spread 107 = .ok (.getfield 103, 3) := by decide +kernel
theorem dX9_spread_110 : decode cX9_spread 110 = .ok (.iload_n 2, 1) := by decide +kernel
theorem dX9_spread_111 : decode cX9_spread 111 = .ok (.iload 5, 2) := by decide +kernel
theorem dX9_spread_113 : decode cX9_spread 113 = .ok (.iastore, 1) := by decide +kernel
theorem dX9_spread_114 : decode cX9_spread 114 = .ok (.iinc 2 1, 3) := by decide +kernel
theorem dX9_spread_117 : decode cX9_spread 117 = .ok (.iinc 4 1, 3) := by decide +kernel
theorem dX9_spread_120 : decode cX9_spread 120 = .ok (.goto (-70), 3) := by decide +kernel
theorem dX9_spread_123 : decode cX9_spread 123 = .ok (.iinc 3 1, 3) := by decide +kernel
theorem dX9_spread_126 : decode cX9_spread 126 = .ok (.goto (-84), 3) := by decide +kernel
theorem dX9_spread_129 : decode cX9_spread 129 = .ok (.return_, 1) := by decide +kernel
theorem dX9_read_0 : decode cX9_read 0 = .ok (.aload_n 0, 1) := by decide +kernel
theorem dX9_read_1 : decode cX9_read 1 = .ok (.iconst 0, 1) := by decide +kernel
theorem dX9_read_2 : decode cX9_read 2 = .ok (.putfield 140, 3) := by decide +kernel
theorem dX9_read_5 : decode cX9_read 5 = .ok (.aload_n 0, 1) := by decide +kernel
theorem dX9_read_6 : decode cX9_read 6 = .ok (.invokevirtual 243, 3) := by decide +kernel
theorem dX9_read_9 : decode cX9_read 9 = .ok (.ifCond .ne 11, 3) := by decide +kernel
theorem dX9_read_12 : decode cX9_read 12 = .ok (.bipush (-100), 2) := by decide +kernel
theorem dX9_read_14 : decode cX9_read 14 = .ok (.aload_n 0, 1) := by decide +kernel
theorem dX9_read_15 : decode cX9_read 15 = .ok (.getfield 160, 3) := by decide +kernel
theorem dX9_read_18 : decode cX9_read 18 = .ok (.isub, 1) := by decide +kernel
theorem dX9_read_19 : decode cX9_read 19 = .ok (.ireturn, 1) := by decide +kernel
theorem dX9_read_20 : decode cX9_read 20 = .ok (.aload_n 0, 1) := by decide +kernel
theorem dX9_read_21 : decode cX9_read 21 = .ok (.invokevirtual 246, 3) := by decide +kernel
theorem dX9_read_24 : decode cX9_read 24 = .ok (.aload_n 0, 1) := by decide +kernel
theorem dX9_read_25 : decode cX9_read 25 = .ok (.invokevirtual 249, 3) := by decide +kernel
theorem dX9_read_28 : decode cX9_read 28 = .ok (.ifCond .eq 10, 3) := by decide +kernel
theorem dX9_read_31 : decode cX9_read 31 = .ok (.aload_n 0, 1) := by decide +kernel
theorem dX9_read_32 : decode cX9_read 32 = .ok (.invokevirtual 252, 3) := by decide +kernel
theorem dX9_read_35 : decode cX9_read 35 = .ok (.ifCond .ne 6, 3) := by decide +kernel
theorem dX9_read_38 : decode cX9_read 38 = .ok (.bipush (-4), 2) := by decide +kernel
theorem dX9_read_40 : decode cX9_read 40 = .ok (.ireturn, 1) := by decide +kernel
theorem dX9_read_41 : decode cX9_read 41 = .ok (.aload_n 0, 1) := by decide +kernel
theorem dX9_read_42 : decode cX9_read 42 = .ok (.invokevirtual 255, 3) := by decide +kernel
theorem dX9_read_45 : decode cX9_read 45 = .ok (.aload_n 0, 1) := by decide +kernel
theorem dX9_read_46 : decode cX9_read 46 = .ok (.iconst 0, 1) := by decide +kernel
theorem dX9_read_47 : decode cX9_read 47 = .ok (.putfield 136, 3) := by decide +kernel
theorem dX9_read_50 : decode cX9_read 50 = .ok (.aload_n 0, 1) := by decide +kernel
theorem dX9_read_51 : decode cX9_read 51 = .ok (.iconst 1, 1) := by decide +kernel
theorem dX9_read_52 : decode cX9_read 52 = .ok (.putfield 257, 3) := by decide +kernel
theorem dX9_read_55 : decode cX9_read 55 = .ok (.iconst 0, 1) := by decide +kernel
theorem dX9_read_56 : decode cX9_read 56 = .ok (.istore_n 1, 1) := by decide +kernel
theorem dX9_read_57 : decode cX9_read 57 = .ok (.iload_n 1, 1) := by decide +kernel
theorem dX9_read_58 : decode cX9_read 58 = .ok (.bipush 16, 2) := by decide +kernel
theorem dX9_read_60 : decode cX9_read 60 = .ok (.if_icmp .ge 14, 3) := by decide +kernel
theorem dX9_read_63 : decode cX9_read 63 = .ok (.aload_n 0, 1) := by decide +kernel
theorem dX9_read_64 : decode cX9_read 64 = .ok (.iload_n 1, 1) := by decide +kernel
theorem dX9_read_65 : decode cX9_read 65 = .ok (.invokevirtual 261, 3) := by decide +kernel
theorem dX9_read_68 : decode cX9_read 68 = .ok (.iinc 1 1, 3) := by decide +kernel
theorem dX9_read_71 : decode cX9_read 71 = .ok (.goto (-14), 3) := by decide +kernel
theorem dX9_read_74 : decode cX9_read 74 = .ok (.aload_n 0, 1) := by decide +kernel
theorem dX9_read_75 : decode cX9_read 75 = .ok (.getfield 237, 3) := by decide +kernel
theorem dX9_read_78 : decode cX9_read 78 = .ok (.ireturn, 1) := by decide +kernel
theorem dX9_isState_0 : decode cX9_isState 0 = .ok (.iload_n 1, 1) := by decide +kernel
theorem dX9_isState_1 : decode cX9_isState 1 = .ok (.i2l, 1) := by decide +kernel
theorem dX9_isState_2 : decode cX9_isState 2 = .ok (.lconst 0, 1) := by decide +kernel
theorem dX9_isState_3 : decode cX9_isState 3 = .ok (.aload_n 0, 1) := by decide +kernel
theorem dX9_isState_4 : decode cX9_isState 4 = .ok (.getfield 237, 3) := by decide +kernel
theorem dX9_isState_7 : decode cX9_isState 7 = .ok (.iconst 1, 1) := by decide +kernel
theorem dX9_isState_8 : decode cX9_isState 8 = .ok (.isub, 1) := by decide +kernel
theorem dX9_isState_9 : decode cX9_isState 9 = .ok (.i2l, 1) := by decide +kernel
theorem dX9_isState_10 : decode cX9_isState 10 = .ok (.invokestatic 264, 3) := by decide +kernel
theorem dX9_isState_13 : decode cX9_isState 13 = .ok (.ireturn, 1) := by decide +kernel
theorem dX9_leads_0 : decode cX9_leads 0 = .ok (.aload_n 0, 1) := by decide +kernel
theorem dX9_leads_1 : decode cX9_leads 1 = .ok (.getfield 257, 3) := by decide +kernel
theorem dX9_leads_4 : decode cX9_leads 4 = .ok (.ifCond .ne 6, 3) := by decide +kernel
theorem dX9_leads_7 : decode cX9_leads 7 = .ok (.bipush (-3), 2) := by decide +kernel
theorem dX9_leads_9 : decode cX9_leads 9 = .ok (.ireturn, 1) := by decide +kernel
theorem dX9_leads_10 : decode cX9_leads 10 = .ok (.aload_n 0, 1) := by decide +kernel
theorem dX9_leads_11 : decode cX9_leads 11 = .ok (.iload_n 1, 1) := by decide +kernel
theorem dX9_leads_12 : decode cX9_leads 12 = .ok (.invokevirtual 268, 3) := by decide +kernel
theorem dX9_leads_15 : decode cX9_leads 15 = .ok (.ifCond .eq 28, 3) := by decide +kernel
theorem dX9_leads_18 : decode cX9_leads 18 = .ok (.iload_n 2, 1) := by decide +kernel
theorem dX9_leads_19 : decode cX9_leads 19 = .ok (.i2l, 1) := by decide +kernel
theorem dX9_leads_20 : decode cX9_leads 20 = .ok (.lconst 0, 1) := by decide +kernel
theorem dX9_leads_21 : decode cX9_leads 21 = .ok (.ldc2_w 271, 3) := by decide +kernel
theorem dX9_leads_24 : decode cX9_leads 24 = .ok (.invokestatic 264, 3) := by decide +kernel
theorem dX9_leads_27 : decode cX9_leads 27 = .ok (.ifCond .eq 16, 3) := by decide +kernel
theorem dX9_leads_30 : decode cX9_leads 30 = .ok (.aload_n 0, 1) := by decide +kernel
theorem dX9_leads_31 : decode cX9_leads 31 = .ok (.getfield 85, 3) := by decide +kernel
theorem dX9_leads_34 : decode cX9_leads 34 = .ok (.iconst 4, 1) := by decide +kernel
theorem dX9_leads_35 : decode cX9_leads 35 = .ok (.iload_n 1, 1) := by decide +kernel
theorem dX9_leads_36 : decode cX9_leads 36 = .ok (.imul, 1) := by decide +kernel
theorem dX9_leads_37 : decode cX9_leads 37 = .ok (.iload_n 2, 1) := by decide +kernel
theorem dX9_leads_38 : decode cX9_leads 38 = .ok (.iadd, 1) := by decide +kernel
theorem dX9_leads_39 : decode cX9_leads 39 = .ok (.iaload, 1) := by decide +kernel
theorem dX9_leads_40 : decode cX9_leads 40 = .ok (.goto 4, 3) := by decide +kernel
theorem dX9_leads_43 : decode cX9_leads 43 = .ok (.iconst (-1), 1) := by decide +kernel
theorem dX9_leads_44 : decode cX9_leads 44 = .ok (.ireturn, 1) := by decide +kernel
theorem dX9_verdict_0 : decode cX9_verdict 0 = .ok (.aload_n 0, 1) := by decide +kernel
theorem dX9_verdict_1 : decode cX9_verdict 1 = .ok (.getfield 257, 3) := by decide +kernel
theorem dX9_verdict_4 : decode cX9_verdict 4 = .ok (.ifCond .ne 6, 3) := by decide +kernel
theorem dX9_verdict_7 : decode cX9_verdict 7 = .ok (.bipush (-3), 2) := by decide +kernel
theorem dX9_verdict_9 : decode cX9_verdict 9 = .ok (.ireturn, 1) := by decide +kernel
theorem dX9_verdict_10 : decode cX9_verdict 10 = .ok (.aload_n 0, 1) := by decide +kernel
theorem dX9_verdict_11 : decode cX9_verdict 11 = .ok (.iload_n 1, 1) := by decide +kernel
theorem dX9_verdict_12 : decode cX9_verdict 12 = .ok (.invokevirtual 268, 3) := by decide +kernel
theorem dX9_verdict_15 : decode cX9_verdict 15 = .ok (.ifCond .eq 12, 3) := by decide +kernel
theorem dX9_verdict_18 : decode cX9_verdict 18 = .ok (.aload_n 0, 1) := by decide +kernel
theorem dX9_verdict_19 : decode cX9_verdict 19 = .ok (.getfield 91, 3) := by decide +kernel
theorem dX9_verdict_22 : decode cX9_verdict 22 = .ok (.iload_n 1, 1) := by decide +kernel
theorem dX9_verdict_23 : decode cX9_verdict 23 = .ok (.iaload, 1) := by decide +kernel
theorem dX9_verdict_24 : decode cX9_verdict 24 = .ok (.goto 4, 3) := by decide +kernel
theorem dX9_verdict_27 : decode cX9_verdict 27 = .ok (.iconst (-1), 1) := by decide +kernel
theorem dX9_verdict_28 : decode cX9_verdict 28 = .ok (.ireturn, 1) := by decide +kernel
theorem dX9_farTo_0 : decode cX9_farTo 0 = .ok (.aload_n 0, 1) := by decide +kernel
theorem dX9_farTo_1 : decode cX9_farTo 1 = .ok (.iload_n 1, 1) := by decide +kernel
theorem dX9_farTo_2 : decode cX9_farTo 2 = .ok (.invokevirtual 240, 3) := by decide +kernel
theorem dX9_farTo_5 : decode cX9_farTo 5 = .ok (.bipush (-9), 2) := by decide +kernel
theorem dX9_farTo_7 : decode cX9_farTo 7 = .ok (.istore_n 3, 1) := by decide +kernel
theorem dX9_farTo_8 : decode cX9_farTo 8 = .ok (.iconst 0, 1) := by decide +kernel
theorem dX9_farTo_9 : decode cX9_farTo 9 = .ok (.istore 4, 2) := by decide +kernel
theorem dX9_farTo_11 : decode cX9_farTo 11 = .ok (.iload 4, 2) := by decide +kernel
theorem dX9_farTo_13 : decode cX9_farTo 13 = .ok (.aload_n 0, 1) := by decide +kernel
theorem dX9_farTo_14 : decode cX9_farTo 14 = .ok (.getfield 237, 3) := by decide +kernel
theorem dX9_farTo_17 : decode cX9_farTo 17 = .ok (.if_icmp .ge 61, 3) := by decide +kernel
theorem dX9_farTo_20 : decode cX9_farTo 20 = .ok (.aload_n 0, 1) := by decide +kernel
theorem dX9_farTo_21 : decode cX9_farTo 21 = .ok (.getfield 91, 3) := by decide +kernel
theorem dX9_farTo_24 : decode cX9_farTo 24 = .ok (.iload 4, 2) := by decide +kernel
theorem dX9_farTo_26 : decode cX9_farTo 26 = .ok (.iaload, 1) := by decide +kernel
theorem dX9_farTo_27 : decode cX9_farTo 27 = .ok (.iload_n 2, 1) := by decide +kernel
theorem dX9_farTo_28 : decode cX9_farTo 28 = .ok (.if_icmp .ne 42, 3) := by decide +kernel
theorem dX9_farTo_31 : decode cX9_farTo 31 = .ok (.aload_n 0, 1) := by decide +kernel
theorem dX9_farTo_32 : decode cX9_farTo 32 = .ok (.getfield 100, 3) := by decide +kernel
theorem dX9_farTo_35 : decode cX9_farTo 35 = .ok (.iload 4, 2) := by decide +kernel
theorem dX9_farTo_37 : decode cX9_farTo 37 = .ok (.iaload, 1) := by decide +kernel
theorem dX9_farTo_38 : decode cX9_farTo 38 = .ok (.bipush (-9), 2) := by decide +kernel
theorem dX9_farTo_40 : decode cX9_farTo 40 = .ok (.if_icmp .eq 30, 3) := by decide +kernel
theorem dX9_farTo_43 : decode cX9_farTo 43 = .ok (.iload_n 3, 1) := by decide +kernel
theorem dX9_farTo_44 : decode cX9_farTo 44 = .ok (.bipush (-9), 2) := by decide +kernel
theorem dX9_farTo_46 : decode cX9_farTo 46 = .ok (.if_icmp .eq 14, 3) := by decide +kernel
theorem dX9_farTo_49 : decode cX9_farTo 49 = .ok (.aload_n 0, 1) := by decide +kernel
theorem dX9_farTo_50 : decode cX9_farTo 50 = .ok (.getfield 100, 3) := by decide +kernel
theorem dX9_farTo_53 : decode cX9_farTo 53 = .ok (.iload 4, 2) := by decide +kernel
theorem dX9_farTo_55 : decode cX9_farTo 55 = .ok (.iaload, 1) := by decide +kernel
theorem dX9_farTo_56 : decode cX9_farTo 56 = .ok (.iload_n 3, 1) := by decide +kernel
theorem dX9_farTo_57 : decode cX9_farTo 57 = .ok (.if_icmp .ge 13, 3) := by decide +kernel
theorem dX9_farTo_60 : decode cX9_farTo 60 = .ok (.aload_n 0, 1) := by decide +kernel
theorem dX9_farTo_61 : decode cX9_farTo 61 = .ok (.getfield 100, 3) := by decide +kernel
theorem dX9_farTo_64 : decode cX9_farTo 64 = .ok (.iload 4, 2) := by decide +kernel
theorem dX9_farTo_66 : decode cX9_farTo 66 = .ok (.iaload, 1) := by decide +kernel
theorem dX9_farTo_67 : decode cX9_farTo 67 = .ok (.goto 4, 3) := by decide +kernel
theorem dX9_farTo_70 : decode cX9_farTo 70 = .ok (.iload_n 3, 1) := by decide +kernel
theorem dX9_farTo_71 : decode cX9_farTo 71 = .ok (.istore_n 3, 1) := by decide +kernel
theorem dX9_farTo_72 : decode cX9_farTo 72 = .ok (.iinc 4 1, 3) := by decide +kernel
theorem dX9_farTo_75 : decode cX9_farTo 75 = .ok (.goto (-64), 3) := by decide +kernel
theorem dX9_farTo_78 : decode cX9_farTo 78 = .ok (.iload_n 3, 1) := by decide +kernel
theorem dX9_farTo_79 : decode cX9_farTo 79 = .ok (.ireturn, 1) := by decide +kernel
theorem dX9_far_0 : decode cX9_far 0 = .ok (.aload_n 0, 1) := by decide +kernel
theorem dX9_far_1 : decode cX9_far 1 = .ok (.getfield 257, 3) := by decide +kernel
theorem dX9_far_4 : decode cX9_far 4 = .ok (.ifCond .ne 6, 3) := by decide +kernel
theorem dX9_far_7 : decode cX9_far 7 = .ok (.bipush (-3), 2) := by decide +kernel
theorem dX9_far_9 : decode cX9_far 9 = .ok (.ireturn, 1) := by decide +kernel
theorem dX9_far_10 : decode cX9_far 10 = .ok (.aload_n 0, 1) := by decide +kernel
theorem dX9_far_11 : decode cX9_far 11 = .ok (.iload_n 1, 1) := by decide +kernel
theorem dX9_far_12 : decode cX9_far 12 = .ok (.invokevirtual 268, 3) := by decide +kernel
theorem dX9_far_15 : decode cX9_far 15 = .ok (.ifCond .ne 5, 3) := by decide +kernel
theorem dX9_far_18 : decode cX9_far 18 = .ok (.iconst (-1), 1) := by decide +kernel
theorem dX9_far_19 : decode cX9_far 19 = .ok (.ireturn, 1) := by decide +kernel
theorem dX9_far_20 : decode cX9_far 20 = .ok (.iload_n 2, 1) := by decide +kernel
theorem dX9_far_21 : decode cX9_far 21 = .ok (.i2l, 1) := by decide +kernel
theorem dX9_far_22 : decode cX9_far 22 = .ok (.lconst 0, 1) := by decide +kernel
theorem dX9_far_23 : decode cX9_far 23 = .ok (.ldc2_w 271, 3) := by decide +kernel
theorem dX9_far_26 : decode cX9_far 26 = .ok (.invokestatic 264, 3) := by decide +kernel
theorem dX9_far_29 : decode cX9_far 29 = .ok (.ifCond .eq 12, 3) := by decide +kernel
theorem dX9_far_32 : decode cX9_far 32 = .ok (.aload_n 0, 1) := by decide +kernel
theorem dX9_far_33 : decode cX9_far 33 = .ok (.iload_n 1, 1) := by decide +kernel
theorem dX9_far_34 : decode cX9_far 34 = .ok (.iload_n 2, 1) := by decide +kernel
theorem dX9_far_35 : decode cX9_far 35 = .ok (.invokevirtual 273, 3) := by decide +kernel
theorem dX9_far_38 : decode cX9_far 38 = .ok (.goto 5, 3) := by decide +kernel
theorem dX9_far_41 : decode cX9_far 41 = .ok (.bipush (-2), 2) := by decide +kernel
theorem dX9_far_43 : decode cX9_far 43 = .ok (.ireturn, 1) := by decide +kernel
theorem dX9_toward_0 : decode cX9_toward 0 = .ok (.aload_n 0, 1) := by decide +kernel
theorem dX9_toward_1 : decode cX9_toward 1 = .ok (.iload_n 1, 1) := by decide +kernel
theorem dX9_toward_2 : decode cX9_toward 2 = .ok (.iload_n 2, 1) := by decide +kernel
theorem dX9_toward_3 : decode cX9_toward 3 = .ok (.invokevirtual 277, 3) := by decide +kernel
theorem dX9_toward_6 : decode cX9_toward 6 = .ok (.istore_n 3, 1) := by decide +kernel
theorem dX9_toward_7 : decode cX9_toward 7 = .ok (.iload_n 3, 1) := by decide +kernel
theorem dX9_toward_8 : decode cX9_toward 8 = .ok (.ifCond .gt 14, 3) := by decide +kernel
theorem dX9_toward_11 : decode cX9_toward 11 = .ok (.iload_n 3, 1) := by decide +kernel
theorem dX9_toward_12 : decode cX9_toward 12 = .ok (.ifCond .ne 8, 3) := by decide +kernel
theorem dX9_toward_15 : decode cX9_toward 15 = .ok (.bipush (-9), 2) := by decide +kernel
theorem dX9_toward_17 : decode cX9_toward 17 = .ok (.goto 4, 3) := by decide +kernel
theorem dX9_toward_20 : decode cX9_toward 20 = .ok (.iload_n 3, 1) := by decide +kernel
theorem dX9_toward_21 : decode cX9_toward 21 = .ok (.ireturn, 1) := by decide +kernel
theorem dX9_toward_22 : decode cX9_toward 22 = .ok (.iconst 0, 1) := by decide +kernel
theorem dX9_toward_23 : decode cX9_toward 23 = .ok (.istore 4, 2) := by decide +kernel
theorem dX9_toward_25 : decode cX9_toward 25 = .ok (.aload_n 0, 1) := by decide +kernel
theorem dX9_toward_26 : decode cX9_toward 26 = .ok (.aload_n 0, 1) := by decide +kernel
theorem dX9_toward_27 : decode cX9_toward 27 = .ok (.getfield 85, 3) := by decide +kernel
theorem dX9_toward_30 : decode cX9_toward 30 = .ok (.iconst 4, 1) := by decide +kernel
theorem dX9_toward_31 : decode cX9_toward 31 = .ok (.iload_n 1, 1) := by decide +kernel
theorem dX9_toward_32 : decode cX9_toward 32 = .ok (.imul, 1) := by decide +kernel
theorem dX9_toward_33 : decode cX9_toward 33 = .ok (.iload 4, 2) := by decide +kernel
theorem dX9_toward_35 : decode cX9_toward 35 = .ok (.iadd, 1) := by decide +kernel
theorem dX9_toward_36 : decode cX9_toward 36 = .ok (.iaload, 1) := by decide +kernel
theorem dX9_toward_37 : decode cX9_toward 37 = .ok (.iload_n 2, 1) := by decide +kernel
theorem dX9_toward_38 : decode cX9_toward 38 = .ok (.invokevirtual 273, 3) := by decide +kernel
theorem dX9_toward_41 : decode cX9_toward 41 = .ok (.iload_n 3, 1) := by decide +kernel
theorem dX9_toward_42 : decode cX9_toward 42 = .ok (.iconst 1, 1) := by decide +kernel
theorem dX9_toward_43 : decode cX9_toward 43 = .ok (.isub, 1) := by decide +kernel
theorem dX9_toward_44 : decode cX9_toward 44 = .ok (.if_icmp .eq 9, 3) := by decide +kernel
theorem dX9_toward_47 : decode cX9_toward 47 = .ok (.iinc 4 1, 3) := by decide +kernel
theorem dX9_toward_50 : decode cX9_toward 50 = .ok (.goto (-25), 3) := by decide +kernel
theorem dX9_toward_53 : decode cX9_toward 53 = .ok (.iload 4, 2) := by decide +kernel
theorem dX9_toward_55 : decode cX9_toward 55 = .ok (.ireturn, 1) := by decide +kernel
theorem dX9_countTo_0 : decode cX9_countTo 0 = .ok (.iconst 0, 1) := by decide +kernel
theorem dX9_countTo_1 : decode cX9_countTo 1 = .ok (.istore_n 2, 1) := by decide +kernel
theorem dX9_countTo_2 : decode cX9_countTo 2 = .ok (.iload_n 2, 1) := by decide +kernel
theorem dX9_countTo_3 : decode cX9_countTo 3 = .ok (.iload_n 1, 1) := by decide +kernel
theorem dX9_countTo_4 : decode cX9_countTo 4 = .ok (.if_icmp .gt 105, 3) := by decide +kernel
theorem dX9_countTo_7 : decode cX9_countTo 7 = .ok (.iconst 0, 1) := by decide +kernel
theorem dX9_countTo_8 : decode cX9_countTo 8 = .ok (.istore_n 3, 1) := by decide +kernel
theorem dX9_countTo_9 : decode cX9_countTo 9 = .ok (.iload_n 3, 1) := by decide +kernel
theorem dX9_countTo_10 : decode cX9_countTo 10 = .ok (.aload_n 0, 1) := by decide +kernel
theorem dX9_countTo_11 : decode cX9_countTo 11 = .ok (.getfield 237, 3) := by decide +kernel
theorem dX9_countTo_14 : decode cX9_countTo 14 = .ok (.if_icmp .ge 89, 3) := by decide +kernel
theorem dX9_countTo_17 : decode cX9_countTo 17 = .ok (.iload_n 2, 1) := by decide +kernel
theorem dX9_countTo_18 : decode cX9_countTo 18 = .ok (.ifCond .ne 16, 3) := by decide +kernel
theorem dX9_countTo_21 : decode cX9_countTo 21 = .ok (.aload_n 0, 1) := by decide +kernel
theorem dX9_countTo_22 : decode cX9_countTo 22 = .ok (.getfield 88, 3) := by decide +kernel
theorem dX9_countTo_25 : decode cX9_countTo 25 = .ok (.iload_n 3, 1) := by decide +kernel
theorem dX9_countTo_26 : decode cX9_countTo 26 = .ok (.baload, 1) := by decide +kernel
theorem dX9_countTo_27 : decode cX9_countTo 27 = .ok (.ifCond .eq 7, 3) := by decide +kernel
theorem dX9_countTo_30 : decode cX9_countTo 30 = .ok (.lconst 1, 1) := by decide +kernel
theorem dX9_countTo_31 : decode cX9_countTo 31 = .ok (.goto 4, 3) := by decide +kernel
theorem dX9_countTo_34 : decode cX9_countTo 34 = .ok (.lconst 0, 1) := by decide +kernel
theorem dX9_countTo_35 : decode cX9_countTo 35 = .ok (.lstore 4, 2) := by decide +kernel
theorem dX9_countTo_37 : decode cX9_countTo 37 = .ok (.iconst 0, 1) := by decide +kernel
theorem dX9_countTo_38 : decode cX9_countTo 38 = .ok (.istore 6, 2) := by decide +kernel
theorem dX9_countTo_40 : decode cX9_countTo 40 = .ok (.iload 6, 2) := by decide +kernel
theorem dX9_countTo_42 : decode cX9_countTo 42 = .ok (.iconst 4, 1) := by decide +kernel
theorem dX9_countTo_43 : decode cX9_countTo 43 = .ok (.if_icmp .ge 41, 3) := by decide +kernel
theorem dX9_countTo_46 : decode cX9_countTo 46 = .ok (.iload_n 2, 1) := by decide +kernel
theorem dX9_countTo_47 : decode cX9_countTo 47 = .ok (.ifCond .le 37, 3) := by decide +kernel
theorem dX9_countTo_50 : decode cX9_countTo 50 = .ok (.lload 4, 2) := by decide +kernel
theorem dX9_countTo_52 : decode cX9_countTo 52 = .ok (.aload_n 0, 1) := by decide +kernel
theorem dX9_countTo_53 : decode cX9_countTo 53 = .ok (.getfield 106, 3) := by decide +kernel
theorem dX9_countTo_56 : decode cX9_countTo 56 = .ok (.bipush 60, 2) := by decide +kernel
theorem dX9_countTo_58 : decode cX9_countTo 58 = .ok (.iload_n 2, 1) := by decide +kernel
theorem dX9_countTo_59 : decode cX9_countTo 59 = .ok (.iconst 1, 1) := by decide +kernel
theorem dX9_countTo_60 : decode cX9_countTo 60 = .ok (.isub, 1) := by decide +kernel
theorem dX9_countTo_61 : decode cX9_countTo 61 = .ok (.imul, 1) := by decide +kernel
theorem dX9_countTo_62 : decode cX9_countTo 62 = .ok (.aload_n 0, 1) := by decide +kernel
theorem dX9_countTo_63 : decode cX9_countTo 63 = .ok (.getfield 85, 3) := by decide +kernel
theorem dX9_countTo_66 : decode cX9_countTo 66 = .ok (.iconst 4, 1) := by decide +kernel
theorem dX9_countTo_67 : decode cX9_countTo 67 = .ok (.iload_n 3, 1) := by decide +kernel
theorem dX9_countTo_68 : decode cX9_countTo 68 = .ok (.imul, 1) := by decide +kernel
theorem dX9_countTo_69 : decode cX9_countTo 69 = .ok (.iload 6, 2) := by decide +kernel
theorem dX9_countTo_71 : decode cX9_countTo 71 = .ok (.iadd, 1) := by decide +kernel
theorem dX9_countTo_72 : decode cX9_countTo 72 = .ok (.iaload, 1) := by decide +kernel
theorem dX9_countTo_73 : decode cX9_countTo 73 = .ok (.iadd, 1) := by decide +kernel
theorem dX9_countTo_74 : decode cX9_countTo 74 = .ok (.laload, 1) := by decide +kernel
theorem dX9_countTo_75 : decode cX9_countTo 75 = .ok (.ladd, 1) := by decide +kernel
theorem dX9_countTo_76 : decode cX9_countTo 76 = .ok (.lstore 4, 2) := by decide +kernel
theorem dX9_countTo_78 : decode cX9_countTo 78 = .ok (.iinc 6 1, 3) := by decide +kernel
theorem dX9_countTo_81 : decode cX9_countTo 81 = .ok (.goto (-41), 3) := by decide +kernel
theorem dX9_countTo_84 : decode cX9_countTo 84 = .ok (.aload_n 0, 1) := by decide +kernel
theorem dX9_countTo_85 : decode cX9_countTo 85 = .ok (.getfield 106, 3) := by decide +kernel
theorem dX9_countTo_88 : decode cX9_countTo 88 = .ok (.bipush 60, 2) := by decide +kernel
theorem dX9_countTo_90 : decode cX9_countTo 90 = .ok (.iload_n 2, 1) := by decide +kernel
theorem dX9_countTo_91 : decode cX9_countTo 91 = .ok (.imul, 1) := by decide +kernel
theorem dX9_countTo_92 : decode cX9_countTo 92 = .ok (.iload_n 3, 1) := by decide +kernel
theorem dX9_countTo_93 : decode cX9_countTo 93 = .ok (.iadd, 1) := by decide +kernel
theorem dX9_countTo_94 : decode cX9_countTo 94 = .ok (.lload 4, 2) := by decide +kernel
theorem dX9_countTo_96 : decode cX9_countTo 96 = .ok (.lastore, 1) := by decide +kernel
theorem dX9_countTo_97 : decode cX9_countTo 97 = .ok (.iinc 3 1, 3) := by decide +kernel
theorem dX9_countTo_100 : decode cX9_countTo 100 = .ok (.goto (-91), 3) := by decide +kernel
theorem dX9_countTo_103 : decode cX9_countTo 103 = .ok (.iinc 2 1, 3) := by decide +kernel
theorem dX9_countTo_106 : decode cX9_countTo 106 = .ok (.goto (-104), 3) := by decide +kernel
theorem dX9_countTo_109 : decode cX9_countTo 109 = .ok (.return_, 1) := by decide +kernel
theorem dX9_runs_0 : decode cX9_runs 0 = .ok (.aload_n 0, 1) := by decide +kernel
theorem dX9_runs_1 : decode cX9_runs 1 = .ok (.getfield 257, 3) := by decide +kernel
theorem dX9_runs_4 : decode cX9_runs 4 = .ok (.ifCond .ne 7, 3) := by decide +kernel
theorem dX9_runs_7 : decode cX9_runs 7 = .ok (.ldc2_w 279, 3) := by decide +kernel
theorem dX9_runs_10 : decode cX9_runs 10 = .ok (.lreturn, 1) := by decide +kernel
theorem dX9_runs_11 : decode cX9_runs 11 = .ok (.aload_n 0, 1) := by decide +kernel
theorem dX9_runs_12 : decode cX9_runs 12 = .ok (.iload_n 1, 1) := by decide +kernel
theorem dX9_runs_13 : decode cX9_runs 13 = .ok (.invokevirtual 268, 3) := by decide +kernel
theorem dX9_runs_16 : decode cX9_runs 16 = .ok (.ifCond .ne 7, 3) := by decide +kernel
theorem dX9_runs_19 : decode cX9_runs 19 = .ok (.ldc2_w 281, 3) := by decide +kernel
theorem dX9_runs_22 : decode cX9_runs 22 = .ok (.lreturn, 1) := by decide +kernel
theorem dX9_runs_23 : decode cX9_runs 23 = .ok (.iload_n 2, 1) := by decide +kernel
theorem dX9_runs_24 : decode cX9_runs 24 = .ok (.i2l, 1) := by decide +kernel
theorem dX9_runs_25 : decode cX9_runs 25 = .ok (.lconst 0, 1) := by decide +kernel
theorem dX9_runs_26 : decode cX9_runs 26 = .ok (.ldc2_w 283, 3) := by decide +kernel
theorem dX9_runs_29 : decode cX9_runs 29 = .ok (.invokestatic 264, 3) := by decide +kernel
theorem dX9_runs_32 : decode cX9_runs 32 = .ok (.ifCond .ne 7, 3) := by decide +kernel
theorem dX9_runs_35 : decode cX9_runs 35 = .ok (.ldc2_w 285, 3) := by decide +kernel
theorem dX9_runs_38 : decode cX9_runs 38 = .ok (.lreturn, 1) := by decide +kernel
theorem dX9_runs_39 : decode cX9_runs 39 = .ok (.aload_n 0, 1) := by decide +kernel
theorem dX9_runs_40 : decode cX9_runs 40 = .ok (.iload_n 2, 1) := by decide +kernel
theorem dX9_runs_41 : decode cX9_runs 41 = .ok (.invokevirtual 287, 3) := by decide +kernel
theorem dX9_runs_44 : decode cX9_runs 44 = .ok (.aload_n 0, 1) := by decide +kernel
theorem dX9_runs_45 : decode cX9_runs 45 = .ok (.getfield 106, 3) := by decide +kernel
theorem dX9_runs_48 : decode cX9_runs 48 = .ok (.bipush 60, 2) := by decide +kernel
theorem dX9_runs_50 : decode cX9_runs 50 = .ok (.iload_n 2, 1) := by decide +kernel
theorem dX9_runs_51 : decode cX9_runs 51 = .ok (.imul, 1) := by decide +kernel
theorem dX9_runs_52 : decode cX9_runs 52 = .ok (.iload_n 1, 1) := by decide +kernel
theorem dX9_runs_53 : decode cX9_runs 53 = .ok (.iadd, 1) := by decide +kernel
theorem dX9_runs_54 : decode cX9_runs 54 = .ok (.laload, 1) := by decide +kernel
theorem dX9_runs_55 : decode cX9_runs 55 = .ok (.lreturn, 1) := by decide +kernel
theorem dX9_run_0 : decode cX9_run 0 = .ok (.aload_n 0, 1) := by decide +kernel
theorem dX9_run_1 : decode cX9_run 1 = .ok (.iload_n 1, 1) := by decide +kernel
theorem dX9_run_2 : decode cX9_run 2 = .ok (.iload_n 2, 1) := by decide +kernel
theorem dX9_run_3 : decode cX9_run 3 = .ok (.invokevirtual 290, 3) := by decide +kernel
theorem dX9_run_6 : decode cX9_run 6 = .ok (.lstore 4, 2) := by decide +kernel
theorem dX9_run_8 : decode cX9_run 8 = .ok (.lload 4, 2) := by decide +kernel
theorem dX9_run_10 : decode cX9_run 10 = .ok (.lconst 0, 1) := by decide +kernel
theorem dX9_run_11 : decode cX9_run 11 = .ok (.lcmp, 1) := by decide +kernel
theorem dX9_run_12 : decode cX9_run 12 = .ok (.ifCond .le 16, 3) := by decide +kernel
theorem dX9_run_15 : decode cX9_run 15 = .ok (.iload_n 3, 1) := by decide +kernel
theorem dX9_run_16 : decode cX9_run 16 = .ok (.i2l, 1) := by decide +kernel
theorem dX9_run_17 : decode cX9_run 17 = .ok (.lconst 0, 1) := by decide +kernel
theorem dX9_run_18 : decode cX9_run 18 = .ok (.iload_n 2, 1) := by decide +kernel
theorem dX9_run_19 : decode cX9_run 19 = .ok (.iconst 1, 1) := by decide +kernel
theorem dX9_run_20 : decode cX9_run 20 = .ok (.isub, 1) := by decide +kernel
theorem dX9_run_21 : decode cX9_run 21 = .ok (.i2l, 1) := by decide +kernel
theorem dX9_run_22 : decode cX9_run 22 = .ok (.invokestatic 264, 3) := by decide +kernel
theorem dX9_run_25 : decode cX9_run 25 = .ok (.ifCond .ne 19, 3) := by decide +kernel
theorem dX9_run_28 : decode cX9_run 28 = .ok (.lload 4, 2) := by decide +kernel
theorem dX9_run_30 : decode cX9_run 30 = .ok (.lconst 0, 1) := by decide +kernel
theorem dX9_run_31 : decode cX9_run 31 = .ok (.lcmp, 1) := by decide +kernel
theorem dX9_run_32 : decode cX9_run 32 = .ok (.ifCond .ge 9, 3) := by decide +kernel
theorem dX9_run_35 : decode cX9_run 35 = .ok (.lload 4, 2) := by decide +kernel
theorem dX9_run_37 : decode cX9_run 37 = .ok (.l2i, 1) := by decide +kernel
theorem dX9_run_38 : decode cX9_run 38 = .ok (.goto 5, 3) := by decide +kernel
theorem dX9_run_41 : decode cX9_run 41 = .ok (.bipush (-9), 2) := by decide +kernel
theorem dX9_run_43 : decode cX9_run 43 = .ok (.ireturn, 1) := by decide +kernel
theorem dX9_run_44 : decode cX9_run 44 = .ok (.iload_n 1, 1) := by decide +kernel
theorem dX9_run_45 : decode cX9_run 45 = .ok (.istore 6, 2) := by decide +kernel
theorem dX9_run_47 : decode cX9_run 47 = .ok (.iconst 0, 1) := by decide +kernel
theorem dX9_run_48 : decode cX9_run 48 = .ok (.istore 7, 2) := by decide +kernel
theorem dX9_run_50 : decode cX9_run 50 = .ok (.iconst 0, 1) := by decide +kernel
theorem dX9_run_51 : decode cX9_run 51 = .ok (.istore 8, 2) := by decide +kernel
theorem dX9_run_53 : decode cX9_run 53 = .ok (.iload 8, 2) := by decide +kernel
theorem dX9_run_55 : decode cX9_run 55 = .ok (.iload_n 3, 1) := by decide +kernel
theorem dX9_run_56 : decode cX9_run 56 = .ok (.if_icmp .gt 64, 3) := by decide +kernel
theorem dX9_run_59 : decode cX9_run 59 = .ok (.iconst 0, 1) := by decide +kernel
theorem dX9_run_60 : decode cX9_run 60 = .ok (.istore 7, 2) := by decide +kernel
theorem dX9_run_62 : decode cX9_run 62 = .ok (.aload_n 0, 1) := by decide +kernel
theorem dX9_run_63 : decode cX9_run 63 = .ok (.getfield 106, 3) := by decide +kernel
theorem dX9_run_66 : decode cX9_run 66 = .ok (.bipush 60, 2) := by decide +kernel
theorem dX9_run_68 : decode cX9_run 68 = .ok (.iload_n 2, 1) := by decide +kernel
theorem dX9_run_69 : decode cX9_run 69 = .ok (.iload 8, 2) := by decide +kernel
theorem dX9_run_71 : decode cX9_run 71 = .ok (.isub, 1) := by decide +kernel
theorem dX9_run_72 : decode cX9_run 72 = .ok (.iconst 1, 1) := by decide +kernel
theorem dX9_run_73 : decode cX9_run 73 = .ok (.isub, 1) := by decide +kernel
theorem dX9_run_74 : decode cX9_run 74 = .ok (.imul, 1) := by decide +kernel
theorem dX9_run_75 : decode cX9_run 75 = .ok (.aload_n 0, 1) := by decide +kernel
theorem dX9_run_76 : decode cX9_run 76 = .ok (.getfield 85, 3) := by decide +kernel
theorem dX9_run_79 : decode cX9_run 79 = .ok (.iconst 4, 1) := by decide +kernel
theorem dX9_run_80 : decode cX9_run 80 = .ok (.iload 6, 2) := by decide +kernel
theorem dX9_run_82 : decode cX9_run 82 = .ok (.imul, 1) := by decide +kernel
theorem dX9_run_83 : decode cX9_run 83 = .ok (.iload 7, 2) := by decide +kernel
theorem dX9_run_85 : decode cX9_run 85 = .ok (.iadd, 1) := by decide +kernel
theorem dX9_run_86 : decode cX9_run 86 = .ok (.iaload, 1) := by decide +kernel
theorem dX9_run_87 : decode cX9_run 87 = .ok (.iadd, 1) := by decide +kernel
theorem dX9_run_88 : decode cX9_run 88 = .ok (.laload, 1) := by decide +kernel
theorem dX9_run_89 : decode cX9_run 89 = .ok (.lconst 0, 1) := by decide +kernel
theorem dX9_run_90 : decode cX9_run 90 = .ok (.lcmp, 1) := by decide +kernel
theorem dX9_run_91 : decode cX9_run 91 = .ok (.ifCond .ne 9, 3) := by decide +kernel
theorem dX9_run_94 : decode cX9_run 94 = .ok (.iinc 7 1, 3) := by decide +kernel
theorem dX9_run_97 : decode cX9_run 97 = .ok (.goto (-35), 3) := by decide +kernel
theorem dX9_run_100 : decode cX9_run 100 = .ok (.aload_n 0, 1) := by decide +kernel
theorem dX9_run_101 : decode cX9_run 101 = .ok (.getfield 85, 3) := by decide +kernel
theorem dX9_run_104 : decode cX9_run 104 = .ok (.iconst 4, 1) := by decide +kernel
theorem dX9_run_105 : decode cX9_run 105 = .ok (.iload 6, 2) := by decide +kernel
theorem dX9_run_107 : decode cX9_run 107 = .ok (.imul, 1) := by decide +kernel
theorem dX9_run_108 : decode cX9_run 108 = .ok (.iload 7, 2) := by decide +kernel
theorem dX9_run_110 : decode cX9_run 110 = .ok (.iadd, 1) := by decide +kernel
theorem dX9_run_111 : decode cX9_run 111 = .ok (.iaload, 1) := by decide +kernel
theorem dX9_run_112 : decode cX9_run 112 = .ok (.istore 6, 2) := by decide +kernel
theorem dX9_run_114 : decode cX9_run 114 = .ok (.iinc 8 1, 3) := by decide +kernel
theorem dX9_run_117 : decode cX9_run 117 = .ok (.goto (-64), 3) := by decide +kernel
theorem dX9_run_120 : decode cX9_run 120 = .ok (.iload 7, 2) := by decide +kernel
theorem dX9_run_122 : decode cX9_run 122 = .ok (.ireturn, 1) := by decide +kernel
theorem dX9_begin_0 : decode cX9_begin 0 = .ok (.iconst 0, 1) := by decide +kernel
theorem dX9_begin_1 : decode cX9_begin 1 = .ok (.istore_n 2, 1) := by decide +kernel
theorem dX9_begin_2 : decode cX9_begin 2 = .ok (.iload_n 2, 1) := by decide +kernel
theorem dX9_begin_3 : decode cX9_begin 3 = .ok (.bipush 60, 2) := by decide +kernel
theorem dX9_begin_5 : decode cX9_begin 5 = .ok (.if_icmp .ge 29, 3) := by decide +kernel
theorem dX9_begin_8 : decode cX9_begin 8 = .ok (.aload_n 0, 1) := by decide +kernel
theorem dX9_begin_9 : decode cX9_begin 9 = .ok (.getfield 110, 3) := by decide +kernel
theorem dX9_begin_12 : decode cX9_begin 12 = .ok (.bipush 60, 2) := by decide +kernel
theorem dX9_begin_14 : decode cX9_begin 14 = .ok (.iload_n 1, 1) := by decide +kernel
theorem dX9_begin_15 : decode cX9_begin 15 = .ok (.imul, 1) := by decide +kernel
theorem dX9_begin_16 : decode cX9_begin 16 = .ok (.iload_n 2, 1) := by decide +kernel
theorem dX9_begin_17 : decode cX9_begin 17 = .ok (.iadd, 1) := by decide +kernel
theorem dX9_begin_18 : decode cX9_begin 18 = .ok (.iload_n 2, 1) := by decide +kernel
theorem dX9_begin_19 : decode cX9_begin 19 = .ok (.ifCond .ne 7, 3) := by decide +kernel
theorem dX9_begin_22 : decode cX9_begin 22 = .ok (.iconst 1, 1) := by decide +kernel
theorem dX9_begin_23 : decode cX9_begin 23 = .ok (.goto 4, 3) := by decide +kernel
theorem dX9_begin_26 : decode cX9_begin 26 = .ok (.iconst 0, 1) := by decide +kernel
theorem dX9_begin_27 : decode cX9_begin 27 = .ok (.bastore, 1) := by decide +kernel
theorem dX9_begin_28 : decode cX9_begin 28 = .ok (.iinc 2 1, 3) := by decide +kernel
theorem dX9_begin_31 : decode cX9_begin 31 = .ok (.goto (-29), 3) := by decide +kernel
theorem dX9_begin_34 : decode cX9_begin 34 = .ok (.aload_n 0, 1) := by decide +kernel
theorem dX9_begin_35 : decode cX9_begin 35 = .ok (.getfield 116, 3) := by decide +kernel
theorem dX9_begin_38 : decode cX9_begin 38 = .ok (.iload_n 1, 1) := by decide +kernel
theorem dX9_begin_39 : decode cX9_begin 39 = .ok (.iconst 0, 1) := by decide +kernel
theorem dX9_begin_40 : decode cX9_begin 40 = .ok (.iastore, 1) := by decide +kernel
theorem dX9_begin_41 : decode cX9_begin 41 = .ok (.return_, 1) := by decide +kernel
theorem dX9_verdictOf_0 : decode cX9_verdictOf 0 = .ok (.bipush (-9), 2) := by decide +kernel
theorem dX9_verdictOf_2 : decode cX9_verdictOf 2 = .ok (.istore_n 2, 1) := by decide +kernel
theorem dX9_verdictOf_3 : decode cX9_verdictOf 3 = .ok (.iconst 1, 1) := by decide +kernel
theorem dX9_verdictOf_4 : decode cX9_verdictOf 4 = .ok (.istore_n 3, 1) := by decide +kernel
theorem dX9_verdictOf_5 : decode cX9_verdictOf 5 = .ok (.iconst 1, 1) := by decide +kernel
theorem dX9_verdictOf_6 : decode cX9_verdictOf 6 = .ok (.istore 4, 2) := by decide +kernel
theorem dX9_verdictOf_8 : decode cX9_verdictOf 8 = .ok (.iconst 1, 1) := by decide +kernel
theorem dX9_verdictOf_9 : decode cX9_verdictOf 9 = .ok (.istore 5, 2) := by decide +kernel
theorem dX9_verdictOf_11 : decode cX9_verdictOf 11 = .ok (.iconst 0, 1) := by decide +kernel
theorem dX9_verdictOf_12 : decode cX9_verdictOf 12 = .ok (.istore 6, 2) := by decide +kernel
theorem dX9_verdictOf_14 : decode cX9_verdictOf 14 = .ok (.iload 6, 2) := by decide +kernel
theorem dX9_verdictOf_16 : decode cX9_verdictOf 16 = .ok (.aload_n 0, 1) := by decide +kernel
theorem dX9_verdictOf_17 : decode cX9_verdictOf 17 = .ok (.getfield 237, 3) := by decide +kernel
theorem dX9_verdictOf_20 : decode cX9_verdictOf 20 = .ok (.if_icmp .ge 103, 3) := by decide +kernel
theorem dX9_verdictOf_23 : decode cX9_verdictOf 23 = .ok (.aload_n 0, 1) := by decide +kernel
theorem dX9_verdictOf_24 : decode cX9_verdictOf 24 = .ok (.getfield 110, 3) := by decide +kernel
theorem dX9_verdictOf_27 : decode cX9_verdictOf 27 = .ok (.bipush 60, 2) := by decide +kernel
theorem dX9_verdictOf_29 : decode cX9_verdictOf 29 = .ok (.iload_n 1, 1) := by decide +kernel
theorem dX9_verdictOf_30 : decode cX9_verdictOf 30 = .ok (.imul, 1) := by decide +kernel
theorem dX9_verdictOf_31 : decode cX9_verdictOf 31 = .ok (.iload 6, 2) := by decide +kernel
theorem dX9_verdictOf_33 : decode cX9_verdictOf 33 = .ok (.iadd, 1) := by decide +kernel
theorem dX9_verdictOf_34 : decode cX9_verdictOf 34 = .ok (.baload, 1) := by decide +kernel
theorem dX9_verdictOf_35 : decode cX9_verdictOf 35 = .ok (.ifCond .eq 82, 3) := by decide +kernel
theorem dX9_verdictOf_38 : decode cX9_verdictOf 38 = .ok (.iload_n 3, 1) := by decide +kernel
theorem dX9_verdictOf_39 : decode cX9_verdictOf 39 = .ok (.ifCond .eq 24, 3) := by decide +kernel
theorem dX9_verdictOf_42 : decode cX9_verdictOf 42 = .ok (.iload_n 2, 1) := by decide +kernel
theorem dX9_verdictOf_43 : decode cX9_verdictOf 43 = .ok (.bipush (-9), 2) := by decide +kernel
theorem dX9_verdictOf_45 : decode cX9_verdictOf 45 = .ok (.if_icmp .eq 14, 3) := by decide +kernel
theorem dX9_verdictOf_48 : decode cX9_verdictOf 48 = .ok (.iload_n 2, 1) := by decide +kernel
theorem dX9_verdictOf_49 : decode cX9_verdictOf 49 = .ok (.aload_n 0, 1) := by decide +kernel
theorem dX9_verdictOf_50 : decode cX9_verdictOf 50 = .ok (.getfield 91, 3) := by decide +kernel
theorem dX9_verdictOf_53 : decode cX9_verdictOf 53 = .ok (.iload 6, 2) := by decide +kernel
theorem dX9_verdictOf_55 : decode cX9_verdictOf 55 = .ok (.iaload, 1) := by decide +kernel
theorem dX9_verdictOf_56 : decode cX9_verdictOf 56 = .ok (.if_icmp .ne 7, 3) := by decide +kernel
theorem dX9_verdictOf_59 : decode cX9_verdictOf 59 = .ok (.iconst 1, 1) := by decide +kernel
theorem dX9_verdictOf_60 : decode cX9_verdictOf 60 = .ok (.goto 4, 3) := by decide +kernel
theorem dX9_verdictOf_63 : decode cX9_verdictOf 63 = .ok (.iconst 0, 1) := by decide +kernel
theorem dX9_verdictOf_64 : decode cX9_verdictOf 64 = .ok (.istore_n 3, 1) := by decide +kernel
theorem dX9_verdictOf_65 : decode cX9_verdictOf 65 = .ok (.aload_n 0, 1) := by decide +kernel
theorem dX9_verdictOf_66 : decode cX9_verdictOf 66 = .ok (.getfield 91, 3) := by decide +kernel
theorem dX9_verdictOf_69 : decode cX9_verdictOf 69 = .ok (.iload 6, 2) := by decide +kernel
theorem dX9_verdictOf_71 : decode cX9_verdictOf 71 = .ok (.iaload, 1) := by decide +kernel
theorem dX9_verdictOf_72 : decode cX9_verdictOf 72 = .ok (.istore_n 2, 1) := by decide +kernel
theorem dX9_verdictOf_73 : decode cX9_verdictOf 73 = .ok (.iload 4, 2) := by decide +kernel
theorem dX9_verdictOf_75 : decode cX9_verdictOf 75 = .ok (.ifCond .eq 17, 3) := by decide +kernel
theorem dX9_verdictOf_78 : decode cX9_verdictOf 78 = .ok (.aload_n 0, 1) := by decide +kernel
theorem dX9_verdictOf_79 : decode cX9_verdictOf 79 = .ok (.getfield 88, 3) := by decide +kernel
theorem dX9_verdictOf_82 : decode cX9_verdictOf 82 = .ok (.iload 6, 2) := by decide +kernel
theorem dX9_verdictOf_84 : decode cX9_verdictOf 84 = .ok (.baload, 1) := by decide +kernel
theorem dX9_verdictOf_85 : decode cX9_verdictOf 85 = .ok (.ifCond .eq 7, 3) := by decide +kernel
theorem dX9_verdictOf_88 : decode cX9_verdictOf 88 = .ok (.iconst 1, 1) := by decide +kernel
theorem dX9_verdictOf_89 : decode cX9_verdictOf 89 = .ok (.goto 4, 3) := by decide +kernel
theorem dX9_verdictOf_92 : decode cX9_verdictOf 92 = .ok (.iconst 0, 1) := by decide +kernel
theorem dX9_verdictOf_93 : decode cX9_verdictOf 93 = .ok (.istore 4, 2) := by decide +kernel
theorem dX9_verdictOf_95 : decode cX9_verdictOf 95 = .ok (.iload 5, 2) := by decide +kernel
theorem dX9_verdictOf_97 : decode cX9_verdictOf 97 = .ok (.ifCond .eq 17, 3) := by decide +kernel
theorem dX9_verdictOf_100 : decode cX9_verdictOf 100 = .ok (.aload_n 0, 1) := by decide +kernel
theorem dX9_verdictOf_101 : decode cX9_verdictOf 101 = .ok (.getfield 88, 3) := by decide +kernel
theorem dX9_verdictOf_104 : decode cX9_verdictOf 104 = .ok (.iload 6, 2) := by decide +kernel
theorem dX9_verdictOf_106 : decode cX9_verdictOf 106 = .ok (.baload, 1) := by decide +kernel
theorem dX9_verdictOf_107 : decode cX9_verdictOf 107 = .ok (.ifCond .ne 7, 3) := by decide +kernel
theorem dX9_verdictOf_110 : decode cX9_verdictOf 110 = .ok (.iconst 1, 1) := by decide +kernel
theorem dX9_verdictOf_111 : decode cX9_verdictOf 111 = .ok (.goto 4, 3) := by decide +kernel
theorem dX9_verdictOf_114 : decode cX9_verdictOf 114 = .ok (.iconst 0, 1) := by decide +kernel
theorem dX9_verdictOf_115 : decode cX9_verdictOf 115 = .ok (.istore 5, 2) := by decide +kernel
theorem dX9_verdictOf_117 : decode cX9_verdictOf 117 = .ok (.iinc 6 1, 3) := by decide +kernel
theorem dX9_verdictOf_120 : decode cX9_verdictOf 120 = .ok (.goto (-106), 3) := by decide +kernel
theorem dX9_verdictOf_123 : decode cX9_verdictOf 123 = .ok (.iload_n 3, 1) := by decide +kernel
theorem dX9_verdictOf_124 : decode cX9_verdictOf 124 = .ok (.ifCond .eq 7, 3) := by decide +kernel
theorem dX9_verdictOf_127 : decode cX9_verdictOf 127 = .ok (.iload_n 2, 1) := by decide +kernel
theorem dX9_verdictOf_128 : decode cX9_verdictOf 128 = .ok (.goto 22, 3) := by decide +kernel
theorem dX9_verdictOf_131 : decode cX9_verdictOf 131 = .ok (.iload 4, 2) := by decide +kernel
theorem dX9_verdictOf_133 : decode cX9_verdictOf 133 = .ok (.ifCond .eq 7, 3) := by decide +kernel
theorem dX9_verdictOf_136 : decode cX9_verdictOf 136 = .ok (.iconst 1, 1) := by decide +kernel
theorem dX9_verdictOf_137 : decode cX9_verdictOf 137 = .ok (.goto 13, 3) := by decide +kernel
theorem dX9_verdictOf_140 : decode cX9_verdictOf 140 = .ok (.iload 5, 2) := by decide +kernel
theorem dX9_verdictOf_142 : decode cX9_verdictOf 142 = .ok (.ifCond .eq 7, 3) := by decide +kernel
theorem dX9_verdictOf_145 : decode cX9_verdictOf 145 = .ok (.iconst 0, 1) := by decide +kernel
theorem dX9_verdictOf_146 : decode cX9_verdictOf 146 = .ok (.goto 4, 3) := by decide +kernel
theorem dX9_verdictOf_149 : decode cX9_verdictOf 149 = .ok (.iconst 4, 1) := by decide +kernel
theorem dX9_verdictOf_150 : decode cX9_verdictOf 150 = .ok (.ireturn, 1) := by decide +kernel
theorem dX9_isGone_0 : decode cX9_isGone 0 = .ok (.aload_n 0, 1) := by decide +kernel
theorem dX9_isGone_1 : decode cX9_isGone 1 = .ok (.iload_n 1, 1) := by decide +kernel
theorem dX9_isGone_2 : decode cX9_isGone 2 = .ok (.invokevirtual 294, 3) := by decide +kernel
theorem dX9_isGone_5 : decode cX9_isGone 5 = .ok (.istore_n 2, 1) := by decide +kernel
theorem dX9_isGone_6 : decode cX9_isGone 6 = .ok (.iload_n 2, 1) := by decide +kernel
theorem dX9_isGone_7 : decode cX9_isGone 7 = .ok (.iconst 2, 1) := by decide +kernel
theorem dX9_isGone_8 : decode cX9_isGone 8 = .ok (.if_icmp .eq 8, 3) := by decide +kernel
theorem dX9_isGone_11 : decode cX9_isGone 11 = .ok (.iload_n 2, 1) := by decide +kernel
theorem dX9_isGone_12 : decode cX9_isGone 12 = .ok (.iconst 3, 1) := by decide +kernel
theorem dX9_isGone_13 : decode cX9_isGone 13 = .ok (.if_icmp .ne 7, 3) := by decide +kernel
theorem dX9_isGone_16 : decode cX9_isGone 16 = .ok (.iconst 1, 1) := by decide +kernel
theorem dX9_isGone_17 : decode cX9_isGone 17 = .ok (.goto 4, 3) := by decide +kernel
theorem dX9_isGone_20 : decode cX9_isGone 20 = .ok (.iconst 0, 1) := by decide +kernel
theorem dX9_isGone_21 : decode cX9_isGone 21 = .ok (.ireturn, 1) := by decide +kernel
theorem dX9_isKey_0 : decode cX9_isKey 0 = .ok (.iload_n 0, 1) := by decide +kernel
theorem dX9_isKey_1 : decode cX9_isKey 1 = .ok (.i2l, 1) := by decide +kernel
theorem dX9_isKey_2 : decode cX9_isKey 2 = .ok (.lconst 0, 1) := by decide +kernel
theorem dX9_isKey_3 : decode cX9_isKey 3 = .ok (.ldc2_w 297, 3) := by decide +kernel
theorem dX9_isKey_6 : decode cX9_isKey 6 = .ok (.invokestatic 264, 3) := by decide +kernel
theorem dX9_isKey_9 : decode cX9_isKey 9 = .ok (.ireturn, 1) := by decide +kernel
theorem dX9_step_0 : decode cX9_step 0 = .ok (.iconst 0, 1) := by decide +kernel
theorem dX9_step_1 : decode cX9_step 1 = .ok (.istore 5, 2) := by decide +kernel
theorem dX9_step_3 : decode cX9_step 3 = .ok (.iload 5, 2) := by decide +kernel
theorem dX9_step_5 : decode cX9_step 5 = .ok (.aload_n 0, 1) := by decide +kernel
theorem dX9_step_6 : decode cX9_step 6 = .ok (.getfield 237, 3) := by decide +kernel
theorem dX9_step_9 : decode cX9_step 9 = .ok (.if_icmp .ge 41, 3) := by decide +kernel
theorem dX9_step_12 : decode cX9_step 12 = .ok (.aload_n 0, 1) := by decide +kernel
theorem dX9_step_13 : decode cX9_step 13 = .ok (.getfield 113, 3) := by decide +kernel
theorem dX9_step_16 : decode cX9_step 16 = .ok (.iload 5, 2) := by decide +kernel
theorem dX9_step_18 : decode cX9_step 18 = .ok (.iload 4, 2) := by decide +kernel
theorem dX9_step_20 : decode cX9_step 20 = .ok (.ifCond .eq 22, 3) := by decide +kernel
theorem dX9_step_23 : decode cX9_step 23 = .ok (.aload_n 0, 1) := by decide +kernel
theorem dX9_step_24 : decode cX9_step 24 = .ok (.getfield 110, 3) := by decide +kernel
theorem dX9_step_27 : decode cX9_step 27 = .ok (.bipush 60, 2) := by decide +kernel
theorem dX9_step_29 : decode cX9_step 29 = .ok (.iload_n 1, 1) := by decide +kernel
theorem dX9_step_30 : decode cX9_step 30 = .ok (.imul, 1) := by decide +kernel
theorem dX9_step_31 : decode cX9_step 31 = .ok (.iload 5, 2) := by decide +kernel
theorem dX9_step_33 : decode cX9_step 33 = .ok (.iadd, 1) := by decide +kernel
theorem dX9_step_34 : decode cX9_step 34 = .ok (.baload, 1) := by decide +kernel
theorem dX9_step_35 : decode cX9_step 35 = .ok (.ifCond .eq 7, 3) := by decide +kernel
theorem dX9_step_38 : decode cX9_step 38 = .ok (.iconst 1, 1) := by decide +kernel
theorem dX9_step_39 : decode cX9_step 39 = .ok (.goto 4, 3) := by decide +kernel
theorem dX9_step_42 : decode cX9_step 42 = .ok (.iconst 0, 1) := by decide +kernel
theorem dX9_step_43 : decode cX9_step 43 = .ok (.bastore, 1) := by decide +kernel
theorem dX9_step_44 : decode cX9_step 44 = .ok (.iinc 5 1, 3) := by decide +kernel
theorem dX9_step_47 : decode cX9_step 47 = .ok (.goto (-44), 3) := by decide +kernel
theorem dX9_step_50 : decode cX9_step 50 = .ok (.iconst 0, 1) := by decide +kernel
theorem dX9_step_51 : decode cX9_step 51 = .ok (.istore 5, 2) := by decide +kernel
theorem dX9_step_53 : decode cX9_step 53 = .ok (.iload 5, 2) := by decide +kernel
theorem dX9_step_55 : decode cX9_step 55 = .ok (.aload_n 0, 1) := by decide +kernel
theorem dX9_step_56 : decode cX9_step 56 = .ok (.getfield 237, 3) := by decide +kernel
theorem dX9_step_59 : decode cX9_step 59 = .ok (.if_icmp .ge 57, 3) := by decide +kernel
theorem dX9_step_62 : decode cX9_step 62 = .ok (.iload_n 2, 1) := by decide +kernel
theorem dX9_step_63 : decode cX9_step 63 = .ok (.istore 6, 2) := by decide +kernel
theorem dX9_step_65 : decode cX9_step 65 = .ok (.iload 6, 2) := by decide +kernel
theorem dX9_step_67 : decode cX9_step 67 = .ok (.iload_n 3, 1) := by decide +kernel
theorem dX9_step_68 : decode cX9_step 68 = .ok (.if_icmp .gt 42, 3) := by decide +kernel
theorem dX9_step_71 : decode cX9_step 71 = .ok (.aload_n 0, 1) := by decide +kernel
theorem dX9_step_72 : decode cX9_step 72 = .ok (.getfield 110, 3) := by decide +kernel
theorem dX9_step_75 : decode cX9_step 75 = .ok (.bipush 60, 2) := by decide +kernel
theorem dX9_step_77 : decode cX9_step 77 = .ok (.iload_n 1, 1) := by decide +kernel
theorem dX9_step_78 : decode cX9_step 78 = .ok (.imul, 1) := by decide +kernel
theorem dX9_step_79 : decode cX9_step 79 = .ok (.iload 5, 2) := by decide +kernel
theorem dX9_step_81 : decode cX9_step 81 = .ok (.iadd, 1) := by decide +kernel
theorem dX9_step_82 : decode cX9_step 82 = .ok (.baload, 1) := by decide +kernel
theorem dX9_step_83 : decode cX9_step 83 = .ok (.ifCond .eq 27, 3) := by decide +kernel
theorem dX9_step_86 : decode cX9_step 86 = .ok (.aload_n 0, 1) := by decide +kernel
theorem dX9_step_87 : decode cX9_step 87 = .ok (.getfield 113, 3) := by decide +kernel
theorem dX9_step_90 : decode cX9_step 90 = .ok (.aload_n 0, 1) := by decide +kernel
theorem dX9_step_91 : decode cX9_step 91 = .ok (.getfield 85, 3) := by decide +kernel
theorem dX9_step_94 : decode cX9_step 94 = .ok (.iconst 4, 1) := by decide +kernel
theorem dX9_step_95 : decode cX9_step 95 = .ok (.iload 5, 2) := by decide +kernel
theorem dX9_step_97 : decode cX9_step 97 = .ok (.imul, 1) := by decide +kernel
theorem dX9_step_98 : decode cX9_step 98 = .ok (.iload 6, 2) := by decide +kernel
theorem dX9_step_100 : decode cX9_step 100 = .ok (.iadd, 1) := by decide +kernel
theorem dX9_step_101 : decode cX9_step 101 = .ok (.iaload, 1) := by decide +kernel
theorem dX9_step_102 : decode cX9_step 102 = .ok (.iconst 1, 1) := by decide +kernel
theorem dX9_step_103 : decode cX9_step 103 = .ok (.bastore, 1) := by decide +kernel
theorem dX9_step_104 : decode cX9_step 104 = .ok (.iinc 6 1, 3) := by decide +kernel
theorem dX9_step_107 : decode cX9_step 107 = .ok (.goto (-42), 3) := by decide +kernel
theorem dX9_step_110 : decode cX9_step 110 = .ok (.iinc 5 1, 3) := by decide +kernel
theorem dX9_step_113 : decode cX9_step 113 = .ok (.goto (-60), 3) := by decide +kernel
theorem dX9_step_116 : decode cX9_step 116 = .ok (.iconst 0, 1) := by decide +kernel
theorem dX9_step_117 : decode cX9_step 117 = .ok (.istore 5, 2) := by decide +kernel
theorem dX9_step_119 : decode cX9_step 119 = .ok (.iload 5, 2) := by decide +kernel
theorem dX9_step_121 : decode cX9_step 121 = .ok (.aload_n 0, 1) := by decide +kernel
theorem dX9_step_122 : decode cX9_step 122 = .ok (.getfield 237, 3) := by decide +kernel
theorem dX9_step_125 : decode cX9_step 125 = .ok (.if_icmp .ge 28, 3) := by decide +kernel
theorem dX9_step_128 : decode cX9_step 128 = .ok (.aload_n 0, 1) := by decide +kernel
theorem dX9_step_129 : decode cX9_step 129 = .ok (.getfield 110, 3) := by decide +kernel
theorem dX9_step_132 : decode cX9_step 132 = .ok (.bipush 60, 2) := by decide +kernel
theorem dX9_step_134 : decode cX9_step 134 = .ok (.iload_n 1, 1) := by decide +kernel
theorem dX9_step_135 : decode cX9_step 135 = .ok (.imul, 1) := by decide +kernel
theorem dX9_step_136 : decode cX9_step 136 = .ok (.iload 5, 2) := by decide +kernel
theorem dX9_step_138 : decode cX9_step 138 = .ok (.iadd, 1) := by decide +kernel
theorem dX9_step_139 : decode cX9_step 139 = .ok (.aload_n 0, 1) := by decide +kernel
theorem dX9_step_140 : decode cX9_step 140 = .ok (.getfield 113, 3) := by decide +kernel
theorem dX9_step_143 : decode cX9_step 143 = .ok (.iload 5, 2) := by decide +kernel
theorem dX9_step_145 : decode cX9_step 145 = .ok (.baload, 1) := by decide +kernel
theorem dX9_step_146 : decode cX9_step 146 = .ok (.bastore, 1) := by decide +kernel
theorem dX9_step_147 : decode cX9_step 147 = .ok (.iinc 5 1, 3) := by decide +kernel
theorem dX9_step_150 : decode cX9_step 150 = .ok (.goto (-31), 3) := by decide +kernel
theorem dX9_step_153 : decode cX9_step 153 = .ok (.return_, 1) := by decide +kernel
theorem dX9_event_0 : decode cX9_event 0 = .ok (.aload_n 0, 1) := by decide +kernel
theorem dX9_event_1 : decode cX9_event 1 = .ok (.getfield 257, 3) := by decide +kernel
theorem dX9_event_4 : decode cX9_event 4 = .ok (.ifCond .ne 6, 3) := by decide +kernel
theorem dX9_event_7 : decode cX9_event 7 = .ok (.bipush (-3), 2) := by decide +kernel
theorem dX9_event_9 : decode cX9_event 9 = .ok (.ireturn, 1) := by decide +kernel
theorem dX9_event_10 : decode cX9_event 10 = .ok (.iload_n 1, 1) := by decide +kernel
theorem dX9_event_11 : decode cX9_event 11 = .ok (.i2l, 1) := by decide +kernel
theorem dX9_event_12 : decode cX9_event 12 = .ok (.lconst 0, 1) := by decide +kernel
theorem dX9_event_13 : decode cX9_event 13 = .ok (.ldc2_w 271, 3) := by decide +kernel
theorem dX9_event_16 : decode cX9_event 16 = .ok (.invokestatic 264, 3) := by decide +kernel
theorem dX9_event_19 : decode cX9_event 19 = .ok (.ifCond .eq 10, 3) := by decide +kernel
theorem dX9_event_22 : decode cX9_event 22 = .ok (.iload_n 2, 1) := by decide +kernel
theorem dX9_event_23 : decode cX9_event 23 = .ok (.invokestatic 299, 3) := by decide +kernel
theorem dX9_event_26 : decode cX9_event 26 = .ok (.ifCond .ne 5, 3) := by decide +kernel
theorem dX9_event_29 : decode cX9_event 29 = .ok (.iconst (-1), 1) := by decide +kernel
theorem dX9_event_30 : decode cX9_event 30 = .ok (.ireturn, 1) := by decide +kernel
theorem dX9_event_31 : decode cX9_event 31 = .ok (.aload_n 0, 1) := by decide +kernel
theorem dX9_event_32 : decode cX9_event 32 = .ok (.iload_n 2, 1) := by decide +kernel
theorem dX9_event_33 : decode cX9_event 33 = .ok (.invokevirtual 302, 3) := by decide +kernel
theorem dX9_event_36 : decode cX9_event 36 = .ok (.ifCond .ne 21, 3) := by decide +kernel
theorem dX9_event_39 : decode cX9_event 39 = .ok (.aload_n 0, 1) := by decide +kernel
theorem dX9_event_40 : decode cX9_event 40 = .ok (.iload_n 2, 1) := by decide +kernel
theorem dX9_event_41 : decode cX9_event 41 = .ok (.iload_n 1, 1) := by decide +kernel
theorem dX9_event_42 : decode cX9_event 42 = .ok (.iload_n 1, 1) := by decide +kernel
theorem dX9_event_43 : decode cX9_event 43 = .ok (.iconst 0, 1) := by decide +kernel
theorem dX9_event_44 : decode cX9_event 44 = .ok (.invokevirtual 305, 3) := by decide +kernel
theorem dX9_event_47 : decode cX9_event 47 = .ok (.aload_n 0, 1) := by decide +kernel
theorem dX9_event_48 : decode cX9_event 48 = .ok (.getfield 116, 3) := by decide +kernel
theorem dX9_event_51 : decode cX9_event 51 = .ok (.iload_n 2, 1) := by decide +kernel
theorem dX9_event_52 : decode cX9_event 52 = .ok (.dup2, 1) := by decide +kernel
theorem dX9_event_53 : decode cX9_event 53 = .ok (.iaload, 1) := by decide +kernel
theorem dX9_event_54 : decode cX9_event 54 = .ok (.iconst 1, 1) := by decide +kernel
theorem dX9_event_55 : decode cX9_event 55 = .ok (.iadd, 1) := by decide +kernel
theorem dX9_event_56 : decode cX9_event 56 = .ok (.iastore, 1) := by decide +kernel
theorem dX9_event_57 : decode cX9_event 57 = .ok (.aload_n 0, 1) := by decide +kernel
theorem dX9_event_58 : decode cX9_event 58 = .ok (.iload_n 2, 1) := by decide +kernel
theorem dX9_event_59 : decode cX9_event 59 = .ok (.invokevirtual 294, 3) := by decide +kernel
theorem dX9_event_62 : decode cX9_event 62 = .ok (.ireturn, 1) := by decide +kernel
theorem dX9_lost_0 : decode cX9_lost 0 = .ok (.aload_n 0, 1) := by decide +kernel
theorem dX9_lost_1 : decode cX9_lost 1 = .ok (.getfield 257, 3) := by decide +kernel
theorem dX9_lost_4 : decode cX9_lost 4 = .ok (.ifCond .ne 6, 3) := by decide +kernel
theorem dX9_lost_7 : decode cX9_lost 7 = .ok (.bipush (-3), 2) := by decide +kernel
theorem dX9_lost_9 : decode cX9_lost 9 = .ok (.ireturn, 1) := by decide +kernel
theorem dX9_lost_10 : decode cX9_lost 10 = .ok (.iload_n 1, 1) := by decide +kernel
theorem dX9_lost_11 : decode cX9_lost 11 = .ok (.invokestatic 299, 3) := by decide +kernel
theorem dX9_lost_14 : decode cX9_lost 14 = .ok (.ifCond .ne 5, 3) := by decide +kernel
theorem dX9_lost_17 : decode cX9_lost 17 = .ok (.iconst (-1), 1) := by decide +kernel
theorem dX9_lost_18 : decode cX9_lost 18 = .ok (.ireturn, 1) := by decide +kernel
theorem dX9_lost_19 : decode cX9_lost 19 = .ok (.iload_n 2, 1) := by decide +kernel
theorem dX9_lost_20 : decode cX9_lost 20 = .ok (.i2l, 1) := by decide +kernel
theorem dX9_lost_21 : decode cX9_lost 21 = .ok (.lconst 1, 1) := by decide +kernel
theorem dX9_lost_22 : decode cX9_lost 22 = .ok (.ldc2_w 309, 3) := by decide +kernel
theorem dX9_lost_25 : decode cX9_lost 25 = .ok (.invokestatic 264, 3) := by decide +kernel
theorem dX9_lost_28 : decode cX9_lost 28 = .ok (.ifCond .ne 6, 3) := by decide +kernel
theorem dX9_lost_31 : decode cX9_lost 31 = .ok (.bipush (-2), 2) := by decide +kernel
theorem dX9_lost_33 : decode cX9_lost 33 = .ok (.ireturn, 1) := by decide +kernel
theorem dX9_lost_34 : decode cX9_lost 34 = .ok (.aload_n 0, 1) := by decide +kernel
theorem dX9_lost_35 : decode cX9_lost 35 = .ok (.iload_n 1, 1) := by decide +kernel
theorem dX9_lost_36 : decode cX9_lost 36 = .ok (.invokevirtual 302, 3) := by decide +kernel
theorem dX9_lost_39 : decode cX9_lost 39 = .ok (.istore_n 3, 1) := by decide +kernel
theorem dX9_lost_40 : decode cX9_lost 40 = .ok (.iconst 0, 1) := by decide +kernel
theorem dX9_lost_41 : decode cX9_lost 41 = .ok (.istore 4, 2) := by decide +kernel
theorem dX9_lost_43 : decode cX9_lost 43 = .ok (.iload 4, 2) := by decide +kernel
theorem dX9_lost_45 : decode cX9_lost 45 = .ok (.iload_n 2, 1) := by decide +kernel
theorem dX9_lost_46 : decode cX9_lost 46 = .ok (.if_icmp .ge 21, 3) := by decide +kernel
theorem dX9_lost_49 : decode cX9_lost 49 = .ok (.iload_n 3, 1) := by decide +kernel
theorem dX9_lost_50 : decode cX9_lost 50 = .ok (.ifCond .ne 17, 3) := by decide +kernel
theorem dX9_lost_53 : decode cX9_lost 53 = .ok (.aload_n 0, 1) := by decide +kernel
theorem dX9_lost_54 : decode cX9_lost 54 = .ok (.iload_n 1, 1) := by decide +kernel
theorem dX9_lost_55 : decode cX9_lost 55 = .ok (.iconst 0, 1) := by decide +kernel
theorem dX9_lost_56 : decode cX9_lost 56 = .ok (.iconst 3, 1) := by decide +kernel
theorem dX9_lost_57 : decode cX9_lost 57 = .ok (.iconst 1, 1) := by decide +kernel
theorem dX9_lost_58 : decode cX9_lost 58 = .ok (.invokevirtual 305, 3) := by decide +kernel
theorem dX9_lost_61 : decode cX9_lost 61 = .ok (.iinc 4 1, 3) := by decide +kernel
theorem dX9_lost_64 : decode cX9_lost 64 = .ok (.goto (-21), 3) := by decide +kernel
theorem dX9_lost_67 : decode cX9_lost 67 = .ok (.aload_n 0, 1) := by decide +kernel
theorem dX9_lost_68 : decode cX9_lost 68 = .ok (.iload_n 1, 1) := by decide +kernel
theorem dX9_lost_69 : decode cX9_lost 69 = .ok (.invokevirtual 294, 3) := by decide +kernel
theorem dX9_lost_72 : decode cX9_lost 72 = .ok (.ireturn, 1) := by decide +kernel
theorem dX9_told_0 : decode cX9_told 0 = .ok (.aload_n 0, 1) := by decide +kernel
theorem dX9_told_1 : decode cX9_told 1 = .ok (.getfield 257, 3) := by decide +kernel
theorem dX9_told_4 : decode cX9_told 4 = .ok (.ifCond .ne 6, 3) := by decide +kernel
theorem dX9_told_7 : decode cX9_told 7 = .ok (.bipush (-3), 2) := by decide +kernel
theorem dX9_told_9 : decode cX9_told 9 = .ok (.ireturn, 1) := by decide +kernel
theorem dX9_told_10 : decode cX9_told 10 = .ok (.iload_n 1, 1) := by decide +kernel
theorem dX9_told_11 : decode cX9_told 11 = .ok (.invokestatic 299, 3) := by decide +kernel
theorem dX9_told_14 : decode cX9_told 14 = .ok (.ifCond .eq 11, 3) := by decide +kernel
theorem dX9_told_17 : decode cX9_told 17 = .ok (.aload_n 0, 1) := by decide +kernel
theorem dX9_told_18 : decode cX9_told 18 = .ok (.iload_n 1, 1) := by decide +kernel
theorem dX9_told_19 : decode cX9_told 19 = .ok (.invokevirtual 294, 3) := by decide +kernel
theorem dX9_told_22 : decode cX9_told 22 = .ok (.goto 4, 3) := by decide +kernel
theorem dX9_told_25 : decode cX9_told 25 = .ok (.iconst (-1), 1) := by decide +kernel
theorem dX9_told_26 : decode cX9_told 26 = .ok (.ireturn, 1) := by decide +kernel
theorem dX9_may_0 : decode cX9_may 0 = .ok (.aload_n 0, 1) := by decide +kernel
theorem dX9_may_1 : decode cX9_may 1 = .ok (.getfield 257, 3) := by decide +kernel
theorem dX9_may_4 : decode cX9_may 4 = .ok (.ifCond .ne 6, 3) := by decide +kernel
theorem dX9_may_7 : decode cX9_may 7 = .ok (.bipush (-3), 2) := by decide +kernel
theorem dX9_may_9 : decode cX9_may 9 = .ok (.ireturn, 1) := by decide +kernel
theorem dX9_may_10 : decode cX9_may 10 = .ok (.iload_n 1, 1) := by decide +kernel
theorem dX9_may_11 : decode cX9_may 11 = .ok (.invokestatic 299, 3) := by decide +kernel
theorem dX9_may_14 : decode cX9_may 14 = .ok (.ifCond .ne 5, 3) := by decide +kernel
theorem dX9_may_17 : decode cX9_may 17 = .ok (.iconst (-1), 1) := by decide +kernel
theorem dX9_may_18 : decode cX9_may 18 = .ok (.ireturn, 1) := by decide +kernel
theorem dX9_may_19 : decode cX9_may 19 = .ok (.iconst 0, 1) := by decide +kernel
theorem dX9_may_20 : decode cX9_may 20 = .ok (.istore_n 2, 1) := by decide +kernel
theorem dX9_may_21 : decode cX9_may 21 = .ok (.iconst 0, 1) := by decide +kernel
theorem dX9_may_22 : decode cX9_may 22 = .ok (.istore_n 3, 1) := by decide +kernel
theorem dX9_may_23 : decode cX9_may 23 = .ok (.iload_n 3, 1) := by decide +kernel
theorem dX9_may_24 : decode cX9_may 24 = .ok (.aload_n 0, 1) := by decide +kernel
theorem dX9_may_25 : decode cX9_may 25 = .ok (.getfield 237, 3) := by decide +kernel
theorem dX9_may_28 : decode cX9_may 28 = .ok (.if_icmp .ge 31, 3) := by decide +kernel
theorem dX9_may_31 : decode cX9_may 31 = .ok (.iload_n 2, 1) := by decide +kernel
theorem dX9_may_32 : decode cX9_may 32 = .ok (.aload_n 0, 1) := by decide +kernel
theorem dX9_may_33 : decode cX9_may 33 = .ok (.getfield 110, 3) := by decide +kernel
theorem dX9_may_36 : decode cX9_may 36 = .ok (.bipush 60, 2) := by decide +kernel
theorem dX9_may_38 : decode cX9_may 38 = .ok (.iload_n 1, 1) := by decide +kernel
theorem dX9_may_39 : decode cX9_may 39 = .ok (.imul, 1) := by decide +kernel
theorem dX9_may_40 : decode cX9_may 40 = .ok (.iload_n 3, 1) := by decide +kernel
theorem dX9_may_41 : decode cX9_may 41 = .ok (.iadd, 1) := by decide +kernel
theorem dX9_may_42 : decode cX9_may 42 = .ok (.baload, 1) := by decide +kernel
theorem dX9_may_43 : decode cX9_may 43 = .ok (.ifCond .eq 7, 3) := by decide +kernel
theorem dX9_may_46 : decode cX9_may 46 = .ok (.iconst 1, 1) := by decide +kernel
theorem dX9_may_47 : decode cX9_may 47 = .ok (.goto 4, 3) := by decide +kernel
theorem dX9_may_50 : decode cX9_may 50 = .ok (.iconst 0, 1) := by decide +kernel
theorem dX9_may_51 : decode cX9_may 51 = .ok (.iadd, 1) := by decide +kernel
theorem dX9_may_52 : decode cX9_may 52 = .ok (.istore_n 2, 1) := by decide +kernel
theorem dX9_may_53 : decode cX9_may 53 = .ok (.iinc 3 1, 3) := by decide +kernel
theorem dX9_may_56 : decode cX9_may 56 = .ok (.goto (-33), 3) := by decide +kernel
theorem dX9_may_59 : decode cX9_may 59 = .ok (.iload_n 2, 1) := by decide +kernel
theorem dX9_may_60 : decode cX9_may 60 = .ok (.ireturn, 1) := by decide +kernel
theorem dX9_state__0 : decode cX9_state_ 0 = .ok (.aload_n 0, 1) := by decide +kernel
theorem dX9_state__1 : decode cX9_state_ 1 = .ok (.getfield 257, 3) := by decide +kernel
theorem dX9_state__4 : decode cX9_state_ 4 = .ok (.ifCond .ne 6, 3) := by decide +kernel
theorem dX9_state__7 : decode cX9_state_ 7 = .ok (.bipush (-3), 2) := by decide +kernel
theorem dX9_state__9 : decode cX9_state_ 9 = .ok (.ireturn, 1) := by decide +kernel
theorem dX9_state__10 : decode cX9_state_ 10 = .ok (.iload_n 1, 1) := by decide +kernel
theorem dX9_state__11 : decode cX9_state_ 11 = .ok (.invokestatic 299, 3) := by decide +kernel
theorem dX9_state__14 : decode cX9_state_ 14 = .ok (.ifCond .ne 5, 3) := by decide +kernel
theorem dX9_state__17 : decode cX9_state_ 17 = .ok (.iconst (-1), 1) := by decide +kernel
theorem dX9_state__18 : decode cX9_state_ 18 = .ok (.ireturn, 1) := by decide +kernel
theorem dX9_state__19 : decode cX9_state_ 19 = .ok (.iload_n 2, 1) := by decide +kernel
theorem dX9_state__20 : decode cX9_state_ 20 = .ok (.istore_n 3, 1) := by decide +kernel
theorem dX9_state__21 : decode cX9_state_ 21 = .ok (.iconst 0, 1) := by decide +kernel
theorem dX9_state__22 : decode cX9_state_ 22 = .ok (.istore 4, 2) := by decide +kernel
theorem dX9_state__24 : decode cX9_state_ 24 = .ok (.iload 4, 2) := by decide +kernel
theorem dX9_state__26 : decode cX9_state_ 26 = .ok (.aload_n 0, 1) := by decide +kernel
theorem dX9_state__27 : decode cX9_state_ 27 = .ok (.getfield 237, 3) := by decide +kernel
theorem dX9_state__30 : decode cX9_state_ 30 = .ok (.if_icmp .ge 38, 3) := by decide +kernel
theorem dX9_state__33 : decode cX9_state_ 33 = .ok (.iload_n 2, 1) := by decide +kernel
theorem dX9_state__34 : decode cX9_state_ 34 = .ok (.ifCond .lt 34, 3) := by decide +kernel
theorem dX9_state__37 : decode cX9_state_ 37 = .ok (.aload_n 0, 1) := by decide +kernel
theorem dX9_state__38 : decode cX9_state_ 38 = .ok (.getfield 110, 3) := by decide +kernel
theorem dX9_state__41 : decode cX9_state_ 41 = .ok (.bipush 60, 2) := by decide +kernel
theorem dX9_state__43 : decode cX9_state_ 43 = .ok (.iload_n 1, 1) := by decide +kernel
theorem dX9_state__44 : decode cX9_state_ 44 = .ok (.imul, 1) := by decide +kernel
theorem dX9_state__45 : decode cX9_state_ 45 = .ok (.iload 4, 2) := by decide +kernel
theorem dX9_state__47 : decode cX9_state_ 47 = .ok (.iadd, 1) := by decide +kernel
theorem dX9_state__48 : decode cX9_state_ 48 = .ok (.baload, 1) := by decide +kernel
theorem dX9_state__49 : decode cX9_state_ 49 = .ok (.ifCond .eq 13, 3) := by decide +kernel
theorem dX9_state__52 : decode cX9_state_ 52 = .ok (.iload_n 3, 1) := by decide +kernel
theorem dX9_state__53 : decode cX9_state_ 53 = .ok (.ifCond .ne 6, 3) := by decide +kernel
theorem dX9_state__56 : decode cX9_state_ 56 = .ok (.iload 4, 2) := by decide +kernel
theorem dX9_state__58 : decode cX9_state_ 58 = .ok (.ireturn, 1) := by decide +kernel
theorem dX9_state__59 : decode cX9_state_ 59 = .ok (.iinc 3 (-1), 3) := by decide +kernel
theorem dX9_state__62 : decode cX9_state_ 62 = .ok (.iinc 4 1, 3) := by decide +kernel
theorem dX9_state__65 : decode cX9_state_ 65 = .ok (.goto (-41), 3) := by decide +kernel
theorem dX9_state__68 : decode cX9_state_ 68 = .ok (.bipush (-9), 2) := by decide +kernel
theorem dX9_state__70 : decode cX9_state_ 70 = .ok (.ireturn, 1) := by decide +kernel
theorem dX9_events_0 : decode cX9_events 0 = .ok (.aload_n 0, 1) := by decide +kernel
theorem dX9_events_1 : decode cX9_events 1 = .ok (.getfield 257, 3) := by decide +kernel
theorem dX9_events_4 : decode cX9_events 4 = .ok (.ifCond .ne 6, 3) := by decide +kernel
theorem dX9_events_7 : decode cX9_events 7 = .ok (.bipush (-3), 2) := by decide +kernel
theorem dX9_events_9 : decode cX9_events 9 = .ok (.ireturn, 1) := by decide +kernel
theorem dX9_events_10 : decode cX9_events 10 = .ok (.iload_n 1, 1) := by decide +kernel
theorem dX9_events_11 : decode cX9_events 11 = .ok (.invokestatic 299, 3) := by decide +kernel
theorem dX9_events_14 : decode cX9_events 14 = .ok (.ifCond .eq 12, 3) := by decide +kernel
theorem dX9_events_17 : decode cX9_events 17 = .ok (.aload_n 0, 1) := by decide +kernel
theorem dX9_events_18 : decode cX9_events 18 = .ok (.getfield 116, 3) := by decide +kernel
theorem dX9_events_21 : decode cX9_events 21 = .ok (.iload_n 1, 1) := by decide +kernel
theorem dX9_events_22 : decode cX9_events 22 = .ok (.iaload, 1) := by decide +kernel
theorem dX9_events_23 : decode cX9_events 23 = .ok (.goto 4, 3) := by decide +kernel
theorem dX9_events_26 : decode cX9_events 26 = .ok (.iconst (-1), 1) := by decide +kernel
theorem dX9_events_27 : decode cX9_events 27 = .ok (.ireturn, 1) := by decide +kernel
theorem dX9_anew_0 : decode cX9_anew 0 = .ok (.aload_n 0, 1) := by decide +kernel
theorem dX9_anew_1 : decode cX9_anew 1 = .ok (.getfield 257, 3) := by decide +kernel
theorem dX9_anew_4 : decode cX9_anew 4 = .ok (.ifCond .ne 6, 3) := by decide +kernel
theorem dX9_anew_7 : decode cX9_anew 7 = .ok (.bipush (-3), 2) := by decide +kernel
theorem dX9_anew_9 : decode cX9_anew 9 = .ok (.ireturn, 1) := by decide +kernel
theorem dX9_anew_10 : decode cX9_anew 10 = .ok (.iload_n 1, 1) := by decide +kernel
theorem dX9_anew_11 : decode cX9_anew 11 = .ok (.invokestatic 299, 3) := by decide +kernel
theorem dX9_anew_14 : decode cX9_anew 14 = .ok (.ifCond .ne 5, 3) := by decide +kernel
theorem dX9_anew_17 : decode cX9_anew 17 = .ok (.iconst (-1), 1) := by decide +kernel
theorem dX9_anew_18 : decode cX9_anew 18 = .ok (.ireturn, 1) := by decide +kernel
theorem dX9_anew_19 : decode cX9_anew 19 = .ok (.aload_n 0, 1) := by decide +kernel
theorem dX9_anew_20 : decode cX9_anew 20 = .ok (.iload_n 1, 1) := by decide +kernel
theorem dX9_anew_21 : decode cX9_anew 21 = .ok (.invokevirtual 294, 3) := by decide +kernel
theorem dX9_anew_24 : decode cX9_anew 24 = .ok (.istore_n 2, 1) := by decide +kernel
theorem dX9_anew_25 : decode cX9_anew 25 = .ok (.aload_n 0, 1) := by decide +kernel
theorem dX9_anew_26 : decode cX9_anew 26 = .ok (.iload_n 1, 1) := by decide +kernel
theorem dX9_anew_27 : decode cX9_anew 27 = .ok (.invokevirtual 261, 3) := by decide +kernel
theorem dX9_anew_30 : decode cX9_anew 30 = .ok (.iload_n 2, 1) := by decide +kernel
theorem dX9_anew_31 : decode cX9_anew 31 = .ok (.ireturn, 1) := by decide +kernel
theorem dX9_keep_0 : decode cX9_keep 0 = .ok (.aload_n 0, 1) := by decide +kernel
theorem dX9_keep_1 : decode cX9_keep 1 = .ok (.getfield 257, 3) := by decide +kernel
theorem dX9_keep_4 : decode cX9_keep 4 = .ok (.ifCond .ne 6, 3) := by decide +kernel
theorem dX9_keep_7 : decode cX9_keep 7 = .ok (.bipush (-3), 2) := by decide +kernel
theorem dX9_keep_9 : decode cX9_keep 9 = .ok (.ireturn, 1) := by decide +kernel
theorem dX9_keep_10 : decode cX9_keep 10 = .ok (.aload_n 0, 1) := by decide +kernel
theorem dX9_keep_11 : decode cX9_keep 11 = .ok (.iconst 1, 1) := by decide +kernel
theorem dX9_keep_12 : decode cX9_keep 12 = .ok (.putfield 311, 3) := by decide +kernel
theorem dX9_keep_15 : decode cX9_keep 15 = .ok (.aload_n 0, 1) := by decide +kernel
theorem dX9_keep_16 : decode cX9_keep 16 = .ok (.aload_n 0, 1) := by decide +kernel
theorem dX9_keep_17 : decode cX9_keep 17 = .ok (.getfield 237, 3) := by decide +kernel
theorem dX9_keep_20 : decode cX9_keep 20 = .ok (.putfield 314, 3) := by decide +kernel
theorem dX9_keep_23 : decode cX9_keep 23 = .ok (.iconst 0, 1) := by decide +kernel
theorem dX9_keep_24 : decode cX9_keep 24 = .ok (.istore_n 1, 1) := by decide +kernel
theorem dX9_keep_25 : decode cX9_keep 25 = .ok (.iload_n 1, 1) := by decide +kernel
theorem dX9_keep_26 : decode cX9_keep 26 = .ok (.iconst 4, 1) := by decide +kernel
theorem dX9_keep_27 : decode cX9_keep 27 = .ok (.aload_n 0, 1) := by decide +kernel
theorem dX9_keep_28 : decode cX9_keep 28 = .ok (.getfield 237, 3) := by decide +kernel
theorem dX9_keep_31 : decode cX9_keep 31 = .ok (.imul, 1) := by decide +kernel
theorem dX9_keep_32 : decode cX9_keep 32 = .ok (.if_icmp .ge 21, 3) := by decide +kernel
theorem dX9_keep_35 : decode cX9_keep 35 = .ok (.aload_n 0, 1) := by decide +kernel
theorem dX9_keep_36 : decode cX9_keep 36 = .ok (.getfield 119, 3) := by decide +kernel
theorem dX9_keep_39 : decode cX9_keep 39 = .ok (.iload_n 1, 1) := by decide +kernel
theorem dX9_keep_40 : decode cX9_keep 40 = .ok (.aload_n 0, 1) := by decide +kernel
theorem dX9_keep_41 : decode cX9_keep 41 = .ok (.getfield 85, 3) := by decide +kernel
theorem dX9_keep_44 : decode cX9_keep 44 = .ok (.iload_n 1, 1) := by decide +kernel
theorem dX9_keep_45 : decode cX9_keep 45 = .ok (.iaload, 1) := by decide +kernel
theorem dX9_keep_46 : decode cX9_keep 46 = .ok (.iastore, 1) := by decide +kernel
theorem dX9_keep_47 : decode cX9_keep 47 = .ok (.iinc 1 1, 3) := by decide +kernel
theorem dX9_keep_50 : decode cX9_keep 50 = .ok (.goto (-25), 3) := by decide +kernel
theorem dX9_keep_53 : decode cX9_keep 53 = .ok (.iconst 0, 1) := by decide +kernel
theorem dX9_keep_54 : decode cX9_keep 54 = .ok (.istore_n 1, 1) := by decide +kernel
theorem dX9_keep_55 : decode cX9_keep 55 = .ok (.iload_n 1, 1) := by decide +kernel
theorem dX9_keep_56 : decode cX9_keep 56 = .ok (.aload_n 0, 1) := by decide +kernel
theorem dX9_keep_57 : decode cX9_keep 57 = .ok (.getfield 237, 3) := by decide +kernel
theorem dX9_keep_60 : decode cX9_keep 60 = .ok (.if_icmp .ge 21, 3) := by decide +kernel
theorem dX9_keep_63 : decode cX9_keep 63 = .ok (.aload_n 0, 1) := by decide +kernel
theorem dX9_keep_64 : decode cX9_keep 64 = .ok (.getfield 122, 3) := by decide +kernel
theorem dX9_keep_67 : decode cX9_keep 67 = .ok (.iload_n 1, 1) := by decide +kernel
theorem dX9_keep_68 : decode cX9_keep 68 = .ok (.aload_n 0, 1) := by decide +kernel
theorem dX9_keep_69 : decode cX9_keep 69 = .ok (.getfield 88, 3) := by decide +kernel
theorem dX9_keep_72 : decode cX9_keep 72 = .ok (.iload_n 1, 1) := by decide +kernel
theorem dX9_keep_73 : decode cX9_keep 73 = .ok (.baload, 1) := by decide +kernel
theorem dX9_keep_74 : decode cX9_keep 74 = .ok (.bastore, 1) := by decide +kernel
theorem dX9_keep_75 : decode cX9_keep 75 = .ok (.iinc 1 1, 3) := by decide +kernel
theorem dX9_keep_78 : decode cX9_keep 78 = .ok (.goto (-23), 3) := by decide +kernel
theorem dX9_keep_81 : decode cX9_keep 81 = .ok (.aload_n 0, 1) := by decide +kernel
theorem dX9_keep_82 : decode cX9_keep 82 = .ok (.getfield 237, 3) := by decide +kernel
theorem dX9_keep_85 : decode cX9_keep 85 = .ok (.ireturn, 1) := by decide +kernel
theorem dX9_meetPair_0 : decode cX9_meetPair 0 = .ok (.aload_n 0, 1) := by decide +kernel
theorem dX9_meetPair_1 : decode cX9_meetPair 1 = .ok (.getfield 131, 3) := by decide +kernel
theorem dX9_meetPair_4 : decode cX9_meetPair 4 = .ok (.iload_n 1, 1) := by decide +kernel
theorem dX9_meetPair_5 : decode cX9_meetPair 5 = .ok (.baload, 1) := by decide +kernel
theorem dX9_meetPair_6 : decode cX9_meetPair 6 = .ok (.ifCond .ne 40, 3) := by decide +kernel
theorem dX9_meetPair_9 : decode cX9_meetPair 9 = .ok (.aload_n 0, 1) := by decide +kernel
theorem dX9_meetPair_10 : decode cX9_meetPair 10 = .ok (.getfield 131, 3) := by decide +kernel
theorem dX9_meetPair_13 : decode cX9_meetPair 13 = .ok (.iload_n 1, 1) := by decide +kernel
theorem dX9_meetPair_14 : decode cX9_meetPair 14 = .ok (.iconst 1, 1) := by decide +kernel
theorem dX9_meetPair_15 : decode cX9_meetPair 15 = .ok (.bastore, 1) := by decide +kernel
theorem dX9_meetPair_16 : decode cX9_meetPair 16 = .ok (.aload_n 0, 1) := by decide +kernel
theorem dX9_meetPair_17 : decode cX9_meetPair 17 = .ok (.getfield 125, 3) := by decide +kernel
theorem dX9_meetPair_20 : decode cX9_meetPair 20 = .ok (.aload_n 0, 1) := by decide +kernel
theorem dX9_meetPair_21 : decode cX9_meetPair 21 = .ok (.getfield 317, 3) := by decide +kernel
theorem dX9_meetPair_24 : decode cX9_meetPair 24 = .ok (.iload_n 1, 1) := by decide +kernel
theorem dX9_meetPair_25 : decode cX9_meetPair 25 = .ok (.iastore, 1) := by decide +kernel
theorem dX9_meetPair_26 : decode cX9_meetPair 26 = .ok (.aload_n 0, 1) := by decide +kernel
theorem dX9_meetPair_27 : decode cX9_meetPair 27 = .ok (.getfield 128, 3) := by decide +kernel
theorem dX9_meetPair_30 : decode cX9_meetPair 30 = .ok (.aload_n 0, 1) := by decide +kernel
theorem dX9_meetPair_31 : decode cX9_meetPair 31 = .ok (.getfield 317, 3) := by decide +kernel
theorem dX9_meetPair_34 : decode cX9_meetPair 34 = .ok (.iload_n 2, 1) := by decide +kernel
theorem dX9_meetPair_35 : decode cX9_meetPair 35 = .ok (.iastore, 1) := by decide +kernel
theorem dX9_meetPair_36 : decode cX9_meetPair 36 = .ok (.aload_n 0, 1) := by decide +kernel
theorem dX9_meetPair_37 : decode cX9_meetPair 37 = .ok (.dup, 1) := by decide +kernel
theorem dX9_meetPair_38 : decode cX9_meetPair 38 = .ok (.getfield 317, 3) := by decide +kernel
theorem dX9_meetPair_41 : decode cX9_meetPair 41 = .ok (.iconst 1, 1) := by decide +kernel
theorem dX9_meetPair_42 : decode cX9_meetPair 42 = .ok (.iadd, 1) := by decide +kernel
theorem dX9_meetPair_43 : decode cX9_meetPair 43 = .ok (.putfield 317, 3) := by decide +kernel
theorem dX9_meetPair_46 : decode cX9_meetPair 46 = .ok (.return_, 1) := by decide +kernel
theorem dX9_pairUp_0 : decode cX9_pairUp 0 = .ok (.aload_n 0, 1) := by decide +kernel
theorem dX9_pairUp_1 : decode cX9_pairUp 1 = .ok (.iconst 0, 1) := by decide +kernel
theorem dX9_pairUp_2 : decode cX9_pairUp 2 = .ok (.putfield 317, 3) := by decide +kernel
theorem dX9_pairUp_5 : decode cX9_pairUp 5 = .ok (.iconst 0, 1) := by decide +kernel
theorem dX9_pairUp_6 : decode cX9_pairUp 6 = .ok (.istore_n 1, 1) := by decide +kernel
theorem dX9_pairUp_7 : decode cX9_pairUp 7 = .ok (.iload_n 1, 1) := by decide +kernel
theorem dX9_pairUp_8 : decode cX9_pairUp 8 = .ok (.sipush 3600, 3) := by decide +kernel
theorem dX9_pairUp_11 : decode cX9_pairUp 11 = .ok (.if_icmp .ge 16, 3) := by decide +kernel
theorem dX9_pairUp_14 : decode cX9_pairUp 14 = .ok (.aload_n 0, 1) := by decide +kernel
theorem dX9_pairUp_15 : decode cX9_pairUp 15 = .ok (.getfield 131, 3) := by decide +kernel
theorem dX9_pairUp_18 : decode cX9_pairUp 18 = .ok (.iload_n 1, 1) := by decide +kernel
theorem dX9_pairUp_19 : decode cX9_pairUp 19 = .ok (.iconst 0, 1) := by decide +kernel
theorem dX9_pairUp_20 : decode cX9_pairUp 20 = .ok (.bastore, 1) := by decide +kernel
theorem dX9_pairUp_21 : decode cX9_pairUp 21 = .ok (.iinc 1 1, 3) := by decide +kernel
theorem dX9_pairUp_24 : decode cX9_pairUp 24 = .ok (.goto (-17), 3) := by decide +kernel
theorem dX9_pairUp_27 : decode cX9_pairUp 27 = .ok (.iconst 0, 1) := by decide +kernel
theorem dX9_pairUp_28 : decode cX9_pairUp 28 = .ok (.istore_n 1, 1) := by decide +kernel
theorem dX9_pairUp_29 : decode cX9_pairUp 29 = .ok (.iload_n 1, 1) := by decide +kernel
theorem dX9_pairUp_30 : decode cX9_pairUp 30 = .ok (.iconst 4, 1) := by decide +kernel
theorem dX9_pairUp_31 : decode cX9_pairUp 31 = .ok (.if_icmp .ge 30, 3) := by decide +kernel
theorem dX9_pairUp_34 : decode cX9_pairUp 34 = .ok (.aload_n 0, 1) := by decide +kernel
theorem dX9_pairUp_35 : decode cX9_pairUp 35 = .ok (.bipush 60, 2) := by decide +kernel
theorem dX9_pairUp_37 : decode cX9_pairUp 37 = .ok (.aload_n 0, 1) := by decide +kernel
theorem dX9_pairUp_38 : decode cX9_pairUp 38 = .ok (.getfield 85, 3) := by decide +kernel
theorem dX9_pairUp_41 : decode cX9_pairUp 41 = .ok (.iload_n 1, 1) := by decide +kernel
theorem dX9_pairUp_42 : decode cX9_pairUp 42 = .ok (.iaload, 1) := by decide +kernel
theorem dX9_pairUp_43 : decode cX9_pairUp 43 = .ok (.imul, 1) := by decide +kernel
theorem dX9_pairUp_44 : decode cX9_pairUp 44 = .ok (.aload_n 0, 1) := by decide +kernel
theorem dX9_pairUp_45 : decode cX9_pairUp 45 = .ok (.getfield 119, 3) := by decide +kernel
theorem dX9_pairUp_48 : decode cX9_pairUp 48 = .ok (.iload_n 1, 1) := by decide +kernel
theorem dX9_pairUp_49 : decode cX9_pairUp 49 = .ok (.iaload, 1) := by decide +kernel
theorem dX9_pairUp_50 : decode cX9_pairUp 50 = .ok (.iadd, 1) := by decide +kernel
theorem dX9_pairUp_51 : decode cX9_pairUp 51 = .ok (.iconst 1, 1) := by decide +kernel
theorem dX9_pairUp_52 : decode cX9_pairUp 52 = .ok (.invokevirtual 320, 3) := by decide +kernel
theorem dX9_pairUp_55 : decode cX9_pairUp 55 = .ok (.iinc 1 1, 3) := by decide +kernel
theorem dX9_pairUp_58 : decode cX9_pairUp 58 = .ok (.goto (-29), 3) := by decide +kernel
theorem dX9_pairUp_61 : decode cX9_pairUp 61 = .ok (.iconst 0, 1) := by decide +kernel
theorem dX9_pairUp_62 : decode cX9_pairUp 62 = .ok (.istore_n 1, 1) := by decide +kernel
theorem dX9_pairUp_63 : decode cX9_pairUp 63 = .ok (.iload_n 1, 1) := by decide +kernel
theorem dX9_pairUp_64 : decode cX9_pairUp 64 = .ok (.aload_n 0, 1) := by decide +kernel
theorem dX9_pairUp_65 : decode cX9_pairUp 65 = .ok (.getfield 317, 3) := by decide +kernel
theorem dX9_pairUp_68 : decode cX9_pairUp 68 = .ok (.if_icmp .ge 74, 3) := by decide +kernel
theorem dX9_pairUp_71 : decode cX9_pairUp 71 = .ok (.iconst 0, 1) := by decide +kernel
theorem dX9_pairUp_72 : decode cX9_pairUp 72 = .ok (.istore_n 2, 1) := by decide +kernel
theorem dX9_pairUp_73 : decode cX9_pairUp 73 = .ok (.iload_n 2, 1) := by decide +kernel
theorem dX9_pairUp_74 : decode cX9_pairUp 74 = .ok (.iconst 4, 1) := by decide +kernel
theorem dX9_pairUp_75 : decode cX9_pairUp 75 = .ok (.if_icmp .ge 61, 3) := by decide +kernel
theorem dX9_pairUp_78 : decode cX9_pairUp 78 = .ok (.aload_n 0, 1) := by decide +kernel
theorem dX9_pairUp_79 : decode cX9_pairUp 79 = .ok (.bipush 60, 2) := by decide +kernel
theorem dX9_pairUp_81 : decode cX9_pairUp 81 = .ok (.aload_n 0, 1) := by decide +kernel
theorem dX9_pairUp_82 : decode cX9_pairUp 82 = .ok (.getfield 85, 3) := by decide +kernel
theorem dX9_pairUp_85 : decode cX9_pairUp 85 = .ok (.iconst 4, 1) := by decide +kernel
theorem dX9_pairUp_86 : decode cX9_pairUp 86 = .ok (.aload_n 0, 1) := by decide +kernel
theorem dX9_pairUp_87 : decode cX9_pairUp 87 = .ok (.getfield 125, 3) := by decide +kernel
theorem dX9_pairUp_90 : decode cX9_pairUp 90 = .ok (.iload_n 1, 1) := by decide +kernel
theorem dX9_pairUp_91 : decode cX9_pairUp 91 = .ok (.iaload, 1) := by decide +kernel
theorem dX9_pairUp_92 : decode cX9_pairUp 92 = .ok (.bipush 60, 2) := by decide +kernel
theorem dX9_pairUp_94 : decode cX9_pairUp 94 = .ok (.idiv, 1) := by decide +kernel
theorem dX9_pairUp_95 : decode cX9_pairUp 95 = .ok (.imul, 1) := by decide +kernel
theorem dX9_pairUp_96 : decode cX9_pairUp 96 = .ok (.iload_n 2, 1) := by decide +kernel
theorem dX9_pairUp_97 : decode cX9_pairUp 97 = .ok (.iadd, 1) := by decide +kernel
theorem dX9_pairUp_98 : decode cX9_pairUp 98 = .ok (.iaload, 1) := by decide +kernel
theorem dX9_pairUp_99 : decode cX9_pairUp 99 = .ok (.imul, 1) := by decide +kernel
theorem dX9_pairUp_100 : decode cX9_pairUp 100 = .ok (.aload_n 0, 1) := by decide +kernel
theorem dX9_pairUp_101 : decode cX9_pairUp 101 = .ok (.getfield 119, 3) := by decide +kernel
theorem dX9_pairUp_104 : decode cX9_pairUp 104 = .ok (.iconst 4, 1) := by decide +kernel
theorem dX9_pairUp_105 : decode cX9_pairUp 105 = .ok (.aload_n 0, 1) := by decide +kernel
theorem dX9_pairUp_106 : decode cX9_pairUp 106 = .ok (.getfield 125, 3) := by decide +kernel
theorem dX9_pairUp_109 : decode cX9_pairUp 109 = .ok (.iload_n 1, 1) := by decide +kernel
theorem dX9_pairUp_110 : decode cX9_pairUp 110 = .ok (.iaload, 1) := by decide +kernel
theorem dX9_pairUp_111 : decode cX9_pairUp 111 = .ok (.bipush 60, 2) := by decide +kernel
theorem dX9_pairUp_113 : decode cX9_pairUp 113 = .ok (.irem, 1) := by decide +kernel
theorem dX9_pairUp_114 : decode cX9_pairUp 114 = .ok (.imul, 1) := by decide +kernel
theorem dX9_pairUp_115 : decode cX9_pairUp 115 = .ok (.iload_n 2, 1) := by decide +kernel
theorem dX9_pairUp_116 : decode cX9_pairUp 116 = .ok (.iadd, 1) := by decide +kernel
theorem dX9_pairUp_117 : decode cX9_pairUp 117 = .ok (.iaload, 1) := by decide +kernel
theorem dX9_pairUp_118 : decode cX9_pairUp 118 = .ok (.iadd, 1) := by decide +kernel
theorem dX9_pairUp_119 : decode cX9_pairUp 119 = .ok (.aload_n 0, 1) := by decide +kernel
theorem dX9_pairUp_120 : decode cX9_pairUp 120 = .ok (.getfield 128, 3) := by decide +kernel
theorem dX9_pairUp_123 : decode cX9_pairUp 123 = .ok (.iload_n 1, 1) := by decide +kernel
theorem dX9_pairUp_124 : decode cX9_pairUp 124 = .ok (.iaload, 1) := by decide +kernel
theorem dX9_pairUp_125 : decode cX9_pairUp 125 = .ok (.iconst 1, 1) := by decide +kernel
theorem dX9_pairUp_126 : decode cX9_pairUp 126 = .ok (.iadd, 1) := by decide +kernel
theorem dX9_pairUp_127 : decode cX9_pairUp 127 = .ok (.invokevirtual 320, 3) := by decide +kernel
theorem dX9_pairUp_130 : decode cX9_pairUp 130 = .ok (.iinc 2 1, 3) := by decide +kernel
theorem dX9_pairUp_133 : decode cX9_pairUp 133 = .ok (.goto (-60), 3) := by decide +kernel
theorem dX9_pairUp_136 : decode cX9_pairUp 136 = .ok (.iinc 1 1, 3) := by decide +kernel
theorem dX9_pairUp_139 : decode cX9_pairUp 139 = .ok (.goto (-76), 3) := by decide +kernel
theorem dX9_pairUp_142 : decode cX9_pairUp 142 = .ok (.return_, 1) := by decide +kernel
theorem dX9_against_0 : decode cX9_against 0 = .ok (.aload_n 0, 1) := by decide +kernel
theorem dX9_against_1 : decode cX9_against 1 = .ok (.getfield 257, 3) := by decide +kernel
theorem dX9_against_4 : decode cX9_against 4 = .ok (.ifCond .eq 10, 3) := by decide +kernel
theorem dX9_against_7 : decode cX9_against 7 = .ok (.aload_n 0, 1) := by decide +kernel
theorem dX9_against_8 : decode cX9_against 8 = .ok (.getfield 311, 3) := by decide +kernel
theorem dX9_against_11 : decode cX9_against 11 = .ok (.ifCond .ne 6, 3) := by decide +kernel
theorem dX9_against_14 : decode cX9_against 14 = .ok (.bipush (-3), 2) := by decide +kernel
theorem dX9_against_16 : decode cX9_against 16 = .ok (.ireturn, 1) := by decide +kernel
theorem dX9_against_17 : decode cX9_against 17 = .ok (.aload_n 0, 1) := by decide +kernel
theorem dX9_against_18 : decode cX9_against 18 = .ok (.invokevirtual 323, 3) := by decide +kernel
theorem dX9_against_21 : decode cX9_against 21 = .ok (.iconst 0, 1) := by decide +kernel
theorem dX9_against_22 : decode cX9_against 22 = .ok (.istore_n 1, 1) := by decide +kernel
theorem dX9_against_23 : decode cX9_against 23 = .ok (.iconst 0, 1) := by decide +kernel
theorem dX9_against_24 : decode cX9_against 24 = .ok (.istore_n 2, 1) := by decide +kernel
theorem dX9_against_25 : decode cX9_against 25 = .ok (.iconst 0, 1) := by decide +kernel
theorem dX9_against_26 : decode cX9_against 26 = .ok (.istore_n 3, 1) := by decide +kernel
theorem dX9_against_27 : decode cX9_against 27 = .ok (.iconst 0, 1) := by decide +kernel
theorem dX9_against_28 : decode cX9_against 28 = .ok (.istore 4, 2) := by decide +kernel
theorem dX9_against_30 : decode cX9_against 30 = .ok (.iload 4, 2) := by decide +kernel
theorem dX9_against_32 : decode cX9_against 32 = .ok (.aload_n 0, 1) := by decide +kernel
theorem dX9_against_33 : decode cX9_against 33 = .ok (.getfield 317, 3) := by decide +kernel
theorem dX9_against_36 : decode cX9_against 36 = .ok (.if_icmp .ge 103, 3) := by decide +kernel
theorem dX9_against_39 : decode cX9_against 39 = .ok (.aload_n 0, 1) := by decide +kernel
theorem dX9_against_40 : decode cX9_against 40 = .ok (.getfield 88, 3) := by decide +kernel
theorem dX9_against_43 : decode cX9_against 43 = .ok (.aload_n 0, 1) := by decide +kernel
theorem dX9_against_44 : decode cX9_against 44 = .ok (.getfield 125, 3) := by decide +kernel
theorem dX9_against_47 : decode cX9_against 47 = .ok (.iload 4, 2) := by decide +kernel
theorem dX9_against_49 : decode cX9_against 49 = .ok (.iaload, 1) := by decide +kernel
theorem dX9_against_50 : decode cX9_against 50 = .ok (.bipush 60, 2) := by decide +kernel
theorem dX9_against_52 : decode cX9_against 52 = .ok (.idiv, 1) := by decide +kernel
theorem dX9_against_53 : decode cX9_against 53 = .ok (.baload, 1) := by decide +kernel
theorem dX9_against_54 : decode cX9_against 54 = .ok (.istore 5, 2) := by decide +kernel
theorem dX9_against_56 : decode cX9_against 56 = .ok (.aload_n 0, 1) := by decide +kernel
theorem dX9_against_57 : decode cX9_against 57 = .ok (.getfield 122, 3) := by decide +kernel
theorem dX9_against_60 : decode cX9_against 60 = .ok (.aload_n 0, 1) := by decide +kernel
theorem dX9_against_61 : decode cX9_against 61 = .ok (.getfield 125, 3) := by decide +kernel
theorem dX9_against_64 : decode cX9_against 64 = .ok (.iload 4, 2) := by decide +kernel
theorem dX9_against_66 : decode cX9_against 66 = .ok (.iaload, 1) := by decide +kernel
theorem dX9_against_67 : decode cX9_against 67 = .ok (.bipush 60, 2) := by decide +kernel
theorem dX9_against_69 : decode cX9_against 69 = .ok (.irem, 1) := by decide +kernel
theorem dX9_against_70 : decode cX9_against 70 = .ok (.baload, 1) := by decide +kernel
theorem dX9_against_71 : decode cX9_against 71 = .ok (.istore 6, 2) := by decide +kernel
theorem dX9_against_73 : decode cX9_against 73 = .ok (.iload_n 1, 1) := by decide +kernel
theorem dX9_against_74 : decode cX9_against 74 = .ok (.ifCond .ne 13, 3) := by decide +kernel
theorem dX9_against_77 : decode cX9_against 77 = .ok (.iload 5, 2) := by decide +kernel
theorem dX9_against_79 : decode cX9_against 79 = .ok (.ifCond .eq 12, 3) := by decide +kernel
theorem dX9_against_82 : decode cX9_against 82 = .ok (.iload 6, 2) := by decide +kernel
theorem dX9_against_84 : decode cX9_against 84 = .ok (.ifCond .eq 7, 3) := by decide +kernel
theorem dX9_against_87 : decode cX9_against 87 = .ok (.iconst 1, 1) := by decide +kernel
theorem dX9_against_88 : decode cX9_against 88 = .ok (.goto 4, 3) := by decide +kernel
theorem dX9_against_91 : decode cX9_against 91 = .ok (.iconst 0, 1) := by decide +kernel
theorem dX9_against_92 : decode cX9_against 92 = .ok (.istore_n 1, 1) := by decide +kernel
theorem dX9_against_93 : decode cX9_against 93 = .ok (.iload_n 2, 1) := by decide +kernel
theorem dX9_against_94 : decode cX9_against 94 = .ok (.ifCond .ne 13, 3) := by decide +kernel
theorem dX9_against_97 : decode cX9_against 97 = .ok (.iload 5, 2) := by decide +kernel
theorem dX9_against_99 : decode cX9_against 99 = .ok (.ifCond .eq 12, 3) := by decide +kernel
theorem dX9_against_102 : decode cX9_against 102 = .ok (.iload 6, 2) := by decide +kernel
theorem dX9_against_104 : decode cX9_against 104 = .ok (.ifCond .ne 7, 3) := by decide +kernel
theorem dX9_against_107 : decode cX9_against 107 = .ok (.iconst 1, 1) := by decide +kernel
theorem dX9_against_108 : decode cX9_against 108 = .ok (.goto 4, 3) := by decide +kernel
theorem dX9_against_111 : decode cX9_against 111 = .ok (.iconst 0, 1) := by decide +kernel
theorem dX9_against_112 : decode cX9_against 112 = .ok (.istore_n 2, 1) := by decide +kernel
theorem dX9_against_113 : decode cX9_against 113 = .ok (.iload_n 3, 1) := by decide +kernel
theorem dX9_against_114 : decode cX9_against 114 = .ok (.ifCond .ne 13, 3) := by decide +kernel
theorem dX9_against_117 : decode cX9_against 117 = .ok (.iload 5, 2) := by decide +kernel
theorem dX9_against_119 : decode cX9_against 119 = .ok (.ifCond .ne 12, 3) := by decide +kernel
theorem dX9_against_122 : decode cX9_against 122 = .ok (.iload 6, 2) := by decide +kernel
theorem dX9_against_124 : decode cX9_against 124 = .ok (.ifCond .eq 7, 3) := by decide +kernel
theorem dX9_against_127 : decode cX9_against 127 = .ok (.iconst 1, 1) := by decide +kernel
theorem dX9_against_128 : decode cX9_against 128 = .ok (.goto 4, 3) := by decide +kernel
theorem dX9_against_131 : decode cX9_against 131 = .ok (.iconst 0, 1) := by decide +kernel
theorem dX9_against_132 : decode cX9_against 132 = .ok (.istore_n 3, 1) := by decide +kernel
theorem dX9_against_133 : decode cX9_against 133 = .ok (.iinc 4 1, 3) := by decide +kernel
theorem dX9_against_136 : decode cX9_against 136 = .ok (.goto (-106), 3) := by decide +kernel
theorem dX9_against_139 : decode cX9_against 139 = .ok (.iload_n 2, 1) := by decide +kernel
theorem dX9_against_140 : decode cX9_against 140 = .ok (.ifCond .ne 11, 3) := by decide +kernel
theorem dX9_against_143 : decode cX9_against 143 = .ok (.iload_n 3, 1) := by decide +kernel
theorem dX9_against_144 : decode cX9_against 144 = .ok (.ifCond .ne 7, 3) := by decide +kernel
theorem dX9_against_147 : decode cX9_against 147 = .ok (.iconst 1, 1) := by decide +kernel
theorem dX9_against_148 : decode cX9_against 148 = .ok (.goto 28, 3) := by decide +kernel
theorem dX9_against_151 : decode cX9_against 151 = .ok (.iload_n 1, 1) := by decide +kernel
theorem dX9_against_152 : decode cX9_against 152 = .ok (.ifCond .ne 7, 3) := by decide +kernel
theorem dX9_against_155 : decode cX9_against 155 = .ok (.iconst 2, 1) := by decide +kernel
theorem dX9_against_156 : decode cX9_against 156 = .ok (.goto 20, 3) := by decide +kernel
theorem dX9_against_159 : decode cX9_against 159 = .ok (.iload_n 2, 1) := by decide +kernel
theorem dX9_against_160 : decode cX9_against 160 = .ok (.ifCond .ne 7, 3) := by decide +kernel
theorem dX9_against_163 : decode cX9_against 163 = .ok (.iconst 3, 1) := by decide +kernel
theorem dX9_against_164 : decode cX9_against 164 = .ok (.goto 12, 3) := by decide +kernel
theorem dX9_against_167 : decode cX9_against 167 = .ok (.iload_n 3, 1) := by decide +kernel
theorem dX9_against_168 : decode cX9_against 168 = .ok (.ifCond .ne 7, 3) := by decide +kernel
theorem dX9_against_171 : decode cX9_against 171 = .ok (.iconst 4, 1) := by decide +kernel
theorem dX9_against_172 : decode cX9_against 172 = .ok (.goto 4, 3) := by decide +kernel
theorem dX9_against_175 : decode cX9_against 175 = .ok (.iconst 0, 1) := by decide +kernel
theorem dX9_against_176 : decode cX9_against 176 = .ok (.ireturn, 1) := by decide +kernel
theorem dX9_apart_0 : decode cX9_apart 0 = .ok (.aload_n 0, 1) := by decide +kernel
theorem dX9_apart_1 : decode cX9_apart 1 = .ok (.getfield 257, 3) := by decide +kernel
theorem dX9_apart_4 : decode cX9_apart 4 = .ok (.ifCond .eq 10, 3) := by decide +kernel
theorem dX9_apart_7 : decode cX9_apart 7 = .ok (.aload_n 0, 1) := by decide +kernel
theorem dX9_apart_8 : decode cX9_apart 8 = .ok (.getfield 311, 3) := by decide +kernel
theorem dX9_apart_11 : decode cX9_apart 11 = .ok (.ifCond .ne 6, 3) := by decide +kernel
theorem dX9_apart_14 : decode cX9_apart 14 = .ok (.bipush (-3), 2) := by decide +kernel
theorem dX9_apart_16 : decode cX9_apart 16 = .ok (.ireturn, 1) := by decide +kernel
theorem dX9_apart_17 : decode cX9_apart 17 = .ok (.aload_n 0, 1) := by decide +kernel
theorem dX9_apart_18 : decode cX9_apart 18 = .ok (.invokevirtual 323, 3) := by decide +kernel
theorem dX9_apart_21 : decode cX9_apart 21 = .ok (.iconst 0, 1) := by decide +kernel
theorem dX9_apart_22 : decode cX9_apart 22 = .ok (.istore_n 1, 1) := by decide +kernel
theorem dX9_apart_23 : decode cX9_apart 23 = .ok (.iload_n 1, 1) := by decide +kernel
theorem dX9_apart_24 : decode cX9_apart 24 = .ok (.aload_n 0, 1) := by decide +kernel
theorem dX9_apart_25 : decode cX9_apart 25 = .ok (.getfield 317, 3) := by decide +kernel
theorem dX9_apart_28 : decode cX9_apart 28 = .ok (.if_icmp .ge 47, 3) := by decide +kernel
theorem dX9_apart_31 : decode cX9_apart 31 = .ok (.aload_n 0, 1) := by decide +kernel
theorem dX9_apart_32 : decode cX9_apart 32 = .ok (.getfield 88, 3) := by decide +kernel
theorem dX9_apart_35 : decode cX9_apart 35 = .ok (.aload_n 0, 1) := by decide +kernel
theorem dX9_apart_36 : decode cX9_apart 36 = .ok (.getfield 125, 3) := by decide +kernel
theorem dX9_apart_39 : decode cX9_apart 39 = .ok (.iload_n 1, 1) := by decide +kernel
theorem dX9_apart_40 : decode cX9_apart 40 = .ok (.iaload, 1) := by decide +kernel
theorem dX9_apart_41 : decode cX9_apart 41 = .ok (.bipush 60, 2) := by decide +kernel
theorem dX9_apart_43 : decode cX9_apart 43 = .ok (.idiv, 1) := by decide +kernel
theorem dX9_apart_44 : decode cX9_apart 44 = .ok (.baload, 1) := by decide +kernel
theorem dX9_apart_45 : decode cX9_apart 45 = .ok (.aload_n 0, 1) := by decide +kernel
theorem dX9_apart_46 : decode cX9_apart 46 = .ok (.getfield 122, 3) := by decide +kernel
theorem dX9_apart_49 : decode cX9_apart 49 = .ok (.aload_n 0, 1) := by decide +kernel
theorem dX9_apart_50 : decode cX9_apart 50 = .ok (.getfield 125, 3) := by decide +kernel
theorem dX9_apart_53 : decode cX9_apart 53 = .ok (.iload_n 1, 1) := by decide +kernel
theorem dX9_apart_54 : decode cX9_apart 54 = .ok (.iaload, 1) := by decide +kernel
theorem dX9_apart_55 : decode cX9_apart 55 = .ok (.bipush 60, 2) := by decide +kernel
theorem dX9_apart_57 : decode cX9_apart 57 = .ok (.irem, 1) := by decide +kernel
theorem dX9_apart_58 : decode cX9_apart 58 = .ok (.baload, 1) := by decide +kernel
theorem dX9_apart_59 : decode cX9_apart 59 = .ok (.if_icmp .eq 10, 3) := by decide +kernel
theorem dX9_apart_62 : decode cX9_apart 62 = .ok (.aload_n 0, 1) := by decide +kernel
theorem dX9_apart_63 : decode cX9_apart 63 = .ok (.getfield 128, 3) := by decide +kernel
theorem dX9_apart_66 : decode cX9_apart 66 = .ok (.iload_n 1, 1) := by decide +kernel
theorem dX9_apart_67 : decode cX9_apart 67 = .ok (.iaload, 1) := by decide +kernel
theorem dX9_apart_68 : decode cX9_apart 68 = .ok (.ireturn, 1) := by decide +kernel
theorem dX9_apart_69 : decode cX9_apart 69 = .ok (.iinc 1 1, 3) := by decide +kernel
theorem dX9_apart_72 : decode cX9_apart 72 = .ok (.goto (-49), 3) := by decide +kernel
theorem dX9_apart_75 : decode cX9_apart 75 = .ok (.bipush (-9), 2) := by decide +kernel
theorem dX9_apart_77 : decode cX9_apart 77 = .ok (.ireturn, 1) := by decide +kernel
theorem dX9_count_0 : decode cX9_count 0 = .ok (.iconst 0, 1) := by decide +kernel
theorem dX9_count_1 : decode cX9_count 1 = .ok (.istore_n 2, 1) := by decide +kernel
theorem dX9_count_2 : decode cX9_count 2 = .ok (.iload_n 1, 1) := by decide +kernel
theorem dX9_count_3 : decode cX9_count 3 = .ok (.tableswitch 131 0 4 #[33, 38, 74, 113, 118], 33) := by decide +kernel
theorem dX9_count_36 : decode cX9_count 36 = .ok (.aload_n 0, 1) := by decide +kernel
theorem dX9_count_37 : decode cX9_count 37 = .ok (.getfield 237, 3) := by decide +kernel
theorem dX9_count_40 : decode cX9_count 40 = .ok (.ireturn, 1) := by decide +kernel
theorem dX9_count_41 : decode cX9_count 41 = .ok (.iconst 0, 1) := by decide +kernel
theorem dX9_count_42 : decode cX9_count 42 = .ok (.istore_n 3, 1) := by decide +kernel
theorem dX9_count_43 : decode cX9_count 43 = .ok (.iload_n 3, 1) := by decide +kernel
theorem dX9_count_44 : decode cX9_count 44 = .ok (.aload_n 0, 1) := by decide +kernel
theorem dX9_count_45 : decode cX9_count 45 = .ok (.getfield 237, 3) := by decide +kernel
theorem dX9_count_48 : decode cX9_count 48 = .ok (.if_icmp .ge 27, 3) := by decide +kernel
theorem dX9_count_51 : decode cX9_count 51 = .ok (.iload_n 2, 1) := by decide +kernel
theorem dX9_count_52 : decode cX9_count 52 = .ok (.aload_n 0, 1) := by decide +kernel
theorem dX9_count_53 : decode cX9_count 53 = .ok (.getfield 91, 3) := by decide +kernel
theorem dX9_count_56 : decode cX9_count 56 = .ok (.iload_n 3, 1) := by decide +kernel
theorem dX9_count_57 : decode cX9_count 57 = .ok (.iaload, 1) := by decide +kernel
theorem dX9_count_58 : decode cX9_count 58 = .ok (.iconst 1, 1) := by decide +kernel
theorem dX9_count_59 : decode cX9_count 59 = .ok (.if_icmp .le 7, 3) := by decide +kernel
theorem dX9_count_62 : decode cX9_count 62 = .ok (.iconst 1, 1) := by decide +kernel
theorem dX9_count_63 : decode cX9_count 63 = .ok (.goto 4, 3) := by decide +kernel
theorem dX9_count_66 : decode cX9_count 66 = .ok (.iconst 0, 1) := by decide +kernel
theorem dX9_count_67 : decode cX9_count 67 = .ok (.iadd, 1) := by decide +kernel
theorem dX9_count_68 : decode cX9_count 68 = .ok (.istore_n 2, 1) := by decide +kernel
theorem dX9_count_69 : decode cX9_count 69 = .ok (.iinc 3 1, 3) := by decide +kernel
theorem dX9_count_72 : decode cX9_count 72 = .ok (.goto (-29), 3) := by decide +kernel
theorem dX9_count_75 : decode cX9_count 75 = .ok (.iload_n 2, 1) := by decide +kernel
theorem dX9_count_76 : decode cX9_count 76 = .ok (.ireturn, 1) := by decide +kernel
theorem dX9_count_77 : decode cX9_count 77 = .ok (.iconst 0, 1) := by decide +kernel
theorem dX9_count_78 : decode cX9_count 78 = .ok (.istore_n 3, 1) := by decide +kernel
theorem dX9_count_79 : decode cX9_count 79 = .ok (.iload_n 3, 1) := by decide +kernel
theorem dX9_count_80 : decode cX9_count 80 = .ok (.bipush 16, 2) := by decide +kernel
theorem dX9_count_82 : decode cX9_count 82 = .ok (.if_icmp .ge 32, 3) := by decide +kernel
theorem dX9_count_85 : decode cX9_count 85 = .ok (.iload_n 2, 1) := by decide +kernel
theorem dX9_count_86 : decode cX9_count 86 = .ok (.aload_n 0, 1) := by decide +kernel
theorem dX9_count_87 : decode cX9_count 87 = .ok (.getfield 257, 3) := by decide +kernel
theorem dX9_count_90 : decode cX9_count 90 = .ok (.ifCond .eq 15, 3) := by decide +kernel
theorem dX9_count_93 : decode cX9_count 93 = .ok (.aload_n 0, 1) := by decide +kernel
theorem dX9_count_94 : decode cX9_count 94 = .ok (.iload_n 3, 1) := by decide +kernel
theorem dX9_count_95 : decode cX9_count 95 = .ok (.invokevirtual 302, 3) := by decide +kernel
theorem dX9_count_98 : decode cX9_count 98 = .ok (.ifCond .eq 7, 3) := by decide +kernel
theorem dX9_count_101 : decode cX9_count 101 = .ok (.iconst 1, 1) := by decide +kernel
theorem dX9_count_102 : decode cX9_count 102 = .ok (.goto 4, 3) := by decide +kernel
theorem dX9_count_105 : decode cX9_count 105 = .ok (.iconst 0, 1) := by decide +kernel
theorem dX9_count_106 : decode cX9_count 106 = .ok (.iadd, 1) := by decide +kernel
theorem dX9_count_107 : decode cX9_count 107 = .ok (.istore_n 2, 1) := by decide +kernel
theorem dX9_count_108 : decode cX9_count 108 = .ok (.iinc 3 1, 3) := by decide +kernel
theorem dX9_count_111 : decode cX9_count 111 = .ok (.goto (-32), 3) := by decide +kernel
theorem dX9_count_114 : decode cX9_count 114 = .ok (.iload_n 2, 1) := by decide +kernel
theorem dX9_count_115 : decode cX9_count 115 = .ok (.ireturn, 1) := by decide +kernel
theorem dX9_count_116 : decode cX9_count 116 = .ok (.aload_n 0, 1) := by decide +kernel
theorem dX9_count_117 : decode cX9_count 117 = .ok (.getfield 136, 3) := by decide +kernel
theorem dX9_count_120 : decode cX9_count 120 = .ok (.ireturn, 1) := by decide +kernel
theorem dX9_count_121 : decode cX9_count 121 = .ok (.aload_n 0, 1) := by decide +kernel
theorem dX9_count_122 : decode cX9_count 122 = .ok (.getfield 311, 3) := by decide +kernel
theorem dX9_count_125 : decode cX9_count 125 = .ok (.ifCond .eq 7, 3) := by decide +kernel
theorem dX9_count_128 : decode cX9_count 128 = .ok (.iconst 1, 1) := by decide +kernel
theorem dX9_count_129 : decode cX9_count 129 = .ok (.goto 4, 3) := by decide +kernel
theorem dX9_count_132 : decode cX9_count 132 = .ok (.iconst 0, 1) := by decide +kernel
theorem dX9_count_133 : decode cX9_count 133 = .ok (.ireturn, 1) := by decide +kernel
theorem dX9_count_134 : decode cX9_count 134 = .ok (.bipush (-2), 2) := by decide +kernel
theorem dX9_count_136 : decode cX9_count 136 = .ok (.ireturn, 1) := by decide +kernel
theorem dJ13_bitCount_95d88_0 : decode cJ13_bitCount_95d88 0 = .ok (.lload_n 0, 1) := by decide +kernel
theorem dJ13_bitCount_95d88_1 : decode cJ13_bitCount_95d88 1 = .ok (.lload_n 0, 1) := by decide +kernel
theorem dJ13_bitCount_95d88_2 : decode cJ13_bitCount_95d88 2 = .ok (.iconst 1, 1) := by decide +kernel
theorem dJ13_bitCount_95d88_3 : decode cJ13_bitCount_95d88 3 = .ok (.lushr, 1) := by decide +kernel
theorem dJ13_bitCount_95d88_4 : decode cJ13_bitCount_95d88 4 = .ok (.ldc2_w 314, 3) := by decide +kernel
theorem dJ13_bitCount_95d88_7 : decode cJ13_bitCount_95d88 7 = .ok (.land, 1) := by decide +kernel
theorem dJ13_bitCount_95d88_8 : decode cJ13_bitCount_95d88 8 = .ok (.lsub, 1) := by decide +kernel
theorem dJ13_bitCount_95d88_9 : decode cJ13_bitCount_95d88 9 = .ok (.lstore_n 0, 1) := by decide +kernel
theorem dJ13_bitCount_95d88_10 : decode cJ13_bitCount_95d88 10 = .ok (.lload_n 0, 1) := by decide +kernel
theorem dJ13_bitCount_95d88_11 : decode cJ13_bitCount_95d88 11 = .ok (.ldc2_w 316, 3) := by decide +kernel
theorem dJ13_bitCount_95d88_14 : decode cJ13_bitCount_95d88 14 = .ok (.land, 1) := by decide +kernel
theorem dJ13_bitCount_95d88_15 : decode cJ13_bitCount_95d88 15 = .ok (.lload_n 0, 1) := by decide +kernel
theorem dJ13_bitCount_95d88_16 : decode cJ13_bitCount_95d88 16 = .ok (.iconst 2, 1) := by decide +kernel
theorem dJ13_bitCount_95d88_17 : decode cJ13_bitCount_95d88 17 = .ok (.lushr, 1) := by decide +kernel
theorem dJ13_bitCount_95d88_18 : decode cJ13_bitCount_95d88 18 = .ok (.ldc2_w 316, 3) := by decide +kernel
theorem dJ13_bitCount_95d88_21 : decode cJ13_bitCount_95d88 21 = .ok (.land, 1) := by decide +kernel
theorem dJ13_bitCount_95d88_22 : decode cJ13_bitCount_95d88 22 = .ok (.ladd, 1) := by decide +kernel
theorem dJ13_bitCount_95d88_23 : decode cJ13_bitCount_95d88 23 = .ok (.lstore_n 0, 1) := by decide +kernel
theorem dJ13_bitCount_95d88_24 : decode cJ13_bitCount_95d88 24 = .ok (.lload_n 0, 1) := by decide +kernel
theorem dJ13_bitCount_95d88_25 : decode cJ13_bitCount_95d88 25 = .ok (.lload_n 0, 1) := by decide +kernel
theorem dJ13_bitCount_95d88_26 : decode cJ13_bitCount_95d88 26 = .ok (.iconst 4, 1) := by decide +kernel
theorem dJ13_bitCount_95d88_27 : decode cJ13_bitCount_95d88 27 = .ok (.lushr, 1) := by decide +kernel
theorem dJ13_bitCount_95d88_28 : decode cJ13_bitCount_95d88 28 = .ok (.ladd, 1) := by decide +kernel
theorem dJ13_bitCount_95d88_29 : decode cJ13_bitCount_95d88 29 = .ok (.ldc2_w 318, 3) := by decide +kernel
theorem dJ13_bitCount_95d88_32 : decode cJ13_bitCount_95d88 32 = .ok (.land, 1) := by decide +kernel
theorem dJ13_bitCount_95d88_33 : decode cJ13_bitCount_95d88 33 = .ok (.lstore_n 0, 1) := by decide +kernel
theorem dJ13_bitCount_95d88_34 : decode cJ13_bitCount_95d88 34 = .ok (.lload_n 0, 1) := by decide +kernel
theorem dJ13_bitCount_95d88_35 : decode cJ13_bitCount_95d88 35 = .ok (.lload_n 0, 1) := by decide +kernel
theorem dJ13_bitCount_95d88_36 : decode cJ13_bitCount_95d88 36 = .ok (.bipush 8, 2) := by decide +kernel
theorem dJ13_bitCount_95d88_38 : decode cJ13_bitCount_95d88 38 = .ok (.lushr, 1) := by decide +kernel
theorem dJ13_bitCount_95d88_39 : decode cJ13_bitCount_95d88 39 = .ok (.ladd, 1) := by decide +kernel
theorem dJ13_bitCount_95d88_40 : decode cJ13_bitCount_95d88 40 = .ok (.lstore_n 0, 1) := by decide +kernel
theorem dJ13_bitCount_95d88_41 : decode cJ13_bitCount_95d88 41 = .ok (.lload_n 0, 1) := by decide +kernel
theorem dJ13_bitCount_95d88_42 : decode cJ13_bitCount_95d88 42 = .ok (.lload_n 0, 1) := by decide +kernel
theorem dJ13_bitCount_95d88_43 : decode cJ13_bitCount_95d88 43 = .ok (.bipush 16, 2) := by decide +kernel
theorem dJ13_bitCount_95d88_45 : decode cJ13_bitCount_95d88 45 = .ok (.lushr, 1) := by decide +kernel
theorem dJ13_bitCount_95d88_46 : decode cJ13_bitCount_95d88 46 = .ok (.ladd, 1) := by decide +kernel
theorem dJ13_bitCount_95d88_47 : decode cJ13_bitCount_95d88 47 = .ok (.lstore_n 0, 1) := by decide +kernel
theorem dJ13_bitCount_95d88_48 : decode cJ13_bitCount_95d88 48 = .ok (.lload_n 0, 1) := by decide +kernel
theorem dJ13_bitCount_95d88_49 : decode cJ13_bitCount_95d88 49 = .ok (.lload_n 0, 1) := by decide +kernel
theorem dJ13_bitCount_95d88_50 : decode cJ13_bitCount_95d88 50 = .ok (.bipush 32, 2) := by decide +kernel
theorem dJ13_bitCount_95d88_52 : decode cJ13_bitCount_95d88 52 = .ok (.lushr, 1) := by decide +kernel
theorem dJ13_bitCount_95d88_53 : decode cJ13_bitCount_95d88 53 = .ok (.ladd, 1) := by decide +kernel
theorem dJ13_bitCount_95d88_54 : decode cJ13_bitCount_95d88 54 = .ok (.lstore_n 0, 1) := by decide +kernel
theorem dJ13_bitCount_95d88_55 : decode cJ13_bitCount_95d88 55 = .ok (.lload_n 0, 1) := by decide +kernel
theorem dJ13_bitCount_95d88_56 : decode cJ13_bitCount_95d88 56 = .ok (.l2i, 1) := by decide +kernel
theorem dJ13_bitCount_95d88_57 : decode cJ13_bitCount_95d88 57 = .ok (.bipush 127, 2) := by decide +kernel
theorem dJ13_bitCount_95d88_59 : decode cJ13_bitCount_95d88 59 = .ok (.iand, 1) := by decide +kernel
theorem dJ13_bitCount_95d88_60 : decode cJ13_bitCount_95d88 60 = .ok (.ireturn, 1) := by decide +kernel
theorem dJ9_min_7cf53_0 : decode cJ9_min_7cf53 0 = .ok (.iload_n 0, 1) := by decide +kernel
theorem dJ9_min_7cf53_1 : decode cJ9_min_7cf53 1 = .ok (.iload_n 1, 1) := by decide +kernel
theorem dJ9_min_7cf53_2 : decode cJ9_min_7cf53 2 = .ok (.if_icmp .gt 7, 3) := by decide +kernel
theorem dJ9_min_7cf53_5 : decode cJ9_min_7cf53 5 = .ok (.iload_n 0, 1) := by decide +kernel
theorem dJ9_min_7cf53_6 : decode cJ9_min_7cf53 6 = .ok (.goto 4, 3) := by decide +kernel
theorem dJ9_min_7cf53_9 : decode cJ9_min_7cf53 9 = .ok (.iload_n 1, 1) := by decide +kernel
theorem dJ9_min_7cf53_10 : decode cJ9_min_7cf53 10 = .ok (.ireturn, 1) := by decide +kernel
theorem dL_law_0 : decode cL_law 0 = .ok (.new 7, 3) := by decide +kernel
theorem dL_law_3 : decode cL_law 3 = .ok (.dup, 1) := by decide +kernel
theorem dL_law_4 : decode cL_law 4 = .ok (.invokespecial 9, 3) := by decide +kernel
theorem dL_law_7 : decode cL_law 7 = .ok (.astore_n 1, 1) := by decide +kernel
theorem dL_law_8 : decode cL_law 8 = .ok (.new 10, 3) := by decide +kernel
theorem dL_law_11 : decode cL_law 11 = .ok (.dup, 1) := by decide +kernel
theorem dL_law_12 : decode cL_law 12 = .ok (.invokespecial 12, 3) := by decide +kernel
theorem dL_law_15 : decode cL_law 15 = .ok (.astore_n 2, 1) := by decide +kernel
theorem dL_law_16 : decode cL_law 16 = .ok (.iconst 0, 1) := by decide +kernel
theorem dL_law_17 : decode cL_law 17 = .ok (.istore_n 3, 1) := by decide +kernel
theorem dL_law_18 : decode cL_law 18 = .ok (.iload_n 3, 1) := by decide +kernel
theorem dL_law_19 : decode cL_law 19 = .ok (.aload_n 0, 1) := by decide +kernel
theorem dL_law_20 : decode cL_law 20 = .ok (.arraylength, 1) := by decide +kernel
theorem dL_law_21 : decode cL_law 21 = .ok (.iconst 4, 1) := by decide +kernel
theorem dL_law_22 : decode cL_law 22 = .ok (.isub, 1) := by decide +kernel
theorem dL_law_23 : decode cL_law 23 = .ok (.if_icmp .gt 659, 3) := by decide +kernel
theorem dL_law_26 : decode cL_law 26 = .ok (.aload_n 0, 1) := by decide +kernel
theorem dL_law_27 : decode cL_law 27 = .ok (.iload_n 3, 1) := by decide +kernel
theorem dL_law_28 : decode cL_law 28 = .ok (.iaload, 1) := by decide +kernel
theorem dL_law_29 : decode cL_law 29 = .ok (.bipush 31, 2) := by decide +kernel
theorem dL_law_31 : decode cL_law 31 = .ok (.iand, 1) := by decide +kernel
theorem dL_law_32 : decode cL_law 32 = .ok (.tableswitch 644 0 20 #[100, 153, 166, 179, 192, 225, 248, 281, 314, 348, 391, 424, 457, 480, 503, 536, 559, 582, 595, 608, 621], 100) := by decide +kernel
theorem dL_law_132 : decode cL_law 132 = .ok (.aload_n 1, 1) := by decide +kernel
theorem dL_law_133 : decode cL_law 133 = .ok (.aload_n 0, 1) := by decide +kernel
theorem dL_law_134 : decode cL_law 134 = .ok (.iload_n 3, 1) := by decide +kernel
theorem dL_law_135 : decode cL_law 135 = .ok (.iconst 1, 1) := by decide +kernel
theorem dL_law_136 : decode cL_law 136 = .ok (.iadd, 1) := by decide +kernel
theorem dL_law_137 : decode cL_law 137 = .ok (.iaload, 1) := by decide +kernel
theorem dL_law_138 : decode cL_law 138 = .ok (.i2l, 1) := by decide +kernel
theorem dL_law_139 : decode cL_law 139 = .ok (.bipush 32, 2) := by decide +kernel
theorem dL_law_141 : decode cL_law 141 = .ok (.lshl, 1) := by decide +kernel
theorem dL_law_142 : decode cL_law 142 = .ok (.aload_n 0, 1) := by decide +kernel
theorem dL_law_143 : decode cL_law 143 = .ok (.iload_n 3, 1) := by decide +kernel
theorem dL_law_144 : decode cL_law 144 = .ok (.iconst 2, 1) := by decide +kernel
theorem dL_law_145 : decode cL_law 145 = .ok (.iadd, 1) := by decide +kernel
theorem dL_law_146 : decode cL_law 146 = .ok (.iaload, 1) := by decide +kernel
theorem dL_law_147 : decode cL_law 147 = .ok (.i2l, 1) := by decide +kernel
theorem dL_law_148 : decode cL_law 148 = .ok (.ldc2_w 13, 3) := by decide +kernel
theorem dL_law_151 : decode cL_law 151 = .ok (.land, 1) := by decide +kernel
theorem dL_law_152 : decode cL_law 152 = .ok (.lor, 1) := by decide +kernel
theorem dL_law_153 : decode cL_law 153 = .ok (.invokevirtual 15, 3) := by decide +kernel
theorem dL_law_156 : decode cL_law 156 = .ok (.aload_n 2, 1) := by decide +kernel
theorem dL_law_157 : decode cL_law 157 = .ok (.aload_n 0, 1) := by decide +kernel
theorem dL_law_158 : decode cL_law 158 = .ok (.iload_n 3, 1) := by decide +kernel
theorem dL_law_159 : decode cL_law 159 = .ok (.iconst 1, 1) := by decide +kernel
theorem dL_law_160 : decode cL_law 160 = .ok (.iadd, 1) := by decide +kernel
theorem dL_law_161 : decode cL_law 161 = .ok (.iaload, 1) := by decide +kernel
theorem dL_law_162 : decode cL_law 162 = .ok (.i2l, 1) := by decide +kernel
theorem dL_law_163 : decode cL_law 163 = .ok (.bipush 32, 2) := by decide +kernel
theorem dL_law_165 : decode cL_law 165 = .ok (.lshl, 1) := by decide +kernel
theorem dL_law_166 : decode cL_law 166 = .ok (.aload_n 0, 1) := by decide +kernel
theorem dL_law_167 : decode cL_law 167 = .ok (.iload_n 3, 1) := by decide +kernel
theorem dL_law_168 : decode cL_law 168 = .ok (.iconst 2, 1) := by decide +kernel
theorem dL_law_169 : decode cL_law 169 = .ok (.iadd, 1) := by decide +kernel
theorem dL_law_170 : decode cL_law 170 = .ok (.iaload, 1) := by decide +kernel
theorem dL_law_171 : decode cL_law 171 = .ok (.i2l, 1) := by decide +kernel
theorem dL_law_172 : decode cL_law 172 = .ok (.ldc2_w 13, 3) := by decide +kernel
theorem dL_law_175 : decode cL_law 175 = .ok (.land, 1) := by decide +kernel
theorem dL_law_176 : decode cL_law 176 = .ok (.lor, 1) := by decide +kernel
theorem dL_law_177 : decode cL_law 177 = .ok (.invokevirtual 19, 3) := by decide +kernel
theorem dL_law_180 : decode cL_law 180 = .ok (.if_icmp .eq 496, 3) := by decide +kernel
theorem dL_law_183 : decode cL_law 183 = .ok (.iconst 0, 1) := by decide +kernel
theorem dL_law_184 : decode cL_law 184 = .ok (.ireturn, 1) := by decide +kernel
theorem dL_law_185 : decode cL_law 185 = .ok (.aload_n 1, 1) := by decide +kernel
theorem dL_law_186 : decode cL_law 186 = .ok (.invokevirtual 20, 3) := by decide +kernel
theorem dL_law_189 : decode cL_law 189 = .ok (.aload_n 2, 1) := by decide +kernel
theorem dL_law_190 : decode cL_law 190 = .ok (.invokevirtual 24, 3) := by decide +kernel
theorem dL_law_193 : decode cL_law 193 = .ok (.if_icmp .eq 483, 3) := by decide +kernel
theorem dL_law_196 : decode cL_law 196 = .ok (.iconst 0, 1) := by decide +kernel
theorem dL_law_197 : decode cL_law 197 = .ok (.ireturn, 1) := by decide +kernel
theorem dL_law_198 : decode cL_law 198 = .ok (.aload_n 1, 1) := by decide +kernel
theorem dL_law_199 : decode cL_law 199 = .ok (.invokevirtual 25, 3) := by decide +kernel
theorem dL_law_202 : decode cL_law 202 = .ok (.aload_n 2, 1) := by decide +kernel
theorem dL_law_203 : decode cL_law 203 = .ok (.invokevirtual 28, 3) := by decide +kernel
theorem dL_law_206 : decode cL_law 206 = .ok (.if_icmp .eq 470, 3) := by decide +kernel
theorem dL_law_209 : decode cL_law 209 = .ok (.iconst 0, 1) := by decide +kernel
theorem dL_law_210 : decode cL_law 210 = .ok (.ireturn, 1) := by decide +kernel
theorem dL_law_211 : decode cL_law 211 = .ok (.aload_n 1, 1) := by decide +kernel
theorem dL_law_212 : decode cL_law 212 = .ok (.invokevirtual 29, 3) := by decide +kernel
theorem dL_law_215 : decode cL_law 215 = .ok (.aload_n 2, 1) := by decide +kernel
theorem dL_law_216 : decode cL_law 216 = .ok (.invokevirtual 32, 3) := by decide +kernel
theorem dL_law_219 : decode cL_law 219 = .ok (.if_icmp .eq 457, 3) := by decide +kernel
theorem dL_law_222 : decode cL_law 222 = .ok (.iconst 0, 1) := by decide +kernel
theorem dL_law_223 : decode cL_law 223 = .ok (.ireturn, 1) := by decide +kernel
theorem dL_law_224 : decode cL_law 224 = .ok (.aload_n 1, 1) := by decide +kernel
theorem dL_law_225 : decode cL_law 225 = .ok (.aload_n 0, 1) := by decide +kernel
theorem dL_law_226 : decode cL_law 226 = .ok (.iload_n 3, 1) := by decide +kernel
theorem dL_law_227 : decode cL_law 227 = .ok (.iconst 1, 1) := by decide +kernel
theorem dL_law_228 : decode cL_law 228 = .ok (.iadd, 1) := by decide +kernel
theorem dL_law_229 : decode cL_law 229 = .ok (.iaload, 1) := by decide +kernel
theorem dL_law_230 : decode cL_law 230 = .ok (.aload_n 0, 1) := by decide +kernel
theorem dL_law_231 : decode cL_law 231 = .ok (.iload_n 3, 1) := by decide +kernel
theorem dL_law_232 : decode cL_law 232 = .ok (.iconst 2, 1) := by decide +kernel
theorem dL_law_233 : decode cL_law 233 = .ok (.iadd, 1) := by decide +kernel
theorem dL_law_234 : decode cL_law 234 = .ok (.iaload, 1) := by decide +kernel
theorem dL_law_235 : decode cL_law 235 = .ok (.invokevirtual 33, 3) := by decide +kernel
theorem dL_law_238 : decode cL_law 238 = .ok (.aload_n 2, 1) := by decide +kernel
theorem dL_law_239 : decode cL_law 239 = .ok (.aload_n 0, 1) := by decide +kernel
theorem dL_law_240 : decode cL_law 240 = .ok (.iload_n 3, 1) := by decide +kernel
theorem dL_law_241 : decode cL_law 241 = .ok (.iconst 1, 1) := by decide +kernel
theorem dL_law_242 : decode cL_law 242 = .ok (.iadd, 1) := by decide +kernel
theorem dL_law_243 : decode cL_law 243 = .ok (.iaload, 1) := by decide +kernel
theorem dL_law_244 : decode cL_law 244 = .ok (.aload_n 0, 1) := by decide +kernel
theorem dL_law_245 : decode cL_law 245 = .ok (.iload_n 3, 1) := by decide +kernel
theorem dL_law_246 : decode cL_law 246 = .ok (.iconst 2, 1) := by decide +kernel
theorem dL_law_247 : decode cL_law 247 = .ok (.iadd, 1) := by decide +kernel
theorem dL_law_248 : decode cL_law 248 = .ok (.iaload, 1) := by decide +kernel
theorem dL_law_249 : decode cL_law 249 = .ok (.invokevirtual 37, 3) := by decide +kernel
theorem dL_law_252 : decode cL_law 252 = .ok (.if_icmp .eq 424, 3) := by decide +kernel
theorem dL_law_255 : decode cL_law 255 = .ok (.iconst 0, 1) := by decide +kernel
theorem dL_law_256 : decode cL_law 256 = .ok (.ireturn, 1) := by decide +kernel
theorem dL_law_257 : decode cL_law 257 = .ok (.aload_n 1, 1) := by decide +kernel
theorem dL_law_258 : decode cL_law 258 = .ok (.aload_n 0, 1) := by decide +kernel
theorem dL_law_259 : decode cL_law 259 = .ok (.iload_n 3, 1) := by decide +kernel
theorem dL_law_260 : decode cL_law 260 = .ok (.iconst 1, 1) := by decide +kernel
theorem dL_law_261 : decode cL_law 261 = .ok (.iadd, 1) := by decide +kernel
theorem dL_law_262 : decode cL_law 262 = .ok (.iaload, 1) := by decide +kernel
theorem dL_law_263 : decode cL_law 263 = .ok (.invokevirtual 38, 3) := by decide +kernel
theorem dL_law_266 : decode cL_law 266 = .ok (.aload_n 2, 1) := by decide +kernel
theorem dL_law_267 : decode cL_law 267 = .ok (.aload_n 0, 1) := by decide +kernel
theorem dL_law_268 : decode cL_law 268 = .ok (.iload_n 3, 1) := by decide +kernel
theorem dL_law_269 : decode cL_law 269 = .ok (.iconst 1, 1) := by decide +kernel
theorem dL_law_270 : decode cL_law 270 = .ok (.iadd, 1) := by decide +kernel
theorem dL_law_271 : decode cL_law 271 = .ok (.iaload, 1) := by decide +kernel
theorem dL_law_272 : decode cL_law 272 = .ok (.invokevirtual 42, 3) := by decide +kernel
theorem dL_law_275 : decode cL_law 275 = .ok (.if_icmp .eq 401, 3) := by decide +kernel
theorem dL_law_278 : decode cL_law 278 = .ok (.iconst 0, 1) := by decide +kernel
theorem dL_law_279 : decode cL_law 279 = .ok (.ireturn, 1) := by decide +kernel
theorem dL_law_280 : decode cL_law 280 = .ok (.aload_n 1, 1) := by decide +kernel
theorem dL_law_281 : decode cL_law 281 = .ok (.aload_n 0, 1) := by decide +kernel
theorem dL_law_282 : decode cL_law 282 = .ok (.iload_n 3, 1) := by decide +kernel
theorem dL_law_283 : decode cL_law 283 = .ok (.iconst 1, 1) := by decide +kernel
theorem dL_law_284 : decode cL_law 284 = .ok (.iadd, 1) := by decide +kernel
theorem dL_law_285 : decode cL_law 285 = .ok (.iaload, 1) := by decide +kernel
theorem dL_law_286 : decode cL_law 286 = .ok (.aload_n 0, 1) := by decide +kernel
theorem dL_law_287 : decode cL_law 287 = .ok (.iload_n 3, 1) := by decide +kernel
theorem dL_law_288 : decode cL_law 288 = .ok (.iconst 2, 1) := by decide +kernel
theorem dL_law_289 : decode cL_law 289 = .ok (.iadd, 1) := by decide +kernel
theorem dL_law_290 : decode cL_law 290 = .ok (.iaload, 1) := by decide +kernel
theorem dL_law_291 : decode cL_law 291 = .ok (.invokevirtual 43, 3) := by decide +kernel
theorem dL_law_294 : decode cL_law 294 = .ok (.aload_n 2, 1) := by decide +kernel
theorem dL_law_295 : decode cL_law 295 = .ok (.aload_n 0, 1) := by decide +kernel
theorem dL_law_296 : decode cL_law 296 = .ok (.iload_n 3, 1) := by decide +kernel
theorem dL_law_297 : decode cL_law 297 = .ok (.iconst 1, 1) := by decide +kernel
theorem dL_law_298 : decode cL_law 298 = .ok (.iadd, 1) := by decide +kernel
theorem dL_law_299 : decode cL_law 299 = .ok (.iaload, 1) := by decide +kernel
theorem dL_law_300 : decode cL_law 300 = .ok (.aload_n 0, 1) := by decide +kernel
theorem dL_law_301 : decode cL_law 301 = .ok (.iload_n 3, 1) := by decide +kernel
theorem dL_law_302 : decode cL_law 302 = .ok (.iconst 2, 1) := by decide +kernel
theorem dL_law_303 : decode cL_law 303 = .ok (.iadd, 1) := by decide +kernel
theorem dL_law_304 : decode cL_law 304 = .ok (.iaload, 1) := by decide +kernel
theorem dL_law_305 : decode cL_law 305 = .ok (.invokevirtual 46, 3) := by decide +kernel
theorem dL_law_308 : decode cL_law 308 = .ok (.if_icmp .eq 368, 3) := by decide +kernel
theorem dL_law_311 : decode cL_law 311 = .ok (.iconst 0, 1) := by decide +kernel
theorem dL_law_312 : decode cL_law 312 = .ok (.ireturn, 1) := by decide +kernel
theorem dL_law_313 : decode cL_law 313 = .ok (.aload_n 1, 1) := by decide +kernel
theorem dL_law_314 : decode cL_law 314 = .ok (.aload_n 0, 1) := by decide +kernel
theorem dL_law_315 : decode cL_law 315 = .ok (.iload_n 3, 1) := by decide +kernel
theorem dL_law_316 : decode cL_law 316 = .ok (.iconst 1, 1) := by decide +kernel
theorem dL_law_317 : decode cL_law 317 = .ok (.iadd, 1) := by decide +kernel
theorem dL_law_318 : decode cL_law 318 = .ok (.iaload, 1) := by decide +kernel
theorem dL_law_319 : decode cL_law 319 = .ok (.aload_n 0, 1) := by decide +kernel
theorem dL_law_320 : decode cL_law 320 = .ok (.iload_n 3, 1) := by decide +kernel
theorem dL_law_321 : decode cL_law 321 = .ok (.iconst 2, 1) := by decide +kernel
theorem dL_law_322 : decode cL_law 322 = .ok (.iadd, 1) := by decide +kernel
theorem dL_law_323 : decode cL_law 323 = .ok (.iaload, 1) := by decide +kernel
theorem dL_law_324 : decode cL_law 324 = .ok (.invokevirtual 47, 3) := by decide +kernel
theorem dL_law_327 : decode cL_law 327 = .ok (.aload_n 2, 1) := by decide +kernel
theorem dL_law_328 : decode cL_law 328 = .ok (.aload_n 0, 1) := by decide +kernel
theorem dL_law_329 : decode cL_law 329 = .ok (.iload_n 3, 1) := by decide +kernel
theorem dL_law_330 : decode cL_law 330 = .ok (.iconst 1, 1) := by decide +kernel
theorem dL_law_331 : decode cL_law 331 = .ok (.iadd, 1) := by decide +kernel
theorem dL_law_332 : decode cL_law 332 = .ok (.iaload, 1) := by decide +kernel
theorem dL_law_333 : decode cL_law 333 = .ok (.aload_n 0, 1) := by decide +kernel
theorem dL_law_334 : decode cL_law 334 = .ok (.iload_n 3, 1) := by decide +kernel
theorem dL_law_335 : decode cL_law 335 = .ok (.iconst 2, 1) := by decide +kernel
theorem dL_law_336 : decode cL_law 336 = .ok (.iadd, 1) := by decide +kernel
theorem dL_law_337 : decode cL_law 337 = .ok (.iaload, 1) := by decide +kernel
theorem dL_law_338 : decode cL_law 338 = .ok (.invokevirtual 50, 3) := by decide +kernel
theorem dL_law_341 : decode cL_law 341 = .ok (.if_icmp .eq 335, 3) := by decide +kernel
theorem dL_law_344 : decode cL_law 344 = .ok (.iconst 0, 1) := by decide +kernel
theorem dL_law_345 : decode cL_law 345 = .ok (.ireturn, 1) := by decide +kernel
theorem dL_law_346 : decode cL_law 346 = .ok (.aload_n 1, 1) := by decide +kernel
theorem dL_law_347 : decode cL_law 347 = .ok (.aload_n 0, 1) := by decide +kernel
theorem dL_law_348 : decode cL_law 348 = .ok (.iload_n 3, 1) := by decide +kernel
theorem dL_law_349 : decode cL_law 349 = .ok (.iconst 1, 1) := by decide +kernel
theorem dL_law_350 : decode cL_law 350 = .ok (.iadd, 1) := by decide +kernel
theorem dL_law_351 : decode cL_law 351 = .ok (.iaload, 1) := by decide +kernel
theorem dL_law_352 : decode cL_law 352 = .ok (.aload_n 0, 1) := by decide +kernel
theorem dL_law_353 : decode cL_law 353 = .ok (.iload_n 3, 1) := by decide +kernel
theorem dL_law_354 : decode cL_law 354 = .ok (.iconst 2, 1) := by decide +kernel
theorem dL_law_355 : decode cL_law 355 = .ok (.iadd, 1) := by decide +kernel
theorem dL_law_356 : decode cL_law 356 = .ok (.iaload, 1) := by decide +kernel
theorem dL_law_357 : decode cL_law 357 = .ok (.invokevirtual 51, 3) := by decide +kernel
theorem dL_law_360 : decode cL_law 360 = .ok (.aload_n 2, 1) := by decide +kernel
theorem dL_law_361 : decode cL_law 361 = .ok (.aload_n 0, 1) := by decide +kernel
theorem dL_law_362 : decode cL_law 362 = .ok (.iload_n 3, 1) := by decide +kernel
theorem dL_law_363 : decode cL_law 363 = .ok (.iconst 1, 1) := by decide +kernel
theorem dL_law_364 : decode cL_law 364 = .ok (.iadd, 1) := by decide +kernel
theorem dL_law_365 : decode cL_law 365 = .ok (.iaload, 1) := by decide +kernel
theorem dL_law_366 : decode cL_law 366 = .ok (.aload_n 0, 1) := by decide +kernel
theorem dL_law_367 : decode cL_law 367 = .ok (.iload_n 3, 1) := by decide +kernel
theorem dL_law_368 : decode cL_law 368 = .ok (.iconst 2, 1) := by decide +kernel
theorem dL_law_369 : decode cL_law 369 = .ok (.iadd, 1) := by decide +kernel
theorem dL_law_370 : decode cL_law 370 = .ok (.iaload, 1) := by decide +kernel
theorem dL_law_371 : decode cL_law 371 = .ok (.invokevirtual 55, 3) := by decide +kernel
theorem dL_law_374 : decode cL_law 374 = .ok (.lcmp, 1) := by decide +kernel
theorem dL_law_375 : decode cL_law 375 = .ok (.ifCond .eq 301, 3) := by decide +kernel
theorem dL_law_378 : decode cL_law 378 = .ok (.iconst 0, 1) := by decide +kernel
theorem dL_law_379 : decode cL_law 379 = .ok (.ireturn, 1) := by decide +kernel
theorem dL_law_380 : decode cL_law 380 = .ok (.aload_n 1, 1) := by decide +kernel
theorem dL_law_381 : decode cL_law 381 = .ok (.aload_n 0, 1) := by decide +kernel
theorem dL_law_382 : decode cL_law 382 = .ok (.iload_n 3, 1) := by decide +kernel
theorem dL_law_383 : decode cL_law 383 = .ok (.iconst 1, 1) := by decide +kernel
theorem dL_law_384 : decode cL_law 384 = .ok (.iadd, 1) := by decide +kernel
theorem dL_law_385 : decode cL_law 385 = .ok (.iaload, 1) := by decide +kernel
theorem dL_law_386 : decode cL_law 386 = .ok (.aload_n 0, 1) := by decide +kernel
theorem dL_law_387 : decode cL_law 387 = .ok (.iload_n 3, 1) := by decide +kernel
theorem dL_law_388 : decode cL_law 388 = .ok (.iconst 2, 1) := by decide +kernel
theorem dL_law_389 : decode cL_law 389 = .ok (.iadd, 1) := by decide +kernel
theorem dL_law_390 : decode cL_law 390 = .ok (.iaload, 1) := by decide +kernel
theorem dL_law_391 : decode cL_law 391 = .ok (.aload_n 0, 1) := by decide +kernel
theorem dL_law_392 : decode cL_law 392 = .ok (.iload_n 3, 1) := by decide +kernel
theorem dL_law_393 : decode cL_law 393 = .ok (.iconst 3, 1) := by decide +kernel
theorem dL_law_394 : decode cL_law 394 = .ok (.iadd, 1) := by decide +kernel
theorem dL_law_395 : decode cL_law 395 = .ok (.iaload, 1) := by decide +kernel
theorem dL_law_396 : decode cL_law 396 = .ok (.invokevirtual 56, 3) := by decide +kernel
theorem dL_law_399 : decode cL_law 399 = .ok (.aload_n 2, 1) := by decide +kernel
theorem dL_law_400 : decode cL_law 400 = .ok (.aload_n 0, 1) := by decide +kernel
theorem dL_law_401 : decode cL_law 401 = .ok (.iload_n 3, 1) := by decide +kernel
theorem dL_law_402 : decode cL_law 402 = .ok (.iconst 1, 1) := by decide +kernel
theorem dL_law_403 : decode cL_law 403 = .ok (.iadd, 1) := by decide +kernel
theorem dL_law_404 : decode cL_law 404 = .ok (.iaload, 1) := by decide +kernel
theorem dL_law_405 : decode cL_law 405 = .ok (.aload_n 0, 1) := by decide +kernel
theorem dL_law_406 : decode cL_law 406 = .ok (.iload_n 3, 1) := by decide +kernel
theorem dL_law_407 : decode cL_law 407 = .ok (.iconst 2, 1) := by decide +kernel
theorem dL_law_408 : decode cL_law 408 = .ok (.iadd, 1) := by decide +kernel
theorem dL_law_409 : decode cL_law 409 = .ok (.iaload, 1) := by decide +kernel
theorem dL_law_410 : decode cL_law 410 = .ok (.aload_n 0, 1) := by decide +kernel
theorem dL_law_411 : decode cL_law 411 = .ok (.iload_n 3, 1) := by decide +kernel
theorem dL_law_412 : decode cL_law 412 = .ok (.iconst 3, 1) := by decide +kernel
theorem dL_law_413 : decode cL_law 413 = .ok (.iadd, 1) := by decide +kernel
theorem dL_law_414 : decode cL_law 414 = .ok (.iaload, 1) := by decide +kernel
theorem dL_law_415 : decode cL_law 415 = .ok (.invokevirtual 60, 3) := by decide +kernel
theorem dL_law_418 : decode cL_law 418 = .ok (.if_icmp .eq 258, 3) := by decide +kernel
theorem dL_law_421 : decode cL_law 421 = .ok (.iconst 0, 1) := by decide +kernel
theorem dL_law_422 : decode cL_law 422 = .ok (.ireturn, 1) := by decide +kernel
theorem dL_law_423 : decode cL_law 423 = .ok (.aload_n 1, 1) := by decide +kernel
theorem dL_law_424 : decode cL_law 424 = .ok (.aload_n 0, 1) := by decide +kernel
theorem dL_law_425 : decode cL_law 425 = .ok (.iload_n 3, 1) := by decide +kernel
theorem dL_law_426 : decode cL_law 426 = .ok (.iconst 1, 1) := by decide +kernel
theorem dL_law_427 : decode cL_law 427 = .ok (.iadd, 1) := by decide +kernel
theorem dL_law_428 : decode cL_law 428 = .ok (.iaload, 1) := by decide +kernel
theorem dL_law_429 : decode cL_law 429 = .ok (.aload_n 0, 1) := by decide +kernel
theorem dL_law_430 : decode cL_law 430 = .ok (.iload_n 3, 1) := by decide +kernel
theorem dL_law_431 : decode cL_law 431 = .ok (.iconst 2, 1) := by decide +kernel
theorem dL_law_432 : decode cL_law 432 = .ok (.iadd, 1) := by decide +kernel
theorem dL_law_433 : decode cL_law 433 = .ok (.iaload, 1) := by decide +kernel
theorem dL_law_434 : decode cL_law 434 = .ok (.invokevirtual 61, 3) := by decide +kernel
theorem dL_law_437 : decode cL_law 437 = .ok (.aload_n 2, 1) := by decide +kernel
theorem dL_law_438 : decode cL_law 438 = .ok (.aload_n 0, 1) := by decide +kernel
theorem dL_law_439 : decode cL_law 439 = .ok (.iload_n 3, 1) := by decide +kernel
theorem dL_law_440 : decode cL_law 440 = .ok (.iconst 1, 1) := by decide +kernel
theorem dL_law_441 : decode cL_law 441 = .ok (.iadd, 1) := by decide +kernel
theorem dL_law_442 : decode cL_law 442 = .ok (.iaload, 1) := by decide +kernel
theorem dL_law_443 : decode cL_law 443 = .ok (.aload_n 0, 1) := by decide +kernel
theorem dL_law_444 : decode cL_law 444 = .ok (.iload_n 3, 1) := by decide +kernel
theorem dL_law_445 : decode cL_law 445 = .ok (.iconst 2, 1) := by decide +kernel
theorem dL_law_446 : decode cL_law 446 = .ok (.iadd, 1) := by decide +kernel
theorem dL_law_447 : decode cL_law 447 = .ok (.iaload, 1) := by decide +kernel
theorem dL_law_448 : decode cL_law 448 = .ok (.invokevirtual 64, 3) := by decide +kernel
theorem dL_law_451 : decode cL_law 451 = .ok (.if_icmp .eq 225, 3) := by decide +kernel
theorem dL_law_454 : decode cL_law 454 = .ok (.iconst 0, 1) := by decide +kernel
theorem dL_law_455 : decode cL_law 455 = .ok (.ireturn, 1) := by decide +kernel
theorem dL_law_456 : decode cL_law 456 = .ok (.aload_n 1, 1) := by decide +kernel
theorem dL_law_457 : decode cL_law 457 = .ok (.aload_n 0, 1) := by decide +kernel
theorem dL_law_458 : decode cL_law 458 = .ok (.iload_n 3, 1) := by decide +kernel
theorem dL_law_459 : decode cL_law 459 = .ok (.iconst 1, 1) := by decide +kernel
theorem dL_law_460 : decode cL_law 460 = .ok (.iadd, 1) := by decide +kernel
theorem dL_law_461 : decode cL_law 461 = .ok (.iaload, 1) := by decide +kernel
theorem dL_law_462 : decode cL_law 462 = .ok (.aload_n 0, 1) := by decide +kernel
theorem dL_law_463 : decode cL_law 463 = .ok (.iload_n 3, 1) := by decide +kernel
theorem dL_law_464 : decode cL_law 464 = .ok (.iconst 2, 1) := by decide +kernel
theorem dL_law_465 : decode cL_law 465 = .ok (.iadd, 1) := by decide +kernel
theorem dL_law_466 : decode cL_law 466 = .ok (.iaload, 1) := by decide +kernel
theorem dL_law_467 : decode cL_law 467 = .ok (.invokevirtual 65, 3) := by decide +kernel
theorem dL_law_470 : decode cL_law 470 = .ok (.aload_n 2, 1) := by decide +kernel
theorem dL_law_471 : decode cL_law 471 = .ok (.aload_n 0, 1) := by decide +kernel
theorem dL_law_472 : decode cL_law 472 = .ok (.iload_n 3, 1) := by decide +kernel
theorem dL_law_473 : decode cL_law 473 = .ok (.iconst 1, 1) := by decide +kernel
theorem dL_law_474 : decode cL_law 474 = .ok (.iadd, 1) := by decide +kernel
theorem dL_law_475 : decode cL_law 475 = .ok (.iaload, 1) := by decide +kernel
theorem dL_law_476 : decode cL_law 476 = .ok (.aload_n 0, 1) := by decide +kernel
theorem dL_law_477 : decode cL_law 477 = .ok (.iload_n 3, 1) := by decide +kernel
theorem dL_law_478 : decode cL_law 478 = .ok (.iconst 2, 1) := by decide +kernel
theorem dL_law_479 : decode cL_law 479 = .ok (.iadd, 1) := by decide +kernel
theorem dL_law_480 : decode cL_law 480 = .ok (.iaload, 1) := by decide +kernel
theorem dL_law_481 : decode cL_law 481 = .ok (.invokevirtual 68, 3) := by decide +kernel
theorem dL_law_484 : decode cL_law 484 = .ok (.if_icmp .eq 192, 3) := by decide +kernel
theorem dL_law_487 : decode cL_law 487 = .ok (.iconst 0, 1) := by decide +kernel
theorem dL_law_488 : decode cL_law 488 = .ok (.ireturn, 1) := by decide +kernel
theorem dL_law_489 : decode cL_law 489 = .ok (.aload_n 1, 1) := by decide +kernel
theorem dL_law_490 : decode cL_law 490 = .ok (.aload_n 0, 1) := by decide +kernel
theorem dL_law_491 : decode cL_law 491 = .ok (.iload_n 3, 1) := by decide +kernel
theorem dL_law_492 : decode cL_law 492 = .ok (.iconst 1, 1) := by decide +kernel
theorem dL_law_493 : decode cL_law 493 = .ok (.iadd, 1) := by decide +kernel
theorem dL_law_494 : decode cL_law 494 = .ok (.iaload, 1) := by decide +kernel
theorem dL_law_495 : decode cL_law 495 = .ok (.invokevirtual 69, 3) := by decide +kernel
theorem dL_law_498 : decode cL_law 498 = .ok (.aload_n 2, 1) := by decide +kernel
theorem dL_law_499 : decode cL_law 499 = .ok (.aload_n 0, 1) := by decide +kernel
theorem dL_law_500 : decode cL_law 500 = .ok (.iload_n 3, 1) := by decide +kernel
theorem dL_law_501 : decode cL_law 501 = .ok (.iconst 1, 1) := by decide +kernel
theorem dL_law_502 : decode cL_law 502 = .ok (.iadd, 1) := by decide +kernel
theorem dL_law_503 : decode cL_law 503 = .ok (.iaload, 1) := by decide +kernel
theorem dL_law_504 : decode cL_law 504 = .ok (.invokevirtual 72, 3) := by decide +kernel
theorem dL_law_507 : decode cL_law 507 = .ok (.if_icmp .eq 169, 3) := by decide +kernel
theorem dL_law_510 : decode cL_law 510 = .ok (.iconst 0, 1) := by decide +kernel
theorem dL_law_511 : decode cL_law 511 = .ok (.ireturn, 1) := by decide +kernel
theorem dL_law_512 : decode cL_law 512 = .ok (.aload_n 1, 1) := by decide +kernel
theorem dL_law_513 : decode cL_law 513 = .ok (.aload_n 0, 1) := by decide +kernel
theorem dL_law_514 : decode cL_law 514 = .ok (.iload_n 3, 1) := by decide +kernel
theorem dL_law_515 : decode cL_law 515 = .ok (.iconst 1, 1) := by decide +kernel
theorem dL_law_516 : decode cL_law 516 = .ok (.iadd, 1) := by decide +kernel
theorem dL_law_517 : decode cL_law 517 = .ok (.iaload, 1) := by decide +kernel
theorem dL_law_518 : decode cL_law 518 = .ok (.invokevirtual 73, 3) := by decide +kernel
theorem dL_law_521 : decode cL_law 521 = .ok (.aload_n 2, 1) := by decide +kernel
theorem dL_law_522 : decode cL_law 522 = .ok (.aload_n 0, 1) := by decide +kernel
theorem dL_law_523 : decode cL_law 523 = .ok (.iload_n 3, 1) := by decide +kernel
theorem dL_law_524 : decode cL_law 524 = .ok (.iconst 1, 1) := by decide +kernel
theorem dL_law_525 : decode cL_law 525 = .ok (.iadd, 1) := by decide +kernel
theorem dL_law_526 : decode cL_law 526 = .ok (.iaload, 1) := by decide +kernel
theorem dL_law_527 : decode cL_law 527 = .ok (.invokevirtual 76, 3) := by decide +kernel
theorem dL_law_530 : decode cL_law 530 = .ok (.if_icmp .eq 146, 3) := by decide +kernel
theorem dL_law_533 : decode cL_law 533 = .ok (.iconst 0, 1) := by decide +kernel
theorem dL_law_534 : decode cL_law 534 = .ok (.ireturn, 1) := by decide +kernel
theorem dL_law_535 : decode cL_law 535 = .ok (.aload_n 1, 1) := by decide +kernel
theorem dL_law_536 : decode cL_law 536 = .ok (.aload_n 0, 1) := by decide +kernel
theorem dL_law_537 : decode cL_law 537 = .ok (.iload_n 3, 1) := by decide +kernel
theorem dL_law_538 : decode cL_law 538 = .ok (.iconst 1, 1) := by decide +kernel
theorem dL_law_539 : decode cL_law 539 = .ok (.iadd, 1) := by decide +kernel
theorem dL_law_540 : decode cL_law 540 = .ok (.iaload, 1) := by decide +kernel
theorem dL_law_541 : decode cL_law 541 = .ok (.aload_n 0, 1) := by decide +kernel
theorem dL_law_542 : decode cL_law 542 = .ok (.iload_n 3, 1) := by decide +kernel
theorem dL_law_543 : decode cL_law 543 = .ok (.iconst 2, 1) := by decide +kernel
theorem dL_law_544 : decode cL_law 544 = .ok (.iadd, 1) := by decide +kernel
theorem dL_law_545 : decode cL_law 545 = .ok (.iaload, 1) := by decide +kernel
theorem dL_law_546 : decode cL_law 546 = .ok (.invokevirtual 77, 3) := by decide +kernel
theorem dL_law_549 : decode cL_law 549 = .ok (.aload_n 2, 1) := by decide +kernel
theorem dL_law_550 : decode cL_law 550 = .ok (.aload_n 0, 1) := by decide +kernel
theorem dL_law_551 : decode cL_law 551 = .ok (.iload_n 3, 1) := by decide +kernel
theorem dL_law_552 : decode cL_law 552 = .ok (.iconst 1, 1) := by decide +kernel
theorem dL_law_553 : decode cL_law 553 = .ok (.iadd, 1) := by decide +kernel
theorem dL_law_554 : decode cL_law 554 = .ok (.iaload, 1) := by decide +kernel
theorem dL_law_555 : decode cL_law 555 = .ok (.aload_n 0, 1) := by decide +kernel
theorem dL_law_556 : decode cL_law 556 = .ok (.iload_n 3, 1) := by decide +kernel
theorem dL_law_557 : decode cL_law 557 = .ok (.iconst 2, 1) := by decide +kernel
theorem dL_law_558 : decode cL_law 558 = .ok (.iadd, 1) := by decide +kernel
theorem dL_law_559 : decode cL_law 559 = .ok (.iaload, 1) := by decide +kernel
theorem dL_law_560 : decode cL_law 560 = .ok (.invokevirtual 80, 3) := by decide +kernel
theorem dL_law_563 : decode cL_law 563 = .ok (.if_icmp .eq 113, 3) := by decide +kernel
theorem dL_law_566 : decode cL_law 566 = .ok (.iconst 0, 1) := by decide +kernel
theorem dL_law_567 : decode cL_law 567 = .ok (.ireturn, 1) := by decide +kernel
theorem dL_law_568 : decode cL_law 568 = .ok (.aload_n 1, 1) := by decide +kernel
theorem dL_law_569 : decode cL_law 569 = .ok (.aload_n 0, 1) := by decide +kernel
theorem dL_law_570 : decode cL_law 570 = .ok (.iload_n 3, 1) := by decide +kernel
theorem dL_law_571 : decode cL_law 571 = .ok (.iconst 1, 1) := by decide +kernel
theorem dL_law_572 : decode cL_law 572 = .ok (.iadd, 1) := by decide +kernel
theorem dL_law_573 : decode cL_law 573 = .ok (.iaload, 1) := by decide +kernel
theorem dL_law_574 : decode cL_law 574 = .ok (.invokevirtual 81, 3) := by decide +kernel
theorem dL_law_577 : decode cL_law 577 = .ok (.aload_n 2, 1) := by decide +kernel
theorem dL_law_578 : decode cL_law 578 = .ok (.aload_n 0, 1) := by decide +kernel
theorem dL_law_579 : decode cL_law 579 = .ok (.iload_n 3, 1) := by decide +kernel
theorem dL_law_580 : decode cL_law 580 = .ok (.iconst 1, 1) := by decide +kernel
theorem dL_law_581 : decode cL_law 581 = .ok (.iadd, 1) := by decide +kernel
theorem dL_law_582 : decode cL_law 582 = .ok (.iaload, 1) := by decide +kernel
theorem dL_law_583 : decode cL_law 583 = .ok (.invokevirtual 84, 3) := by decide +kernel
theorem dL_law_586 : decode cL_law 586 = .ok (.if_icmp .eq 90, 3) := by decide +kernel
theorem dL_law_589 : decode cL_law 589 = .ok (.iconst 0, 1) := by decide +kernel
theorem dL_law_590 : decode cL_law 590 = .ok (.ireturn, 1) := by decide +kernel
theorem dL_law_591 : decode cL_law 591 = .ok (.aload_n 1, 1) := by decide +kernel
theorem dL_law_592 : decode cL_law 592 = .ok (.aload_n 0, 1) := by decide +kernel
theorem dL_law_593 : decode cL_law 593 = .ok (.iload_n 3, 1) := by decide +kernel
theorem dL_law_594 : decode cL_law 594 = .ok (.iconst 1, 1) := by decide +kernel
theorem dL_law_595 : decode cL_law 595 = .ok (.iadd, 1) := by decide +kernel
theorem dL_law_596 : decode cL_law 596 = .ok (.iaload, 1) := by decide +kernel
theorem dL_law_597 : decode cL_law 597 = .ok (.invokevirtual 85, 3) := by decide +kernel
theorem dL_law_600 : decode cL_law 600 = .ok (.aload_n 2, 1) := by decide +kernel
theorem dL_law_601 : decode cL_law 601 = .ok (.aload_n 0, 1) := by decide +kernel
theorem dL_law_602 : decode cL_law 602 = .ok (.iload_n 3, 1) := by decide +kernel
theorem dL_law_603 : decode cL_law 603 = .ok (.iconst 1, 1) := by decide +kernel
theorem dL_law_604 : decode cL_law 604 = .ok (.iadd, 1) := by decide +kernel
theorem dL_law_605 : decode cL_law 605 = .ok (.iaload, 1) := by decide +kernel
theorem dL_law_606 : decode cL_law 606 = .ok (.invokevirtual 88, 3) := by decide +kernel
theorem dL_law_609 : decode cL_law 609 = .ok (.if_icmp .eq 67, 3) := by decide +kernel
theorem dL_law_612 : decode cL_law 612 = .ok (.iconst 0, 1) := by decide +kernel
theorem dL_law_613 : decode cL_law 613 = .ok (.ireturn, 1) := by decide +kernel
theorem dL_law_614 : decode cL_law 614 = .ok (.aload_n 1, 1) := by decide +kernel
theorem dL_law_615 : decode cL_law 615 = .ok (.invokevirtual 89, 3) := by decide +kernel
theorem dL_law_618 : decode cL_law 618 = .ok (.aload_n 2, 1) := by decide +kernel
theorem dL_law_619 : decode cL_law 619 = .ok (.invokevirtual 92, 3) := by decide +kernel
theorem dL_law_622 : decode cL_law 622 = .ok (.if_icmp .eq 54, 3) := by decide +kernel
theorem dL_law_625 : decode cL_law 625 = .ok (.iconst 0, 1) := by decide +kernel
theorem dL_law_626 : decode cL_law 626 = .ok (.ireturn, 1) := by decide +kernel
theorem dL_law_627 : decode cL_law 627 = .ok (.aload_n 1, 1) := by decide +kernel
theorem dL_law_628 : decode cL_law 628 = .ok (.invokevirtual 93, 3) := by decide +kernel
theorem dL_law_631 : decode cL_law 631 = .ok (.aload_n 2, 1) := by decide +kernel
theorem dL_law_632 : decode cL_law 632 = .ok (.invokevirtual 96, 3) := by decide +kernel
theorem dL_law_635 : decode cL_law 635 = .ok (.if_icmp .eq 41, 3) := by decide +kernel
theorem dL_law_638 : decode cL_law 638 = .ok (.iconst 0, 1) := by decide +kernel
theorem dL_law_639 : decode cL_law 639 = .ok (.ireturn, 1) := by decide +kernel
theorem dL_law_640 : decode cL_law 640 = .ok (.aload_n 1, 1) := by decide +kernel
theorem dL_law_641 : decode cL_law 641 = .ok (.invokevirtual 97, 3) := by decide +kernel
theorem dL_law_644 : decode cL_law 644 = .ok (.aload_n 2, 1) := by decide +kernel
theorem dL_law_645 : decode cL_law 645 = .ok (.invokevirtual 100, 3) := by decide +kernel
theorem dL_law_648 : decode cL_law 648 = .ok (.if_icmp .eq 28, 3) := by decide +kernel
theorem dL_law_651 : decode cL_law 651 = .ok (.iconst 0, 1) := by decide +kernel
theorem dL_law_652 : decode cL_law 652 = .ok (.ireturn, 1) := by decide +kernel
theorem dL_law_653 : decode cL_law 653 = .ok (.aload_n 1, 1) := by decide +kernel
theorem dL_law_654 : decode cL_law 654 = .ok (.aload_n 0, 1) := by decide +kernel
theorem dL_law_655 : decode cL_law 655 = .ok (.iload_n 3, 1) := by decide +kernel
theorem dL_law_656 : decode cL_law 656 = .ok (.iconst 1, 1) := by decide +kernel
theorem dL_law_657 : decode cL_law 657 = .ok (.iadd, 1) := by decide +kernel
theorem dL_law_658 : decode cL_law 658 = .ok (.iaload, 1) := by decide +kernel
theorem dL_law_659 : decode cL_law 659 = .ok (.invokevirtual 101, 3) := by decide +kernel
theorem dL_law_662 : decode cL_law 662 = .ok (.aload_n 2, 1) := by decide +kernel
theorem dL_law_663 : decode cL_law 663 = .ok (.aload_n 0, 1) := by decide +kernel
theorem dL_law_664 : decode cL_law 664 = .ok (.iload_n 3, 1) := by decide +kernel
theorem dL_law_665 : decode cL_law 665 = .ok (.iconst 1, 1) := by decide +kernel
theorem dL_law_666 : decode cL_law 666 = .ok (.iadd, 1) := by decide +kernel
theorem dL_law_667 : decode cL_law 667 = .ok (.iaload, 1) := by decide +kernel
theorem dL_law_668 : decode cL_law 668 = .ok (.invokevirtual 104, 3) := by decide +kernel
theorem dL_law_671 : decode cL_law 671 = .ok (.if_icmp .eq 5, 3) := by decide +kernel
theorem dL_law_674 : decode cL_law 674 = .ok (.iconst 0, 1) := by decide +kernel
theorem dL_law_675 : decode cL_law 675 = .ok (.ireturn, 1) := by decide +kernel
theorem dL_law_676 : decode cL_law 676 = .ok (.iinc 3 4, 3) := by decide +kernel
theorem dL_law_679 : decode cL_law 679 = .ok (.goto (-661), 3) := by decide +kernel
theorem dL_law_682 : decode cL_law 682 = .ok (.iconst 1, 1) := by decide +kernel
theorem dL_law_683 : decode cL_law 683 = .ok (.ireturn, 1) := by decide +kernel
