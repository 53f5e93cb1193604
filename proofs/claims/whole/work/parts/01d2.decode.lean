theorem dX8_item_82 : decode cX8_item 82 = .ok (.iastore, 1) := by decide +kernel
theorem dX8_item_83 : decode cX8_item 83 = .ok (.aload_n 0, 1) := by decide +kernel
theorem dX8_item_84 : decode cX8_item 84 = .ok (.getfield 7, 3) := by decide +kernel
theorem dX8_item_87 : decode cX8_item 87 = .ok (.iload_n 2, 1) := by decide +kernel
theorem dX8_item_88 : decode cX8_item 88 = .ok (.iconst 1, 1) := by decide +kernel
theorem dX8_item_89 : decode cX8_item 89 = .ok (.iadd, 1) := by decide +kernel
theorem dX8_item_90 : decode cX8_item 90 = .ok (.aload_n 0, 1) := by decide +kernel
theorem dX8_item_91 : decode cX8_item 91 = .ok (.bipush 40, 2) := by decide +kernel
theorem dX8_item_93 : decode cX8_item 93 = .ok (.iconst 1, 1) := by decide +kernel
theorem dX8_item_94 : decode cX8_item 94 = .ok (.invokevirtual 193, 3) := by decide +kernel
theorem dX8_item_97 : decode cX8_item 97 = .ok (.iastore, 1) := by decide +kernel
theorem dX8_item_98 : decode cX8_item 98 = .ok (.aload_n 0, 1) := by decide +kernel
theorem dX8_item_99 : decode cX8_item 99 = .ok (.bipush 44, 2) := by decide +kernel
theorem dX8_item_101 : decode cX8_item 101 = .ok (.invokevirtual 197, 3) := by decide +kernel
theorem dX8_item_104 : decode cX8_item 104 = .ok (.aload_n 0, 1) := by decide +kernel
theorem dX8_item_105 : decode cX8_item 105 = .ok (.getfield 7, 3) := by decide +kernel
theorem dX8_item_108 : decode cX8_item 108 = .ok (.iload_n 2, 1) := by decide +kernel
theorem dX8_item_109 : decode cX8_item 109 = .ok (.iconst 2, 1) := by decide +kernel
theorem dX8_item_110 : decode cX8_item 110 = .ok (.iadd, 1) := by decide +kernel
theorem dX8_item_111 : decode cX8_item 111 = .ok (.aload_n 0, 1) := by decide +kernel
theorem dX8_item_112 : decode cX8_item 112 = .ok (.bipush 40, 2) := by decide +kernel
theorem dX8_item_114 : decode cX8_item 114 = .ok (.iconst 1, 1) := by decide +kernel
theorem dX8_item_115 : decode cX8_item 115 = .ok (.invokevirtual 193, 3) := by decide +kernel
theorem dX8_item_118 : decode cX8_item 118 = .ok (.iastore, 1) := by decide +kernel
theorem dX8_item_119 : decode cX8_item 119 = .ok (.aload_n 0, 1) := by decide +kernel
theorem dX8_item_120 : decode cX8_item 120 = .ok (.bipush 119, 2) := by decide +kernel
theorem dX8_item_122 : decode cX8_item 122 = .ok (.invokevirtual 197, 3) := by decide +kernel
theorem dX8_item_125 : decode cX8_item 125 = .ok (.aload_n 0, 1) := by decide +kernel
theorem dX8_item_126 : decode cX8_item 126 = .ok (.getfield 7, 3) := by decide +kernel
theorem dX8_item_129 : decode cX8_item 129 = .ok (.iload_n 2, 1) := by decide +kernel
theorem dX8_item_130 : decode cX8_item 130 = .ok (.iconst 3, 1) := by decide +kernel
theorem dX8_item_131 : decode cX8_item 131 = .ok (.iadd, 1) := by decide +kernel
theorem dX8_item_132 : decode cX8_item 132 = .ok (.aload_n 0, 1) := by decide +kernel
theorem dX8_item_133 : decode cX8_item 133 = .ok (.sipush 400, 3) := by decide +kernel
theorem dX8_item_136 : decode cX8_item 136 = .ok (.iconst 0, 1) := by decide +kernel
theorem dX8_item_137 : decode cX8_item 137 = .ok (.invokevirtual 193, 3) := by decide +kernel
theorem dX8_item_140 : decode cX8_item 140 = .ok (.iastore, 1) := by decide +kernel
theorem dX8_item_141 : decode cX8_item 141 = .ok (.aload_n 0, 1) := by decide +kernel
theorem dX8_item_142 : decode cX8_item 142 = .ok (.getfield 7, 3) := by decide +kernel
theorem dX8_item_145 : decode cX8_item 145 = .ok (.iload_n 2, 1) := by decide +kernel
theorem dX8_item_146 : decode cX8_item 146 = .ok (.iconst 4, 1) := by decide +kernel
theorem dX8_item_147 : decode cX8_item 147 = .ok (.iadd, 1) := by decide +kernel
theorem dX8_item_148 : decode cX8_item 148 = .ok (.iconst 0, 1) := by decide +kernel
theorem dX8_item_149 : decode cX8_item 149 = .ok (.iastore, 1) := by decide +kernel
theorem dX8_item_150 : decode cX8_item 150 = .ok (.aload_n 0, 1) := by decide +kernel
theorem dX8_item_151 : decode cX8_item 151 = .ok (.getfield 7, 3) := by decide +kernel
theorem dX8_item_154 : decode cX8_item 154 = .ok (.iload_n 2, 1) := by decide +kernel
theorem dX8_item_155 : decode cX8_item 155 = .ok (.iconst 5, 1) := by decide +kernel
theorem dX8_item_156 : decode cX8_item 156 = .ok (.iadd, 1) := by decide +kernel
theorem dX8_item_157 : decode cX8_item 157 = .ok (.bipush 90, 2) := by decide +kernel
theorem dX8_item_159 : decode cX8_item 159 = .ok (.iastore, 1) := by decide +kernel
theorem dX8_item_160 : decode cX8_item 160 = .ok (.iload_n 3, 1) := by decide +kernel
theorem dX8_item_161 : decode cX8_item 161 = .ok (.bipush 112, 2) := by decide +kernel
theorem dX8_item_163 : decode cX8_item 163 = .ok (.if_icmp .eq 25, 3) := by decide +kernel
theorem dX8_item_166 : decode cX8_item 166 = .ok (.aload_n 0, 1) := by decide +kernel
theorem dX8_item_167 : decode cX8_item 167 = .ok (.bipush 111, 2) := by decide +kernel
theorem dX8_item_169 : decode cX8_item 169 = .ok (.invokevirtual 197, 3) := by decide +kernel
theorem dX8_item_172 : decode cX8_item 172 = .ok (.aload_n 0, 1) := by decide +kernel
theorem dX8_item_173 : decode cX8_item 173 = .ok (.getfield 7, 3) := by decide +kernel
theorem dX8_item_176 : decode cX8_item 176 = .ok (.iload_n 2, 1) := by decide +kernel
theorem dX8_item_177 : decode cX8_item 177 = .ok (.iconst 4, 1) := by decide +kernel
theorem dX8_item_178 : decode cX8_item 178 = .ok (.iadd, 1) := by decide +kernel
theorem dX8_item_179 : decode cX8_item 179 = .ok (.aload_n 0, 1) := by decide +kernel
theorem dX8_item_180 : decode cX8_item 180 = .ok (.sipush 900, 3) := by decide +kernel
theorem dX8_item_183 : decode cX8_item 183 = .ok (.iconst 0, 1) := by decide +kernel
theorem dX8_item_184 : decode cX8_item 184 = .ok (.invokevirtual 193, 3) := by decide +kernel
theorem dX8_item_187 : decode cX8_item 187 = .ok (.iastore, 1) := by decide +kernel
theorem dX8_item_188 : decode cX8_item 188 = .ok (.iload_n 3, 1) := by decide +kernel
theorem dX8_item_189 : decode cX8_item 189 = .ok (.bipush 99, 2) := by decide +kernel
theorem dX8_item_191 : decode cX8_item 191 = .ok (.if_icmp .ne 24, 3) := by decide +kernel
theorem dX8_item_194 : decode cX8_item 194 = .ok (.aload_n 0, 1) := by decide +kernel
theorem dX8_item_195 : decode cX8_item 195 = .ok (.bipush 101, 2) := by decide +kernel
theorem dX8_item_197 : decode cX8_item 197 = .ok (.invokevirtual 197, 3) := by decide +kernel
theorem dX8_item_200 : decode cX8_item 200 = .ok (.aload_n 0, 1) := by decide +kernel
theorem dX8_item_201 : decode cX8_item 201 = .ok (.getfield 7, 3) := by decide +kernel
theorem dX8_item_204 : decode cX8_item 204 = .ok (.iload_n 2, 1) := by decide +kernel
theorem dX8_item_205 : decode cX8_item 205 = .ok (.iconst 5, 1) := by decide +kernel
theorem dX8_item_206 : decode cX8_item 206 = .ok (.iadd, 1) := by decide +kernel
theorem dX8_item_207 : decode cX8_item 207 = .ok (.aload_n 0, 1) := by decide +kernel
theorem dX8_item_208 : decode cX8_item 208 = .ok (.bipush 90, 2) := by decide +kernel
theorem dX8_item_210 : decode cX8_item 210 = .ok (.iconst 0, 1) := by decide +kernel
theorem dX8_item_211 : decode cX8_item 211 = .ok (.invokevirtual 193, 3) := by decide +kernel
theorem dX8_item_214 : decode cX8_item 214 = .ok (.iastore, 1) := by decide +kernel
theorem dX8_item_215 : decode cX8_item 215 = .ok (.aload_n 0, 1) := by decide +kernel
theorem dX8_item_216 : decode cX8_item 216 = .ok (.bipush 59, 2) := by decide +kernel
theorem dX8_item_218 : decode cX8_item 218 = .ok (.invokevirtual 197, 3) := by decide +kernel
theorem dX8_item_221 : decode cX8_item 221 = .ok (.return_, 1) := by decide +kernel
theorem dX8_read_0 : decode cX8_read 0 = .ok (.aload_n 0, 1) := by decide +kernel
theorem dX8_read_1 : decode cX8_read 1 = .ok (.iconst 0, 1) := by decide +kernel
theorem dX8_read_2 : decode cX8_read 2 = .ok (.putfield 179, 3) := by decide +kernel
theorem dX8_read_5 : decode cX8_read 5 = .ok (.aload_n 0, 1) := by decide +kernel
theorem dX8_read_6 : decode cX8_read 6 = .ok (.bipush (-9), 2) := by decide +kernel
theorem dX8_read_8 : decode cX8_read 8 = .ok (.putfield 186, 3) := by decide +kernel
theorem dX8_read_11 : decode cX8_read 11 = .ok (.iconst 0, 1) := by decide +kernel
theorem dX8_read_12 : decode cX8_read 12 = .ok (.istore_n 1, 1) := by decide +kernel
theorem dX8_read_13 : decode cX8_read 13 = .ok (.aload_n 0, 1) := by decide +kernel
theorem dX8_read_14 : decode cX8_read 14 = .ok (.getfield 186, 3) := by decide +kernel
theorem dX8_read_17 : decode cX8_read 17 = .ok (.bipush (-9), 2) := by decide +kernel
theorem dX8_read_19 : decode cX8_read 19 = .ok (.if_icmp .ne 25, 3) := by decide +kernel
theorem dX8_read_22 : decode cX8_read 22 = .ok (.aload_n 0, 1) := by decide +kernel
theorem dX8_read_23 : decode cX8_read 23 = .ok (.getfield 179, 3) := by decide +kernel
theorem dX8_read_26 : decode cX8_read 26 = .ok (.aload_n 0, 1) := by decide +kernel
theorem dX8_read_27 : decode cX8_read 27 = .ok (.getfield 174, 3) := by decide +kernel
theorem dX8_read_30 : decode cX8_read 30 = .ok (.if_icmp .ge 14, 3) := by decide +kernel
theorem dX8_read_33 : decode cX8_read 33 = .ok (.aload_n 0, 1) := by decide +kernel
theorem dX8_read_34 : decode cX8_read 34 = .ok (.iload_n 1, 1) := by decide +kernel
theorem dX8_read_35 : decode cX8_read 35 = .ok (.invokevirtual 200, 3) := by decide +kernel
theorem dX8_read_38 : decode cX8_read 38 = .ok (.iinc 1 1, 3) := by decide +kernel
theorem dX8_read_41 : decode cX8_read 41 = .ok (.goto (-28), 3) := by decide +kernel
theorem dX8_read_44 : decode cX8_read 44 = .ok (.aload_n 0, 1) := by decide +kernel
theorem dX8_read_45 : decode cX8_read 45 = .ok (.getfield 186, 3) := by decide +kernel
theorem dX8_read_48 : decode cX8_read 48 = .ok (.bipush (-9), 2) := by decide +kernel
theorem dX8_read_50 : decode cX8_read 50 = .ok (.if_icmp .eq 11, 3) := by decide +kernel
theorem dX8_read_53 : decode cX8_read 53 = .ok (.bipush (-10), 2) := by decide +kernel
theorem dX8_read_55 : decode cX8_read 55 = .ok (.aload_n 0, 1) := by decide +kernel
theorem dX8_read_56 : decode cX8_read 56 = .ok (.getfield 186, 3) := by decide +kernel
theorem dX8_read_59 : decode cX8_read 59 = .ok (.isub, 1) := by decide +kernel
theorem dX8_read_60 : decode cX8_read 60 = .ok (.ireturn, 1) := by decide +kernel
theorem dX8_read_61 : decode cX8_read 61 = .ok (.iconst 0, 1) := by decide +kernel
theorem dX8_read_62 : decode cX8_read 62 = .ok (.istore_n 2, 1) := by decide +kernel
theorem dX8_read_63 : decode cX8_read 63 = .ok (.iload_n 2, 1) := by decide +kernel
theorem dX8_read_64 : decode cX8_read 64 = .ok (.bipush 48, 2) := by decide +kernel
theorem dX8_read_66 : decode cX8_read 66 = .ok (.if_icmp .ge 24, 3) := by decide +kernel
theorem dX8_read_69 : decode cX8_read 69 = .ok (.aload_n 0, 1) := by decide +kernel
theorem dX8_read_70 : decode cX8_read 70 = .ok (.getfield 7, 3) := by decide +kernel
theorem dX8_read_73 : decode cX8_read 73 = .ok (.iload_n 2, 1) := by decide +kernel
theorem dX8_read_74 : decode cX8_read 74 = .ok (.aload_n 0, 1) := by decide +kernel
theorem dX8_read_75 : decode cX8_read 75 = .ok (.getfield 7, 3) := by decide +kernel
theorem dX8_read_78 : decode cX8_read 78 = .ok (.bipush 48, 2) := by decide +kernel
theorem dX8_read_80 : decode cX8_read 80 = .ok (.iload_n 2, 1) := by decide +kernel
theorem dX8_read_81 : decode cX8_read 81 = .ok (.iadd, 1) := by decide +kernel
theorem dX8_read_82 : decode cX8_read 82 = .ok (.iaload, 1) := by decide +kernel
theorem dX8_read_83 : decode cX8_read 83 = .ok (.iastore, 1) := by decide +kernel
theorem dX8_read_84 : decode cX8_read 84 = .ok (.iinc 2 1, 3) := by decide +kernel
theorem dX8_read_87 : decode cX8_read 87 = .ok (.goto (-24), 3) := by decide +kernel
theorem dX8_read_90 : decode cX8_read 90 = .ok (.aload_n 0, 1) := by decide +kernel
theorem dX8_read_91 : decode cX8_read 91 = .ok (.iload_n 1, 1) := by decide +kernel
theorem dX8_read_92 : decode cX8_read 92 = .ok (.putfield 78, 3) := by decide +kernel
theorem dX8_read_95 : decode cX8_read 95 = .ok (.aload_n 0, 1) := by decide +kernel
theorem dX8_read_96 : decode cX8_read 96 = .ok (.iconst 0, 1) := by decide +kernel
theorem dX8_read_97 : decode cX8_read 97 = .ok (.putfield 174, 3) := by decide +kernel
theorem dX8_read_100 : decode cX8_read 100 = .ok (.iload_n 1, 1) := by decide +kernel
theorem dX8_read_101 : decode cX8_read 101 = .ok (.ireturn, 1) := by decide +kernel
theorem dX8_pair_0 : decode cX8_pair 0 = .ok (.iload_n 1, 1) := by decide +kernel
theorem dX8_pair_1 : decode cX8_pair 1 = .ok (.iload_n 2, 1) := by decide +kernel
theorem dX8_pair_2 : decode cX8_pair 2 = .ok (.bipush 30, 2) := by decide +kernel
theorem dX8_pair_4 : decode cX8_pair 4 = .ok (.invokestatic 81, 3) := by decide +kernel
theorem dX8_pair_7 : decode cX8_pair 7 = .ok (.ifCond .eq 14, 3) := by decide +kernel
theorem dX8_pair_10 : decode cX8_pair 10 = .ok (.iload_n 3, 1) := by decide +kernel
theorem dX8_pair_11 : decode cX8_pair 11 = .ok (.iload 4, 2) := by decide +kernel
theorem dX8_pair_13 : decode cX8_pair 13 = .ok (.bipush 30, 2) := by decide +kernel
theorem dX8_pair_15 : decode cX8_pair 15 = .ok (.invokestatic 81, 3) := by decide +kernel
theorem dX8_pair_18 : decode cX8_pair 18 = .ok (.ifCond .ne 5, 3) := by decide +kernel
theorem dX8_pair_21 : decode cX8_pair 21 = .ok (.iconst (-1), 1) := by decide +kernel
theorem dX8_pair_22 : decode cX8_pair 22 = .ok (.ireturn, 1) := by decide +kernel
theorem dX8_pair_23 : decode cX8_pair 23 = .ok (.aload_n 0, 1) := by decide +kernel
theorem dX8_pair_24 : decode cX8_pair 24 = .ok (.getfield 203, 3) := by decide +kernel
theorem dX8_pair_27 : decode cX8_pair 27 = .ok (.bipush 10, 2) := by decide +kernel
theorem dX8_pair_29 : decode cX8_pair 29 = .ok (.if_icmp .ne 6, 3) := by decide +kernel
theorem dX8_pair_32 : decode cX8_pair 32 = .ok (.bipush (-3), 2) := by decide +kernel
theorem dX8_pair_34 : decode cX8_pair 34 = .ok (.ireturn, 1) := by decide +kernel
theorem dX8_pair_35 : decode cX8_pair 35 = .ok (.aload_n 0, 1) := by decide +kernel
theorem dX8_pair_36 : decode cX8_pair 36 = .ok (.getfield 17, 3) := by decide +kernel
theorem dX8_pair_39 : decode cX8_pair 39 = .ok (.iconst 4, 1) := by decide +kernel
theorem dX8_pair_40 : decode cX8_pair 40 = .ok (.aload_n 0, 1) := by decide +kernel
theorem dX8_pair_41 : decode cX8_pair 41 = .ok (.getfield 203, 3) := by decide +kernel
theorem dX8_pair_44 : decode cX8_pair 44 = .ok (.imul, 1) := by decide +kernel
theorem dX8_pair_45 : decode cX8_pair 45 = .ok (.iload_n 1, 1) := by decide +kernel
theorem dX8_pair_46 : decode cX8_pair 46 = .ok (.iastore, 1) := by decide +kernel
theorem dX8_pair_47 : decode cX8_pair 47 = .ok (.aload_n 0, 1) := by decide +kernel
theorem dX8_pair_48 : decode cX8_pair 48 = .ok (.getfield 17, 3) := by decide +kernel
theorem dX8_pair_51 : decode cX8_pair 51 = .ok (.iconst 4, 1) := by decide +kernel
theorem dX8_pair_52 : decode cX8_pair 52 = .ok (.aload_n 0, 1) := by decide +kernel
theorem dX8_pair_53 : decode cX8_pair 53 = .ok (.getfield 203, 3) := by decide +kernel
theorem dX8_pair_56 : decode cX8_pair 56 = .ok (.imul, 1) := by decide +kernel
theorem dX8_pair_57 : decode cX8_pair 57 = .ok (.iconst 1, 1) := by decide +kernel
theorem dX8_pair_58 : decode cX8_pair 58 = .ok (.iadd, 1) := by decide +kernel
theorem dX8_pair_59 : decode cX8_pair 59 = .ok (.iload_n 2, 1) := by decide +kernel
theorem dX8_pair_60 : decode cX8_pair 60 = .ok (.iastore, 1) := by decide +kernel
theorem dX8_pair_61 : decode cX8_pair 61 = .ok (.aload_n 0, 1) := by decide +kernel
theorem dX8_pair_62 : decode cX8_pair 62 = .ok (.getfield 17, 3) := by decide +kernel
theorem dX8_pair_65 : decode cX8_pair 65 = .ok (.iconst 4, 1) := by decide +kernel
theorem dX8_pair_66 : decode cX8_pair 66 = .ok (.aload_n 0, 1) := by decide +kernel
theorem dX8_pair_67 : decode cX8_pair 67 = .ok (.getfield 203, 3) := by decide +kernel
theorem dX8_pair_70 : decode cX8_pair 70 = .ok (.imul, 1) := by decide +kernel
theorem dX8_pair_71 : decode cX8_pair 71 = .ok (.iconst 2, 1) := by decide +kernel
theorem dX8_pair_72 : decode cX8_pair 72 = .ok (.iadd, 1) := by decide +kernel
theorem dX8_pair_73 : decode cX8_pair 73 = .ok (.iload_n 3, 1) := by decide +kernel
theorem dX8_pair_74 : decode cX8_pair 74 = .ok (.iastore, 1) := by decide +kernel
theorem dX8_pair_75 : decode cX8_pair 75 = .ok (.aload_n 0, 1) := by decide +kernel
theorem dX8_pair_76 : decode cX8_pair 76 = .ok (.getfield 17, 3) := by decide +kernel
theorem dX8_pair_79 : decode cX8_pair 79 = .ok (.iconst 4, 1) := by decide +kernel
theorem dX8_pair_80 : decode cX8_pair 80 = .ok (.aload_n 0, 1) := by decide +kernel
theorem dX8_pair_81 : decode cX8_pair 81 = .ok (.getfield 203, 3) := by decide +kernel
theorem dX8_pair_84 : decode cX8_pair 84 = .ok (.imul, 1) := by decide +kernel
theorem dX8_pair_85 : decode cX8_pair 85 = .ok (.iconst 3, 1) := by decide +kernel
theorem dX8_pair_86 : decode cX8_pair 86 = .ok (.iadd, 1) := by decide +kernel
theorem dX8_pair_87 : decode cX8_pair 87 = .ok (.iload 4, 2) := by decide +kernel
theorem dX8_pair_89 : decode cX8_pair 89 = .ok (.iastore, 1) := by decide +kernel
theorem dX8_pair_90 : decode cX8_pair 90 = .ok (.aload_n 0, 1) := by decide +kernel
theorem dX8_pair_91 : decode cX8_pair 91 = .ok (.dup, 1) := by decide +kernel
theorem dX8_pair_92 : decode cX8_pair 92 = .ok (.getfield 203, 3) := by decide +kernel
theorem dX8_pair_95 : decode cX8_pair 95 = .ok (.iconst 1, 1) := by decide +kernel
theorem dX8_pair_96 : decode cX8_pair 96 = .ok (.iadd, 1) := by decide +kernel
theorem dX8_pair_97 : decode cX8_pair 97 = .ok (.putfield 203, 3) := by decide +kernel
theorem dX8_pair_100 : decode cX8_pair 100 = .ok (.aload_n 0, 1) := by decide +kernel
theorem dX8_pair_101 : decode cX8_pair 101 = .ok (.getfield 203, 3) := by decide +kernel
theorem dX8_pair_104 : decode cX8_pair 104 = .ok (.ireturn, 1) := by decide +kernel
theorem dX8_wipe_0 : decode cX8_wipe 0 = .ok (.aload_n 0, 1) := by decide +kernel
theorem dX8_wipe_1 : decode cX8_wipe 1 = .ok (.getfield 203, 3) := by decide +kernel
theorem dX8_wipe_4 : decode cX8_wipe 4 = .ok (.istore_n 1, 1) := by decide +kernel
theorem dX8_wipe_5 : decode cX8_wipe 5 = .ok (.aload_n 0, 1) := by decide +kernel
theorem dX8_wipe_6 : decode cX8_wipe 6 = .ok (.iconst 0, 1) := by decide +kernel
theorem dX8_wipe_7 : decode cX8_wipe 7 = .ok (.putfield 203, 3) := by decide +kernel
theorem dX8_wipe_10 : decode cX8_wipe 10 = .ok (.iload_n 1, 1) := by decide +kernel
theorem dX8_wipe_11 : decode cX8_wipe 11 = .ok (.ireturn, 1) := by decide +kernel
theorem dX8_tolerance_0 : decode cX8_tolerance 0 = .ok (.iload_n 1, 1) := by decide +kernel
theorem dX8_tolerance_1 : decode cX8_tolerance 1 = .ok (.iconst 0, 1) := by decide +kernel
theorem dX8_tolerance_2 : decode cX8_tolerance 2 = .ok (.iconst 1, 1) := by decide +kernel
theorem dX8_tolerance_3 : decode cX8_tolerance 3 = .ok (.invokestatic 74, 3) := by decide +kernel
theorem dX8_tolerance_6 : decode cX8_tolerance 6 = .ok (.ifCond .eq 22, 3) := by decide +kernel
theorem dX8_tolerance_9 : decode cX8_tolerance 9 = .ok (.iload_n 2, 1) := by decide +kernel
theorem dX8_tolerance_10 : decode cX8_tolerance 10 = .ok (.iconst 0, 1) := by decide +kernel
theorem dX8_tolerance_11 : decode cX8_tolerance 11 = .ok (.iload_n 1, 1) := by decide +kernel
theorem dX8_tolerance_12 : decode cX8_tolerance 12 = .ok (.ifCond .ne 8, 3) := by decide +kernel
theorem dX8_tolerance_15 : decode cX8_tolerance 15 = .ok (.bipush 64, 2) := by decide +kernel
theorem dX8_tolerance_17 : decode cX8_tolerance 17 = .ok (.goto 5, 3) := by decide +kernel
theorem dX8_tolerance_20 : decode cX8_tolerance 20 = .ok (.bipush 99, 2) := by decide +kernel
theorem dX8_tolerance_22 : decode cX8_tolerance 22 = .ok (.invokestatic 74, 3) := by decide +kernel
theorem dX8_tolerance_25 : decode cX8_tolerance 25 = .ok (.ifCond .ne 5, 3) := by decide +kernel
theorem dX8_tolerance_28 : decode cX8_tolerance 28 = .ok (.iconst (-1), 1) := by decide +kernel
theorem dX8_tolerance_29 : decode cX8_tolerance 29 = .ok (.ireturn, 1) := by decide +kernel
theorem dX8_tolerance_30 : decode cX8_tolerance 30 = .ok (.iload_n 1, 1) := by decide +kernel
theorem dX8_tolerance_31 : decode cX8_tolerance 31 = .ok (.ifCond .ne 10, 3) := by decide +kernel
theorem dX8_tolerance_34 : decode cX8_tolerance 34 = .ok (.aload_n 0, 1) := by decide +kernel
theorem dX8_tolerance_35 : decode cX8_tolerance 35 = .ok (.getfield 20, 3) := by decide +kernel
theorem dX8_tolerance_38 : decode cX8_tolerance 38 = .ok (.goto 7, 3) := by decide +kernel
theorem dX8_tolerance_41 : decode cX8_tolerance 41 = .ok (.aload_n 0, 1) := by decide +kernel
theorem dX8_tolerance_42 : decode cX8_tolerance 42 = .ok (.getfield 24, 3) := by decide +kernel
theorem dX8_tolerance_45 : decode cX8_tolerance 45 = .ok (.istore_n 3, 1) := by decide +kernel
theorem dX8_tolerance_46 : decode cX8_tolerance 46 = .ok (.aload_n 0, 1) := by decide +kernel
theorem dX8_tolerance_47 : decode cX8_tolerance 47 = .ok (.iload_n 1, 1) := by decide +kernel
theorem dX8_tolerance_48 : decode cX8_tolerance 48 = .ok (.ifCond .ne 7, 3) := by decide +kernel
theorem dX8_tolerance_51 : decode cX8_tolerance 51 = .ok (.iload_n 2, 1) := by decide +kernel
theorem dX8_tolerance_52 : decode cX8_tolerance 52 = .ok (.goto 7, 3) := by decide +kernel
theorem dX8_tolerance_55 : decode cX8_tolerance 55 = .ok (.aload_n 0, 1) := by decide +kernel
theorem dX8_tolerance_56 : decode cX8_tolerance 56 = .ok (.getfield 20, 3) := by decide +kernel
theorem dX8_tolerance_59 : decode cX8_tolerance 59 = .ok (.putfield 20, 3) := by decide +kernel
theorem dX8_tolerance_62 : decode cX8_tolerance 62 = .ok (.aload_n 0, 1) := by decide +kernel
theorem dX8_tolerance_63 : decode cX8_tolerance 63 = .ok (.iload_n 1, 1) := by decide +kernel
theorem dX8_tolerance_64 : decode cX8_tolerance 64 = .ok (.iconst 1, 1) := by decide +kernel
theorem dX8_tolerance_65 : decode cX8_tolerance 65 = .ok (.if_icmp .ne 7, 3) := by decide +kernel
theorem dX8_tolerance_68 : decode cX8_tolerance 68 = .ok (.iload_n 2, 1) := by decide +kernel
theorem dX8_tolerance_69 : decode cX8_tolerance 69 = .ok (.goto 7, 3) := by decide +kernel
theorem dX8_tolerance_72 : decode cX8_tolerance 72 = .ok (.aload_n 0, 1) := by decide +kernel
theorem dX8_tolerance_73 : decode cX8_tolerance 73 = .ok (.getfield 24, 3) := by decide +kernel
theorem dX8_tolerance_76 : decode cX8_tolerance 76 = .ok (.putfield 24, 3) := by decide +kernel
theorem dX8_tolerance_79 : decode cX8_tolerance 79 = .ok (.iload_n 3, 1) := by decide +kernel
theorem dX8_tolerance_80 : decode cX8_tolerance 80 = .ok (.ireturn, 1) := by decide +kernel
theorem dX8_modelsOf_0 : decode cX8_modelsOf 0 = .ok (.iconst 1, 1) := by decide +kernel
theorem dX8_modelsOf_1 : decode cX8_modelsOf 1 = .ok (.istore_n 2, 1) := by decide +kernel
theorem dX8_modelsOf_2 : decode cX8_modelsOf 2 = .ok (.iconst 0, 1) := by decide +kernel
theorem dX8_modelsOf_3 : decode cX8_modelsOf 3 = .ok (.istore_n 3, 1) := by decide +kernel
theorem dX8_modelsOf_4 : decode cX8_modelsOf 4 = .ok (.iload_n 3, 1) := by decide +kernel
theorem dX8_modelsOf_5 : decode cX8_modelsOf 5 = .ok (.iload_n 0, 1) := by decide +kernel
theorem dX8_modelsOf_6 : decode cX8_modelsOf 6 = .ok (.if_icmp .ge 15, 3) := by decide +kernel
theorem dX8_modelsOf_9 : decode cX8_modelsOf 9 = .ok (.iload_n 2, 1) := by decide +kernel
theorem dX8_modelsOf_10 : decode cX8_modelsOf 10 = .ok (.iload_n 1, 1) := by decide +kernel
theorem dX8_modelsOf_11 : decode cX8_modelsOf 11 = .ok (.iconst 1, 1) := by decide +kernel
theorem dX8_modelsOf_12 : decode cX8_modelsOf 12 = .ok (.iadd, 1) := by decide +kernel
theorem dX8_modelsOf_13 : decode cX8_modelsOf 13 = .ok (.imul, 1) := by decide +kernel
theorem dX8_modelsOf_14 : decode cX8_modelsOf 14 = .ok (.istore_n 2, 1) := by decide +kernel
theorem dX8_modelsOf_15 : decode cX8_modelsOf 15 = .ok (.iinc 3 1, 3) := by decide +kernel
theorem dX8_modelsOf_18 : decode cX8_modelsOf 18 = .ok (.goto (-14), 3) := by decide +kernel
theorem dX8_modelsOf_21 : decode cX8_modelsOf 21 = .ok (.iload_n 2, 1) := by decide +kernel
theorem dX8_modelsOf_22 : decode cX8_modelsOf 22 = .ok (.ireturn, 1) := by decide +kernel
theorem dX8_keepWeights_0 : decode cX8_keepWeights 0 = .ok (.aload_n 0, 1) := by decide +kernel
theorem dX8_keepWeights_1 : decode cX8_keepWeights 1 = .ok (.aload_n 0, 1) := by decide +kernel
theorem dX8_keepWeights_2 : decode cX8_keepWeights 2 = .ok (.getfield 7, 3) := by decide +kernel
theorem dX8_keepWeights_5 : decode cX8_keepWeights 5 = .ok (.iconst 3, 1) := by decide +kernel
theorem dX8_keepWeights_6 : decode cX8_keepWeights 6 = .ok (.iaload, 1) := by decide +kernel
theorem dX8_keepWeights_7 : decode cX8_keepWeights 7 = .ok (.putfield 206, 3) := by decide +kernel
theorem dX8_keepWeights_10 : decode cX8_keepWeights 10 = .ok (.aload_n 0, 1) := by decide +kernel
theorem dX8_keepWeights_11 : decode cX8_keepWeights 11 = .ok (.aload_n 0, 1) := by decide +kernel
theorem dX8_keepWeights_12 : decode cX8_keepWeights 12 = .ok (.getfield 7, 3) := by decide +kernel
theorem dX8_keepWeights_15 : decode cX8_keepWeights 15 = .ok (.bipush 9, 2) := by decide +kernel
theorem dX8_keepWeights_17 : decode cX8_keepWeights 17 = .ok (.iaload, 1) := by decide +kernel
theorem dX8_keepWeights_18 : decode cX8_keepWeights 18 = .ok (.putfield 209, 3) := by decide +kernel
theorem dX8_keepWeights_21 : decode cX8_keepWeights 21 = .ok (.aload_n 0, 1) := by decide +kernel
theorem dX8_keepWeights_22 : decode cX8_keepWeights 22 = .ok (.aload_n 0, 1) := by decide +kernel
theorem dX8_keepWeights_23 : decode cX8_keepWeights 23 = .ok (.getfield 7, 3) := by decide +kernel
theorem dX8_keepWeights_26 : decode cX8_keepWeights 26 = .ok (.bipush 15, 2) := by decide +kernel
theorem dX8_keepWeights_28 : decode cX8_keepWeights 28 = .ok (.iaload, 1) := by decide +kernel
theorem dX8_keepWeights_29 : decode cX8_keepWeights 29 = .ok (.putfield 212, 3) := by decide +kernel
theorem dX8_keepWeights_32 : decode cX8_keepWeights 32 = .ok (.return_, 1) := by decide +kernel
theorem dX8_giveBack_0 : decode cX8_giveBack 0 = .ok (.aload_n 0, 1) := by decide +kernel
theorem dX8_giveBack_1 : decode cX8_giveBack 1 = .ok (.getfield 7, 3) := by decide +kernel
theorem dX8_giveBack_4 : decode cX8_giveBack 4 = .ok (.iconst 3, 1) := by decide +kernel
theorem dX8_giveBack_5 : decode cX8_giveBack 5 = .ok (.aload_n 0, 1) := by decide +kernel
theorem dX8_giveBack_6 : decode cX8_giveBack 6 = .ok (.getfield 206, 3) := by decide +kernel
theorem dX8_giveBack_9 : decode cX8_giveBack 9 = .ok (.iastore, 1) := by decide +kernel
theorem dX8_giveBack_10 : decode cX8_giveBack 10 = .ok (.aload_n 0, 1) := by decide +kernel
theorem dX8_giveBack_11 : decode cX8_giveBack 11 = .ok (.getfield 7, 3) := by decide +kernel
theorem dX8_giveBack_14 : decode cX8_giveBack 14 = .ok (.bipush 9, 2) := by decide +kernel
theorem dX8_giveBack_16 : decode cX8_giveBack 16 = .ok (.aload_n 0, 1) := by decide +kernel
theorem dX8_giveBack_17 : decode cX8_giveBack 17 = .ok (.getfield 209, 3) := by decide +kernel
theorem dX8_giveBack_20 : decode cX8_giveBack 20 = .ok (.iastore, 1) := by decide +kernel
theorem dX8_giveBack_21 : decode cX8_giveBack 21 = .ok (.aload_n 0, 1) := by decide +kernel
theorem dX8_giveBack_22 : decode cX8_giveBack 22 = .ok (.getfield 7, 3) := by decide +kernel
theorem dX8_giveBack_25 : decode cX8_giveBack 25 = .ok (.bipush 15, 2) := by decide +kernel
theorem dX8_giveBack_27 : decode cX8_giveBack 27 = .ok (.aload_n 0, 1) := by decide +kernel
theorem dX8_giveBack_28 : decode cX8_giveBack 28 = .ok (.getfield 212, 3) := by decide +kernel
theorem dX8_giveBack_31 : decode cX8_giveBack 31 = .ok (.iastore, 1) := by decide +kernel
theorem dX8_giveBack_32 : decode cX8_giveBack 32 = .ok (.return_, 1) := by decide +kernel
theorem dX8_digit_0 : decode cX8_digit 0 = .ok (.iload_n 1, 1) := by decide +kernel
theorem dX8_digit_1 : decode cX8_digit 1 = .ok (.istore_n 3, 1) := by decide +kernel
theorem dX8_digit_2 : decode cX8_digit 2 = .ok (.iconst 0, 1) := by decide +kernel
theorem dX8_digit_3 : decode cX8_digit 3 = .ok (.istore 4, 2) := by decide +kernel
theorem dX8_digit_5 : decode cX8_digit 5 = .ok (.iload 4, 2) := by decide +kernel
theorem dX8_digit_7 : decode cX8_digit 7 = .ok (.iload_n 2, 1) := by decide +kernel
theorem dX8_digit_8 : decode cX8_digit 8 = .ok (.if_icmp .ge 15, 3) := by decide +kernel
theorem dX8_digit_11 : decode cX8_digit 11 = .ok (.iload_n 3, 1) := by decide +kernel
theorem dX8_digit_12 : decode cX8_digit 12 = .ok (.iload_n 0, 1) := by decide +kernel
theorem dX8_digit_13 : decode cX8_digit 13 = .ok (.iconst 1, 1) := by decide +kernel
theorem dX8_digit_14 : decode cX8_digit 14 = .ok (.iadd, 1) := by decide +kernel
theorem dX8_digit_15 : decode cX8_digit 15 = .ok (.idiv, 1) := by decide +kernel
theorem dX8_digit_16 : decode cX8_digit 16 = .ok (.istore_n 3, 1) := by decide +kernel
theorem dX8_digit_17 : decode cX8_digit 17 = .ok (.iinc 4 1, 3) := by decide +kernel
theorem dX8_digit_20 : decode cX8_digit 20 = .ok (.goto (-15), 3) := by decide +kernel
theorem dX8_digit_23 : decode cX8_digit 23 = .ok (.iload_n 3, 1) := by decide +kernel
theorem dX8_digit_24 : decode cX8_digit 24 = .ok (.iload_n 0, 1) := by decide +kernel
theorem dX8_digit_25 : decode cX8_digit 25 = .ok (.iconst 1, 1) := by decide +kernel
theorem dX8_digit_26 : decode cX8_digit 26 = .ok (.iadd, 1) := by decide +kernel
theorem dX8_digit_27 : decode cX8_digit 27 = .ok (.irem, 1) := by decide +kernel
theorem dX8_digit_28 : decode cX8_digit 28 = .ok (.ireturn, 1) := by decide +kernel
theorem dX8_weigh_0 : decode cX8_weigh 0 = .ok (.iconst 0, 1) := by decide +kernel
theorem dX8_weigh_1 : decode cX8_weigh 1 = .ok (.istore 4, 2) := by decide +kernel
theorem dX8_weigh_3 : decode cX8_weigh 3 = .ok (.iload 4, 2) := by decide +kernel
theorem dX8_weigh_5 : decode cX8_weigh 5 = .ok (.iload_n 1, 1) := by decide +kernel
theorem dX8_weigh_6 : decode cX8_weigh 6 = .ok (.if_icmp .ge 28, 3) := by decide +kernel
theorem dX8_weigh_9 : decode cX8_weigh 9 = .ok (.aload_n 0, 1) := by decide +kernel
theorem dX8_weigh_10 : decode cX8_weigh 10 = .ok (.getfield 7, 3) := by decide +kernel
theorem dX8_weigh_13 : decode cX8_weigh 13 = .ok (.bipush 6, 2) := by decide +kernel
theorem dX8_weigh_15 : decode cX8_weigh 15 = .ok (.iload 4, 2) := by decide +kernel
theorem dX8_weigh_17 : decode cX8_weigh 17 = .ok (.imul, 1) := by decide +kernel
theorem dX8_weigh_18 : decode cX8_weigh 18 = .ok (.iconst 3, 1) := by decide +kernel
theorem dX8_weigh_19 : decode cX8_weigh 19 = .ok (.iadd, 1) := by decide +kernel
theorem dX8_weigh_20 : decode cX8_weigh 20 = .ok (.iload_n 2, 1) := by decide +kernel
theorem dX8_weigh_21 : decode cX8_weigh 21 = .ok (.iload_n 3, 1) := by decide +kernel
theorem dX8_weigh_22 : decode cX8_weigh 22 = .ok (.iload 4, 2) := by decide +kernel
theorem dX8_weigh_24 : decode cX8_weigh 24 = .ok (.invokestatic 215, 3) := by decide +kernel
theorem dX8_weigh_27 : decode cX8_weigh 27 = .ok (.iastore, 1) := by decide +kernel
theorem dX8_weigh_28 : decode cX8_weigh 28 = .ok (.iinc 4 1, 3) := by decide +kernel
theorem dX8_weigh_31 : decode cX8_weigh 31 = .ok (.goto (-28), 3) := by decide +kernel
theorem dX8_weigh_34 : decode cX8_weigh 34 = .ok (.return_, 1) := by decide +kernel
theorem dX8_isWithin_0 : decode cX8_isWithin 0 = .ok (.aload_n 0, 1) := by decide +kernel
theorem dX8_isWithin_1 : decode cX8_isWithin 1 = .ok (.aload_n 0, 1) := by decide +kernel
theorem dX8_isWithin_2 : decode cX8_isWithin 2 = .ok (.getfield 17, 3) := by decide +kernel
theorem dX8_isWithin_5 : decode cX8_isWithin 5 = .ok (.iconst 4, 1) := by decide +kernel
theorem dX8_isWithin_6 : decode cX8_isWithin 6 = .ok (.iload_n 1, 1) := by decide +kernel
theorem dX8_isWithin_7 : decode cX8_isWithin 7 = .ok (.imul, 1) := by decide +kernel
theorem dX8_isWithin_8 : decode cX8_isWithin 8 = .ok (.iaload, 1) := by decide +kernel
theorem dX8_isWithin_9 : decode cX8_isWithin 9 = .ok (.aload_n 0, 1) := by decide +kernel
theorem dX8_isWithin_10 : decode cX8_isWithin 10 = .ok (.getfield 17, 3) := by decide +kernel
theorem dX8_isWithin_13 : decode cX8_isWithin 13 = .ok (.iconst 4, 1) := by decide +kernel
theorem dX8_isWithin_14 : decode cX8_isWithin 14 = .ok (.iload_n 1, 1) := by decide +kernel
theorem dX8_isWithin_15 : decode cX8_isWithin 15 = .ok (.imul, 1) := by decide +kernel
theorem dX8_isWithin_16 : decode cX8_isWithin 16 = .ok (.iconst 1, 1) := by decide +kernel
theorem dX8_isWithin_17 : decode cX8_isWithin 17 = .ok (.iadd, 1) := by decide +kernel
theorem dX8_isWithin_18 : decode cX8_isWithin 18 = .ok (.iaload, 1) := by decide +kernel
theorem dX8_isWithin_19 : decode cX8_isWithin 19 = .ok (.iload_n 2, 1) := by decide +kernel
theorem dX8_isWithin_20 : decode cX8_isWithin 20 = .ok (.invokevirtual 111, 3) := by decide +kernel
theorem dX8_isWithin_23 : decode cX8_isWithin 23 = .ok (.aload_n 0, 1) := by decide +kernel
theorem dX8_isWithin_24 : decode cX8_isWithin 24 = .ok (.aload_n 0, 1) := by decide +kernel
theorem dX8_isWithin_25 : decode cX8_isWithin 25 = .ok (.getfield 17, 3) := by decide +kernel
theorem dX8_isWithin_28 : decode cX8_isWithin 28 = .ok (.iconst 4, 1) := by decide +kernel
theorem dX8_isWithin_29 : decode cX8_isWithin 29 = .ok (.iload_n 1, 1) := by decide +kernel
theorem dX8_isWithin_30 : decode cX8_isWithin 30 = .ok (.imul, 1) := by decide +kernel
theorem dX8_isWithin_31 : decode cX8_isWithin 31 = .ok (.iconst 2, 1) := by decide +kernel
theorem dX8_isWithin_32 : decode cX8_isWithin 32 = .ok (.iadd, 1) := by decide +kernel
theorem dX8_isWithin_33 : decode cX8_isWithin 33 = .ok (.iaload, 1) := by decide +kernel
theorem dX8_isWithin_34 : decode cX8_isWithin 34 = .ok (.aload_n 0, 1) := by decide +kernel
theorem dX8_isWithin_35 : decode cX8_isWithin 35 = .ok (.getfield 17, 3) := by decide +kernel
theorem dX8_isWithin_38 : decode cX8_isWithin 38 = .ok (.iconst 4, 1) := by decide +kernel
theorem dX8_isWithin_39 : decode cX8_isWithin 39 = .ok (.iload_n 1, 1) := by decide +kernel
theorem dX8_isWithin_40 : decode cX8_isWithin 40 = .ok (.imul, 1) := by decide +kernel
theorem dX8_isWithin_41 : decode cX8_isWithin 41 = .ok (.iconst 3, 1) := by decide +kernel
theorem dX8_isWithin_42 : decode cX8_isWithin 42 = .ok (.iadd, 1) := by decide +kernel
theorem dX8_isWithin_43 : decode cX8_isWithin 43 = .ok (.iaload, 1) := by decide +kernel
theorem dX8_isWithin_44 : decode cX8_isWithin 44 = .ok (.iload_n 2, 1) := by decide +kernel
theorem dX8_isWithin_45 : decode cX8_isWithin 45 = .ok (.invokevirtual 111, 3) := by decide +kernel
theorem dX8_isWithin_48 : decode cX8_isWithin 48 = .ok (.isub, 1) := by decide +kernel
theorem dX8_isWithin_49 : decode cX8_isWithin 49 = .ok (.istore_n 3, 1) := by decide +kernel
theorem dX8_isWithin_50 : decode cX8_isWithin 50 = .ok (.iload_n 3, 1) := by decide +kernel
theorem dX8_isWithin_51 : decode cX8_isWithin 51 = .ok (.aload_n 0, 1) := by decide +kernel
theorem dX8_isWithin_52 : decode cX8_isWithin 52 = .ok (.getfield 20, 3) := by decide +kernel
theorem dX8_isWithin_55 : decode cX8_isWithin 55 = .ok (.if_icmp .gt 16, 3) := by decide +kernel
theorem dX8_isWithin_58 : decode cX8_isWithin 58 = .ok (.iload_n 3, 1) := by decide +kernel
theorem dX8_isWithin_59 : decode cX8_isWithin 59 = .ok (.ineg, 1) := by decide +kernel
theorem dX8_isWithin_60 : decode cX8_isWithin 60 = .ok (.aload_n 0, 1) := by decide +kernel
theorem dX8_isWithin_61 : decode cX8_isWithin 61 = .ok (.getfield 20, 3) := by decide +kernel
theorem dX8_isWithin_64 : decode cX8_isWithin 64 = .ok (.if_icmp .gt 7, 3) := by decide +kernel
theorem dX8_isWithin_67 : decode cX8_isWithin 67 = .ok (.iconst 1, 1) := by decide +kernel
theorem dX8_isWithin_68 : decode cX8_isWithin 68 = .ok (.goto 4, 3) := by decide +kernel
theorem dX8_isWithin_71 : decode cX8_isWithin 71 = .ok (.iconst 0, 1) := by decide +kernel
theorem dX8_isWithin_72 : decode cX8_isWithin 72 = .ok (.ireturn, 1) := by decide +kernel
theorem dX8_doesFit_0 : decode cX8_doesFit 0 = .ok (.iconst 1, 1) := by decide +kernel
theorem dX8_doesFit_1 : decode cX8_doesFit 1 = .ok (.istore_n 1, 1) := by decide +kernel
theorem dX8_doesFit_2 : decode cX8_doesFit 2 = .ok (.iconst 0, 1) := by decide +kernel
theorem dX8_doesFit_3 : decode cX8_doesFit 3 = .ok (.istore_n 2, 1) := by decide +kernel
theorem dX8_doesFit_4 : decode cX8_doesFit 4 = .ok (.iload_n 2, 1) := by decide +kernel
theorem dX8_doesFit_5 : decode cX8_doesFit 5 = .ok (.aload_n 0, 1) := by decide +kernel
theorem dX8_doesFit_6 : decode cX8_doesFit 6 = .ok (.getfield 203, 3) := by decide +kernel
theorem dX8_doesFit_9 : decode cX8_doesFit 9 = .ok (.if_icmp .ge 37, 3) := by decide +kernel
theorem dX8_doesFit_12 : decode cX8_doesFit 12 = .ok (.iload_n 1, 1) := by decide +kernel
theorem dX8_doesFit_13 : decode cX8_doesFit 13 = .ok (.ifCond .eq 33, 3) := by decide +kernel
theorem dX8_doesFit_16 : decode cX8_doesFit 16 = .ok (.aload_n 0, 1) := by decide +kernel
theorem dX8_doesFit_17 : decode cX8_doesFit 17 = .ok (.iload_n 2, 1) := by decide +kernel
theorem dX8_doesFit_18 : decode cX8_doesFit 18 = .ok (.iconst 0, 1) := by decide +kernel
theorem dX8_doesFit_19 : decode cX8_doesFit 19 = .ok (.invokevirtual 218, 3) := by decide +kernel
theorem dX8_doesFit_22 : decode cX8_doesFit 22 = .ok (.ifCond .eq 16, 3) := by decide +kernel
theorem dX8_doesFit_25 : decode cX8_doesFit 25 = .ok (.aload_n 0, 1) := by decide +kernel
theorem dX8_doesFit_26 : decode cX8_doesFit 26 = .ok (.iload_n 2, 1) := by decide +kernel
theorem dX8_doesFit_27 : decode cX8_doesFit 27 = .ok (.iconst 1, 1) := by decide +kernel
theorem dX8_doesFit_28 : decode cX8_doesFit 28 = .ok (.invokevirtual 218, 3) := by decide +kernel
theorem dX8_doesFit_31 : decode cX8_doesFit 31 = .ok (.ifCond .eq 7, 3) := by decide +kernel
theorem dX8_doesFit_34 : decode cX8_doesFit 34 = .ok (.iconst 1, 1) := by decide +kernel
theorem dX8_doesFit_35 : decode cX8_doesFit 35 = .ok (.goto 4, 3) := by decide +kernel
theorem dX8_doesFit_38 : decode cX8_doesFit 38 = .ok (.iconst 0, 1) := by decide +kernel
theorem dX8_doesFit_39 : decode cX8_doesFit 39 = .ok (.istore_n 1, 1) := by decide +kernel
theorem dX8_doesFit_40 : decode cX8_doesFit 40 = .ok (.iinc 2 1, 3) := by decide +kernel
theorem dX8_doesFit_43 : decode cX8_doesFit 43 = .ok (.goto (-39), 3) := by decide +kernel
theorem dX8_doesFit_46 : decode cX8_doesFit 46 = .ok (.iload_n 1, 1) := by decide +kernel
theorem dX8_doesFit_47 : decode cX8_doesFit 47 = .ok (.ireturn, 1) := by decide +kernel
theorem dX8_isTry_0 : decode cX8_isTry 0 = .ok (.iload_n 1, 1) := by decide +kernel
theorem dX8_isTry_1 : decode cX8_isTry 1 = .ok (.iconst 1, 1) := by decide +kernel
theorem dX8_isTry_2 : decode cX8_isTry 2 = .ok (.iconst 3, 1) := by decide +kernel
theorem dX8_isTry_3 : decode cX8_isTry 3 = .ok (.invokestatic 74, 3) := by decide +kernel
theorem dX8_isTry_6 : decode cX8_isTry 6 = .ok (.ifCond .eq 25, 3) := by decide +kernel
theorem dX8_isTry_9 : decode cX8_isTry 9 = .ok (.iload_n 1, 1) := by decide +kernel
theorem dX8_isTry_10 : decode cX8_isTry 10 = .ok (.aload_n 0, 1) := by decide +kernel
theorem dX8_isTry_11 : decode cX8_isTry 11 = .ok (.getfield 78, 3) := by decide +kernel
theorem dX8_isTry_14 : decode cX8_isTry 14 = .ok (.if_icmp .gt 17, 3) := by decide +kernel
theorem dX8_isTry_17 : decode cX8_isTry 17 = .ok (.iload_n 2, 1) := by decide +kernel
theorem dX8_isTry_18 : decode cX8_isTry 18 = .ok (.iconst 1, 1) := by decide +kernel
theorem dX8_isTry_19 : decode cX8_isTry 19 = .ok (.bipush 15, 2) := by decide +kernel
theorem dX8_isTry_21 : decode cX8_isTry 21 = .ok (.invokestatic 74, 3) := by decide +kernel
theorem dX8_isTry_24 : decode cX8_isTry 24 = .ok (.ifCond .eq 7, 3) := by decide +kernel
theorem dX8_isTry_27 : decode cX8_isTry 27 = .ok (.iconst 1, 1) := by decide +kernel
theorem dX8_isTry_28 : decode cX8_isTry 28 = .ok (.goto 4, 3) := by decide +kernel
theorem dX8_isTry_31 : decode cX8_isTry 31 = .ok (.iconst 0, 1) := by decide +kernel
theorem dX8_isTry_32 : decode cX8_isTry 32 = .ok (.ireturn, 1) := by decide +kernel
theorem dX8_fits_0 : decode cX8_fits 0 = .ok (.aload_n 0, 1) := by decide +kernel
theorem dX8_fits_1 : decode cX8_fits 1 = .ok (.iload_n 1, 1) := by decide +kernel
theorem dX8_fits_2 : decode cX8_fits 2 = .ok (.iload_n 2, 1) := by decide +kernel
theorem dX8_fits_3 : decode cX8_fits 3 = .ok (.invokevirtual 221, 3) := by decide +kernel
theorem dX8_fits_6 : decode cX8_fits 6 = .ok (.ifCond .eq 18, 3) := by decide +kernel
theorem dX8_fits_9 : decode cX8_fits 9 = .ok (.iload_n 3, 1) := by decide +kernel
theorem dX8_fits_10 : decode cX8_fits 10 = .ok (.iconst 0, 1) := by decide +kernel
theorem dX8_fits_11 : decode cX8_fits 11 = .ok (.iload_n 1, 1) := by decide +kernel
theorem dX8_fits_12 : decode cX8_fits 12 = .ok (.iload_n 2, 1) := by decide +kernel
theorem dX8_fits_13 : decode cX8_fits 13 = .ok (.invokestatic 224, 3) := by decide +kernel
theorem dX8_fits_16 : decode cX8_fits 16 = .ok (.iconst 1, 1) := by decide +kernel
theorem dX8_fits_17 : decode cX8_fits 17 = .ok (.isub, 1) := by decide +kernel
theorem dX8_fits_18 : decode cX8_fits 18 = .ok (.invokestatic 74, 3) := by decide +kernel
theorem dX8_fits_21 : decode cX8_fits 21 = .ok (.ifCond .ne 5, 3) := by decide +kernel
theorem dX8_fits_24 : decode cX8_fits 24 = .ok (.iconst (-1), 1) := by decide +kernel
theorem dX8_fits_25 : decode cX8_fits 25 = .ok (.ireturn, 1) := by decide +kernel
theorem dX8_fits_26 : decode cX8_fits 26 = .ok (.aload_n 0, 1) := by decide +kernel
theorem dX8_fits_27 : decode cX8_fits 27 = .ok (.invokevirtual 227, 3) := by decide +kernel
theorem dX8_fits_30 : decode cX8_fits 30 = .ok (.aload_n 0, 1) := by decide +kernel
theorem dX8_fits_31 : decode cX8_fits 31 = .ok (.iload_n 1, 1) := by decide +kernel
theorem dX8_fits_32 : decode cX8_fits 32 = .ok (.iload_n 2, 1) := by decide +kernel
theorem dX8_fits_33 : decode cX8_fits 33 = .ok (.iload_n 3, 1) := by decide +kernel
theorem dX8_fits_34 : decode cX8_fits 34 = .ok (.invokevirtual 230, 3) := by decide +kernel
theorem dX8_fits_37 : decode cX8_fits 37 = .ok (.aload_n 0, 1) := by decide +kernel
theorem dX8_fits_38 : decode cX8_fits 38 = .ok (.invokevirtual 234, 3) := by decide +kernel
theorem dX8_fits_41 : decode cX8_fits 41 = .ok (.istore 4, 2) := by decide +kernel
theorem dX8_fits_43 : decode cX8_fits 43 = .ok (.aload_n 0, 1) := by decide +kernel
theorem dX8_fits_44 : decode cX8_fits 44 = .ok (.invokevirtual 237, 3) := by decide +kernel
theorem dX8_fits_47 : decode cX8_fits 47 = .ok (.iload 4, 2) := by decide +kernel
theorem dX8_fits_49 : decode cX8_fits 49 = .ok (.ifCond .eq 7, 3) := by decide +kernel
theorem dX8_fits_52 : decode cX8_fits 52 = .ok (.iconst 1, 1) := by decide +kernel
theorem dX8_fits_53 : decode cX8_fits 53 = .ok (.goto 4, 3) := by decide +kernel
theorem dX8_fits_56 : decode cX8_fits 56 = .ok (.iconst 0, 1) := by decide +kernel
theorem dX8_fits_57 : decode cX8_fits 57 = .ok (.ireturn, 1) := by decide +kernel
theorem dX8_findFitting_0 : decode cX8_findFitting 0 = .ok (.aload_n 0, 1) := by decide +kernel
theorem dX8_findFitting_1 : decode cX8_findFitting 1 = .ok (.invokevirtual 227, 3) := by decide +kernel
theorem dX8_findFitting_4 : decode cX8_findFitting 4 = .ok (.iconst 0, 1) := by decide +kernel
theorem dX8_findFitting_5 : decode cX8_findFitting 5 = .ok (.istore_n 3, 1) := by decide +kernel
theorem dX8_findFitting_6 : decode cX8_findFitting 6 = .ok (.iload_n 1, 1) := by decide +kernel
theorem dX8_findFitting_7 : decode cX8_findFitting 7 = .ok (.iload_n 2, 1) := by decide +kernel
theorem dX8_findFitting_8 : decode cX8_findFitting 8 = .ok (.invokestatic 224, 3) := by decide +kernel
theorem dX8_findFitting_11 : decode cX8_findFitting 11 = .ok (.istore 4, 2) := by decide +kernel
theorem dX8_findFitting_13 : decode cX8_findFitting 13 = .ok (.iconst 0, 1) := by decide +kernel
theorem dX8_findFitting_14 : decode cX8_findFitting 14 = .ok (.istore 5, 2) := by decide +kernel
theorem dX8_findFitting_16 : decode cX8_findFitting 16 = .ok (.iload 5, 2) := by decide +kernel
theorem dX8_findFitting_18 : decode cX8_findFitting 18 = .ok (.iload 4, 2) := by decide +kernel
theorem dX8_findFitting_20 : decode cX8_findFitting 20 = .ok (.if_icmp .ge 115, 3) := by decide +kernel
theorem dX8_findFitting_23 : decode cX8_findFitting 23 = .ok (.aload_n 0, 1) := by decide +kernel
theorem dX8_findFitting_24 : decode cX8_findFitting 24 = .ok (.iload_n 1, 1) := by decide +kernel
theorem dX8_findFitting_25 : decode cX8_findFitting 25 = .ok (.iload_n 2, 1) := by decide +kernel
theorem dX8_findFitting_26 : decode cX8_findFitting 26 = .ok (.iload 5, 2) := by decide +kernel
theorem dX8_findFitting_28 : decode cX8_findFitting 28 = .ok (.invokevirtual 230, 3) := by decide +kernel
theorem dX8_findFitting_31 : decode cX8_findFitting 31 = .ok (.aload_n 0, 1) := by decide +kernel
theorem dX8_findFitting_32 : decode cX8_findFitting 32 = .ok (.invokevirtual 234, 3) := by decide +kernel
theorem dX8_findFitting_35 : decode cX8_findFitting 35 = .ok (.ifCond .eq 94, 3) := by decide +kernel
theorem dX8_findFitting_38 : decode cX8_findFitting 38 = .ok (.aload_n 0, 1) := by decide +kernel
theorem dX8_findFitting_39 : decode cX8_findFitting 39 = .ok (.getfield 58, 3) := by decide +kernel
theorem dX8_findFitting_42 : decode cX8_findFitting 42 = .ok (.iload_n 3, 1) := by decide +kernel
theorem dX8_findFitting_43 : decode cX8_findFitting 43 = .ok (.iload 5, 2) := by decide +kernel
theorem dX8_findFitting_45 : decode cX8_findFitting 45 = .ok (.iastore, 1) := by decide +kernel
theorem dX8_findFitting_46 : decode cX8_findFitting 46 = .ok (.iconst 0, 1) := by decide +kernel
theorem dX8_findFitting_47 : decode cX8_findFitting 47 = .ok (.istore 6, 2) := by decide +kernel
theorem dX8_findFitting_49 : decode cX8_findFitting 49 = .ok (.iload 6, 2) := by decide +kernel
theorem dX8_findFitting_51 : decode cX8_findFitting 51 = .ok (.aload_n 0, 1) := by decide +kernel
theorem dX8_findFitting_52 : decode cX8_findFitting 52 = .ok (.getfield 240, 3) := by decide +kernel
theorem dX8_findFitting_55 : decode cX8_findFitting 55 = .ok (.if_icmp .ge 71, 3) := by decide +kernel
theorem dX8_findFitting_58 : decode cX8_findFitting 58 = .ok (.aload_n 0, 1) := by decide +kernel
theorem dX8_findFitting_59 : decode cX8_findFitting 59 = .ok (.getfield 62, 3) := by decide +kernel
theorem dX8_findFitting_62 : decode cX8_findFitting 62 = .ok (.bipush 8, 2) := by decide +kernel
theorem dX8_findFitting_64 : decode cX8_findFitting 64 = .ok (.iload_n 3, 1) := by decide +kernel
theorem dX8_findFitting_65 : decode cX8_findFitting 65 = .ok (.imul, 1) := by decide +kernel
theorem dX8_findFitting_66 : decode cX8_findFitting 66 = .ok (.iload 6, 2) := by decide +kernel
theorem dX8_findFitting_68 : decode cX8_findFitting 68 = .ok (.iadd, 1) := by decide +kernel
theorem dX8_findFitting_69 : decode cX8_findFitting 69 = .ok (.aload_n 0, 1) := by decide +kernel
theorem dX8_findFitting_70 : decode cX8_findFitting 70 = .ok (.aload_n 0, 1) := by decide +kernel
theorem dX8_findFitting_71 : decode cX8_findFitting 71 = .ok (.getfield 27, 3) := by decide +kernel
theorem dX8_findFitting_74 : decode cX8_findFitting 74 = .ok (.iload 6, 2) := by decide +kernel
theorem dX8_findFitting_76 : decode cX8_findFitting 76 = .ok (.iaload, 1) := by decide +kernel
theorem dX8_findFitting_77 : decode cX8_findFitting 77 = .ok (.aload_n 0, 1) := by decide +kernel
theorem dX8_findFitting_78 : decode cX8_findFitting 78 = .ok (.getfield 30, 3) := by decide +kernel
theorem dX8_findFitting_81 : decode cX8_findFitting 81 = .ok (.iload 6, 2) := by decide +kernel
theorem dX8_findFitting_83 : decode cX8_findFitting 83 = .ok (.iaload, 1) := by decide +kernel
theorem dX8_findFitting_84 : decode cX8_findFitting 84 = .ok (.iconst 0, 1) := by decide +kernel
theorem dX8_findFitting_85 : decode cX8_findFitting 85 = .ok (.invokevirtual 121, 3) := by decide +kernel
theorem dX8_findFitting_88 : decode cX8_findFitting 88 = .ok (.iastore, 1) := by decide +kernel
theorem dX8_findFitting_89 : decode cX8_findFitting 89 = .ok (.aload_n 0, 1) := by decide +kernel
theorem dX8_findFitting_90 : decode cX8_findFitting 90 = .ok (.getfield 65, 3) := by decide +kernel
theorem dX8_findFitting_93 : decode cX8_findFitting 93 = .ok (.bipush 8, 2) := by decide +kernel
theorem dX8_findFitting_95 : decode cX8_findFitting 95 = .ok (.iload_n 3, 1) := by decide +kernel
theorem dX8_findFitting_96 : decode cX8_findFitting 96 = .ok (.imul, 1) := by decide +kernel
theorem dX8_findFitting_97 : decode cX8_findFitting 97 = .ok (.iload 6, 2) := by decide +kernel
theorem dX8_findFitting_99 : decode cX8_findFitting 99 = .ok (.iadd, 1) := by decide +kernel
theorem dX8_findFitting_100 : decode cX8_findFitting 100 = .ok (.aload_n 0, 1) := by decide +kernel
theorem dX8_findFitting_101 : decode cX8_findFitting 101 = .ok (.aload_n 0, 1) := by decide +kernel
theorem dX8_findFitting_102 : decode cX8_findFitting 102 = .ok (.getfield 27, 3) := by decide +kernel
theorem dX8_findFitting_105 : decode cX8_findFitting 105 = .ok (.iload 6, 2) := by decide +kernel
theorem dX8_findFitting_107 : decode cX8_findFitting 107 = .ok (.iaload, 1) := by decide +kernel
theorem dX8_findFitting_108 : decode cX8_findFitting 108 = .ok (.aload_n 0, 1) := by decide +kernel
theorem dX8_findFitting_109 : decode cX8_findFitting 109 = .ok (.getfield 30, 3) := by decide +kernel
theorem dX8_findFitting_112 : decode cX8_findFitting 112 = .ok (.iload 6, 2) := by decide +kernel
theorem dX8_findFitting_114 : decode cX8_findFitting 114 = .ok (.iaload, 1) := by decide +kernel
theorem dX8_findFitting_115 : decode cX8_findFitting 115 = .ok (.iconst 1, 1) := by decide +kernel
theorem dX8_findFitting_116 : decode cX8_findFitting 116 = .ok (.invokevirtual 121, 3) := by decide +kernel
theorem dX8_findFitting_119 : decode cX8_findFitting 119 = .ok (.iastore, 1) := by decide +kernel
theorem dX8_findFitting_120 : decode cX8_findFitting 120 = .ok (.iinc 6 1, 3) := by decide +kernel
theorem dX8_findFitting_123 : decode cX8_findFitting 123 = .ok (.goto (-74), 3) := by decide +kernel
theorem dX8_findFitting_126 : decode cX8_findFitting 126 = .ok (.iinc 3 1, 3) := by decide +kernel
theorem dX8_findFitting_129 : decode cX8_findFitting 129 = .ok (.iinc 5 1, 3) := by decide +kernel
theorem dX8_findFitting_132 : decode cX8_findFitting 132 = .ok (.goto (-116), 3) := by decide +kernel
theorem dX8_findFitting_135 : decode cX8_findFitting 135 = .ok (.aload_n 0, 1) := by decide +kernel
theorem dX8_findFitting_136 : decode cX8_findFitting 136 = .ok (.invokevirtual 237, 3) := by decide +kernel
theorem dX8_findFitting_139 : decode cX8_findFitting 139 = .ok (.iload_n 3, 1) := by decide +kernel
theorem dX8_findFitting_140 : decode cX8_findFitting 140 = .ok (.ireturn, 1) := by decide +kernel
theorem dX8_isAlike_0 : decode cX8_isAlike 0 = .ok (.iconst 1, 1) := by decide +kernel
theorem dX8_isAlike_1 : decode cX8_isAlike 1 = .ok (.istore 5, 2) := by decide +kernel
theorem dX8_isAlike_3 : decode cX8_isAlike 3 = .ok (.iload_n 3, 1) := by decide +kernel
theorem dX8_isAlike_4 : decode cX8_isAlike 4 = .ok (.istore 6, 2) := by decide +kernel
theorem dX8_isAlike_6 : decode cX8_isAlike 6 = .ok (.iload 6, 2) := by decide +kernel
theorem dX8_isAlike_8 : decode cX8_isAlike 8 = .ok (.iload 4, 2) := by decide +kernel
theorem dX8_isAlike_10 : decode cX8_isAlike 10 = .ok (.if_icmp .ge 75, 3) := by decide +kernel
theorem dX8_isAlike_13 : decode cX8_isAlike 13 = .ok (.iload 5, 2) := by decide +kernel
theorem dX8_isAlike_15 : decode cX8_isAlike 15 = .ok (.ifCond .eq 70, 3) := by decide +kernel
theorem dX8_isAlike_18 : decode cX8_isAlike 18 = .ok (.aload_n 0, 1) := by decide +kernel
theorem dX8_isAlike_19 : decode cX8_isAlike 19 = .ok (.getfield 62, 3) := by decide +kernel
theorem dX8_isAlike_22 : decode cX8_isAlike 22 = .ok (.bipush 8, 2) := by decide +kernel
theorem dX8_isAlike_24 : decode cX8_isAlike 24 = .ok (.iload_n 1, 1) := by decide +kernel
theorem dX8_isAlike_25 : decode cX8_isAlike 25 = .ok (.imul, 1) := by decide +kernel
theorem dX8_isAlike_26 : decode cX8_isAlike 26 = .ok (.iload 6, 2) := by decide +kernel
theorem dX8_isAlike_28 : decode cX8_isAlike 28 = .ok (.iadd, 1) := by decide +kernel
theorem dX8_isAlike_29 : decode cX8_isAlike 29 = .ok (.iaload, 1) := by decide +kernel
theorem dX8_isAlike_30 : decode cX8_isAlike 30 = .ok (.aload_n 0, 1) := by decide +kernel
theorem dX8_isAlike_31 : decode cX8_isAlike 31 = .ok (.getfield 62, 3) := by decide +kernel
theorem dX8_isAlike_34 : decode cX8_isAlike 34 = .ok (.bipush 8, 2) := by decide +kernel
theorem dX8_isAlike_36 : decode cX8_isAlike 36 = .ok (.iload_n 2, 1) := by decide +kernel
theorem dX8_isAlike_37 : decode cX8_isAlike 37 = .ok (.imul, 1) := by decide +kernel
theorem dX8_isAlike_38 : decode cX8_isAlike 38 = .ok (.iload 6, 2) := by decide +kernel
theorem dX8_isAlike_40 : decode cX8_isAlike 40 = .ok (.iadd, 1) := by decide +kernel
theorem dX8_isAlike_41 : decode cX8_isAlike 41 = .ok (.iaload, 1) := by decide +kernel
theorem dX8_isAlike_42 : decode cX8_isAlike 42 = .ok (.if_icmp .ne 34, 3) := by decide +kernel
theorem dX8_isAlike_45 : decode cX8_isAlike 45 = .ok (.aload_n 0, 1) := by decide +kernel
theorem dX8_isAlike_46 : decode cX8_isAlike 46 = .ok (.getfield 65, 3) := by decide +kernel
theorem dX8_isAlike_49 : decode cX8_isAlike 49 = .ok (.bipush 8, 2) := by decide +kernel
theorem dX8_isAlike_51 : decode cX8_isAlike 51 = .ok (.iload_n 1, 1) := by decide +kernel
theorem dX8_isAlike_52 : decode cX8_isAlike 52 = .ok (.imul, 1) := by decide +kernel
theorem dX8_isAlike_53 : decode cX8_isAlike 53 = .ok (.iload 6, 2) := by decide +kernel
theorem dX8_isAlike_55 : decode cX8_isAlike 55 = .ok (.iadd, 1) := by decide +kernel
theorem dX8_isAlike_56 : decode cX8_isAlike 56 = .ok (.iaload, 1) := by decide +kernel
theorem dX8_isAlike_57 : decode cX8_isAlike 57 = .ok (.aload_n 0, 1) := by decide +kernel
theorem dX8_isAlike_58 : decode cX8_isAlike 58 = .ok (.getfield 65, 3) := by decide +kernel
theorem dX8_isAlike_61 : decode cX8_isAlike 61 = .ok (.bipush 8, 2) := by decide +kernel
theorem dX8_isAlike_63 : decode cX8_isAlike 63 = .ok (.iload_n 2, 1) := by decide +kernel
theorem dX8_isAlike_64 : decode cX8_isAlike 64 = .ok (.imul, 1) := by decide +kernel
theorem dX8_isAlike_65 : decode cX8_isAlike 65 = .ok (.iload 6, 2) := by decide +kernel
theorem dX8_isAlike_67 : decode cX8_isAlike 67 = .ok (.iadd, 1) := by decide +kernel
theorem dX8_isAlike_68 : decode cX8_isAlike 68 = .ok (.iaload, 1) := by decide +kernel
theorem dX8_isAlike_69 : decode cX8_isAlike 69 = .ok (.if_icmp .ne 7, 3) := by decide +kernel
theorem dX8_isAlike_72 : decode cX8_isAlike 72 = .ok (.iconst 1, 1) := by decide +kernel
theorem dX8_isAlike_73 : decode cX8_isAlike 73 = .ok (.goto 4, 3) := by decide +kernel
theorem dX8_isAlike_76 : decode cX8_isAlike 76 = .ok (.iconst 0, 1) := by decide +kernel
theorem dX8_isAlike_77 : decode cX8_isAlike 77 = .ok (.istore 5, 2) := by decide +kernel
theorem dX8_isAlike_79 : decode cX8_isAlike 79 = .ok (.iinc 6 1, 3) := by decide +kernel
theorem dX8_isAlike_82 : decode cX8_isAlike 82 = .ok (.goto (-76), 3) := by decide +kernel
theorem dX8_isAlike_85 : decode cX8_isAlike 85 = .ok (.iload 5, 2) := by decide +kernel
theorem dX8_isAlike_87 : decode cX8_isAlike 87 = .ok (.ireturn, 1) := by decide +kernel
theorem dX8_heap_0 : decode cX8_heap 0 = .ok (.iconst 0, 1) := by decide +kernel
theorem dX8_heap_1 : decode cX8_heap 1 = .ok (.istore 4, 2) := by decide +kernel
theorem dX8_heap_3 : decode cX8_heap 3 = .ok (.iload 4, 2) := by decide +kernel
theorem dX8_heap_5 : decode cX8_heap 5 = .ok (.sipush 8192, 3) := by decide +kernel
theorem dX8_heap_8 : decode cX8_heap 8 = .ok (.if_icmp .ge 18, 3) := by decide +kernel
theorem dX8_heap_11 : decode cX8_heap 11 = .ok (.aload_n 0, 1) := by decide +kernel
theorem dX8_heap_12 : decode cX8_heap 12 = .ok (.getfield 68, 3) := by decide +kernel
theorem dX8_heap_15 : decode cX8_heap 15 = .ok (.iload 4, 2) := by decide +kernel
theorem dX8_heap_17 : decode cX8_heap 17 = .ok (.bipush (-9), 2) := by decide +kernel
theorem dX8_heap_19 : decode cX8_heap 19 = .ok (.iastore, 1) := by decide +kernel
theorem dX8_heap_20 : decode cX8_heap 20 = .ok (.iinc 4 1, 3) := by decide +kernel
theorem dX8_heap_23 : decode cX8_heap 23 = .ok (.goto (-20), 3) := by decide +kernel
theorem dX8_heap_26 : decode cX8_heap 26 = .ok (.aload_n 0, 1) := by decide +kernel
theorem dX8_heap_27 : decode cX8_heap 27 = .ok (.iconst 0, 1) := by decide +kernel
theorem dX8_heap_28 : decode cX8_heap 28 = .ok (.putfield 243, 3) := by decide +kernel
theorem dX8_heap_31 : decode cX8_heap 31 = .ok (.iconst 0, 1) := by decide +kernel
theorem dX8_heap_32 : decode cX8_heap 32 = .ok (.istore 4, 2) := by decide +kernel
theorem dX8_heap_34 : decode cX8_heap 34 = .ok (.iconst 0, 1) := by decide +kernel
theorem dX8_heap_35 : decode cX8_heap 35 = .ok (.istore 5, 2) := by decide +kernel
theorem dX8_heap_37 : decode cX8_heap 37 = .ok (.iload 5, 2) := by decide +kernel
theorem dX8_heap_39 : decode cX8_heap 39 = .ok (.iload_n 1, 1) := by decide +kernel
theorem dX8_heap_40 : decode cX8_heap 40 = .ok (.if_icmp .ge 213, 3) := by decide +kernel
theorem dX8_heap_43 : decode cX8_heap 43 = .ok (.iconst 0, 1) := by decide +kernel
theorem dX8_heap_44 : decode cX8_heap 44 = .ok (.istore 6, 2) := by decide +kernel
theorem dX8_heap_46 : decode cX8_heap 46 = .ok (.iload_n 2, 1) := by decide +kernel
theorem dX8_heap_47 : decode cX8_heap 47 = .ok (.istore 7, 2) := by decide +kernel
theorem dX8_heap_49 : decode cX8_heap 49 = .ok (.iload 7, 2) := by decide +kernel
theorem dX8_heap_51 : decode cX8_heap 51 = .ok (.iload_n 3, 1) := by decide +kernel
theorem dX8_heap_52 : decode cX8_heap 52 = .ok (.if_icmp .ge 47, 3) := by decide +kernel
theorem dX8_heap_55 : decode cX8_heap 55 = .ok (.iload 6, 2) := by decide +kernel
theorem dX8_heap_57 : decode cX8_heap 57 = .ok (.bipush 31, 2) := by decide +kernel
theorem dX8_heap_59 : decode cX8_heap 59 = .ok (.imul, 1) := by decide +kernel
theorem dX8_heap_60 : decode cX8_heap 60 = .ok (.aload_n 0, 1) := by decide +kernel
theorem dX8_heap_61 : decode cX8_heap 61 = .ok (.getfield 62, 3) := by decide +kernel
theorem dX8_heap_64 : decode cX8_heap 64 = .ok (.bipush 8, 2) := by decide +kernel
theorem dX8_heap_66 : decode cX8_heap 66 = .ok (.iload 5, 2) := by decide +kernel
theorem dX8_heap_68 : decode cX8_heap 68 = .ok (.imul, 1) := by decide +kernel
theorem dX8_heap_69 : decode cX8_heap 69 = .ok (.iload 7, 2) := by decide +kernel
theorem dX8_heap_71 : decode cX8_heap 71 = .ok (.iadd, 1) := by decide +kernel
theorem dX8_heap_72 : decode cX8_heap 72 = .ok (.iaload, 1) := by decide +kernel
theorem dX8_heap_73 : decode cX8_heap 73 = .ok (.iadd, 1) := by decide +kernel
theorem dX8_heap_74 : decode cX8_heap 74 = .ok (.bipush 31, 2) := by decide +kernel
theorem dX8_heap_76 : decode cX8_heap 76 = .ok (.imul, 1) := by decide +kernel
theorem dX8_heap_77 : decode cX8_heap 77 = .ok (.aload_n 0, 1) := by decide +kernel
theorem dX8_heap_78 : decode cX8_heap 78 = .ok (.getfield 65, 3) := by decide +kernel
theorem dX8_heap_81 : decode cX8_heap 81 = .ok (.bipush 8, 2) := by decide +kernel
theorem dX8_heap_83 : decode cX8_heap 83 = .ok (.iload 5, 2) := by decide +kernel
theorem dX8_heap_85 : decode cX8_heap 85 = .ok (.imul, 1) := by decide +kernel
theorem dX8_heap_86 : decode cX8_heap 86 = .ok (.iload 7, 2) := by decide +kernel
theorem dX8_heap_88 : decode cX8_heap 88 = .ok (.iadd, 1) := by decide +kernel
theorem dX8_heap_89 : decode cX8_heap 89 = .ok (.iaload, 1) := by decide +kernel
theorem dX8_heap_90 : decode cX8_heap 90 = .ok (.iadd, 1) := by decide +kernel
theorem dX8_heap_91 : decode cX8_heap 91 = .ok (.istore 6, 2) := by decide +kernel
theorem dX8_heap_93 : decode cX8_heap 93 = .ok (.iinc 7 1, 3) := by decide +kernel
theorem dX8_heap_96 : decode cX8_heap 96 = .ok (.goto (-47), 3) := by decide +kernel
theorem dX8_heap_99 : decode cX8_heap 99 = .ok (.iload 6, 2) := by decide +kernel
theorem dX8_heap_101 : decode cX8_heap 101 = .ok (.iload 6, 2) := by decide +kernel
theorem dX8_heap_103 : decode cX8_heap 103 = .ok (.bipush 15, 2) := by decide +kernel
theorem dX8_heap_105 : decode cX8_heap 105 = .ok (.ishr, 1) := by decide +kernel
theorem dX8_heap_106 : decode cX8_heap 106 = .ok (.ixor, 1) := by decide +kernel
theorem dX8_heap_107 : decode cX8_heap 107 = .ok (.sipush 8191, 3) := by decide +kernel
theorem dX8_heap_110 : decode cX8_heap 110 = .ok (.iand, 1) := by decide +kernel
theorem dX8_heap_111 : decode cX8_heap 111 = .ok (.istore 7, 2) := by decide +kernel
theorem dX8_heap_113 : decode cX8_heap 113 = .ok (.aload_n 0, 1) := by decide +kernel
theorem dX8_heap_114 : decode cX8_heap 114 = .ok (.getfield 68, 3) := by decide +kernel
theorem dX8_heap_117 : decode cX8_heap 117 = .ok (.iload 7, 2) := by decide +kernel
theorem dX8_heap_119 : decode cX8_heap 119 = .ok (.iaload, 1) := by decide +kernel
theorem dX8_heap_120 : decode cX8_heap 120 = .ok (.bipush (-9), 2) := by decide +kernel
theorem dX8_heap_122 : decode cX8_heap 122 = .ok (.if_icmp .eq 34, 3) := by decide +kernel
theorem dX8_heap_125 : decode cX8_heap 125 = .ok (.aload_n 0, 1) := by decide +kernel
theorem dX8_heap_126 : decode cX8_heap 126 = .ok (.aload_n 0, 1) := by decide +kernel
theorem dX8_heap_127 : decode cX8_heap 127 = .ok (.getfield 68, 3) := by decide +kernel
theorem dX8_heap_130 : decode cX8_heap 130 = .ok (.iload 7, 2) := by decide +kernel
theorem dX8_heap_132 : decode cX8_heap 132 = .ok (.iaload, 1) := by decide +kernel
theorem dX8_heap_133 : decode cX8_heap 133 = .ok (.iload 5, 2) := by decide +kernel
theorem dX8_heap_135 : decode cX8_heap 135 = .ok (.iload_n 2, 1) := by decide +kernel
theorem dX8_heap_136 : decode cX8_heap 136 = .ok (.iload_n 3, 1) := by decide +kernel
theorem dX8_heap_137 : decode cX8_heap 137 = .ok (.invokevirtual 246, 3) := by decide +kernel
theorem dX8_heap_140 : decode cX8_heap 140 = .ok (.ifCond .ne 16, 3) := by decide +kernel
theorem dX8_heap_143 : decode cX8_heap 143 = .ok (.iload 7, 2) := by decide +kernel
theorem dX8_heap_145 : decode cX8_heap 145 = .ok (.iconst 1, 1) := by decide +kernel
theorem dX8_heap_146 : decode cX8_heap 146 = .ok (.iadd, 1) := by decide +kernel
theorem dX8_heap_147 : decode cX8_heap 147 = .ok (.sipush 8191, 3) := by decide +kernel
theorem dX8_heap_150 : decode cX8_heap 150 = .ok (.iand, 1) := by decide +kernel
theorem dX8_heap_151 : decode cX8_heap 151 = .ok (.istore 7, 2) := by decide +kernel
theorem dX8_heap_153 : decode cX8_heap 153 = .ok (.goto (-40), 3) := by decide +kernel
theorem dX8_heap_156 : decode cX8_heap 156 = .ok (.aload_n 0, 1) := by decide +kernel
theorem dX8_heap_157 : decode cX8_heap 157 = .ok (.getfield 68, 3) := by decide +kernel
theorem dX8_heap_160 : decode cX8_heap 160 = .ok (.iload 7, 2) := by decide +kernel
theorem dX8_heap_162 : decode cX8_heap 162 = .ok (.iaload, 1) := by decide +kernel
theorem dX8_heap_163 : decode cX8_heap 163 = .ok (.bipush (-9), 2) := by decide +kernel
theorem dX8_heap_165 : decode cX8_heap 165 = .ok (.if_icmp .ne 30, 3) := by decide +kernel
theorem dX8_heap_168 : decode cX8_heap 168 = .ok (.aload_n 0, 1) := by decide +kernel
theorem dX8_heap_169 : decode cX8_heap 169 = .ok (.getfield 68, 3) := by decide +kernel
theorem dX8_heap_172 : decode cX8_heap 172 = .ok (.iload 7, 2) := by decide +kernel
theorem dX8_heap_174 : decode cX8_heap 174 = .ok (.iload 5, 2) := by decide +kernel
theorem dX8_heap_176 : decode cX8_heap 176 = .ok (.iastore, 1) := by decide +kernel
theorem dX8_heap_177 : decode cX8_heap 177 = .ok (.aload_n 0, 1) := by decide +kernel
theorem dX8_heap_178 : decode cX8_heap 178 = .ok (.getfield 71, 3) := by decide +kernel
theorem dX8_heap_181 : decode cX8_heap 181 = .ok (.iload 5, 2) := by decide +kernel
theorem dX8_heap_183 : decode cX8_heap 183 = .ok (.iconst 0, 1) := by decide +kernel
theorem dX8_heap_184 : decode cX8_heap 184 = .ok (.iastore, 1) := by decide +kernel
theorem dX8_heap_185 : decode cX8_heap 185 = .ok (.aload_n 0, 1) := by decide +kernel
theorem dX8_heap_186 : decode cX8_heap 186 = .ok (.dup, 1) := by decide +kernel
theorem dX8_heap_187 : decode cX8_heap 187 = .ok (.getfield 243, 3) := by decide +kernel
theorem dX8_heap_190 : decode cX8_heap 190 = .ok (.iconst 1, 1) := by decide +kernel
theorem dX8_heap_191 : decode cX8_heap 191 = .ok (.iadd, 1) := by decide +kernel
theorem dX8_heap_192 : decode cX8_heap 192 = .ok (.putfield 243, 3) := by decide +kernel
theorem dX8_heap_195 : decode cX8_heap 195 = .ok (.aload_n 0, 1) := by decide +kernel
theorem dX8_heap_196 : decode cX8_heap 196 = .ok (.getfield 71, 3) := by decide +kernel
theorem dX8_heap_199 : decode cX8_heap 199 = .ok (.aload_n 0, 1) := by decide +kernel
theorem dX8_heap_200 : decode cX8_heap 200 = .ok (.getfield 68, 3) := by decide +kernel
theorem dX8_heap_203 : decode cX8_heap 203 = .ok (.iload 7, 2) := by decide +kernel
theorem dX8_heap_205 : decode cX8_heap 205 = .ok (.iaload, 1) := by decide +kernel
theorem dX8_heap_206 : decode cX8_heap 206 = .ok (.dup2, 1) := by decide +kernel
theorem dX8_heap_207 : decode cX8_heap 207 = .ok (.iaload, 1) := by decide +kernel
theorem dX8_heap_208 : decode cX8_heap 208 = .ok (.iconst 1, 1) := by decide +kernel
theorem dX8_heap_209 : decode cX8_heap 209 = .ok (.iadd, 1) := by decide +kernel
theorem dX8_heap_210 : decode cX8_heap 210 = .ok (.iastore, 1) := by decide +kernel
theorem dX8_heap_211 : decode cX8_heap 211 = .ok (.aload_n 0, 1) := by decide +kernel
theorem dX8_heap_212 : decode cX8_heap 212 = .ok (.getfield 71, 3) := by decide +kernel
theorem dX8_heap_215 : decode cX8_heap 215 = .ok (.aload_n 0, 1) := by decide +kernel
theorem dX8_heap_216 : decode cX8_heap 216 = .ok (.getfield 68, 3) := by decide +kernel
theorem dX8_heap_219 : decode cX8_heap 219 = .ok (.iload 7, 2) := by decide +kernel
theorem dX8_heap_221 : decode cX8_heap 221 = .ok (.iaload, 1) := by decide +kernel
theorem dX8_heap_222 : decode cX8_heap 222 = .ok (.iaload, 1) := by decide +kernel
theorem dX8_heap_223 : decode cX8_heap 223 = .ok (.iload 4, 2) := by decide +kernel
theorem dX8_heap_225 : decode cX8_heap 225 = .ok (.if_icmp .le 18, 3) := by decide +kernel
theorem dX8_heap_228 : decode cX8_heap 228 = .ok (.aload_n 0, 1) := by decide +kernel
theorem dX8_heap_229 : decode cX8_heap 229 = .ok (.getfield 71, 3) := by decide +kernel
theorem dX8_heap_232 : decode cX8_heap 232 = .ok (.aload_n 0, 1) := by decide +kernel
theorem dX8_heap_233 : decode cX8_heap 233 = .ok (.getfield 68, 3) := by decide +kernel
theorem dX8_heap_236 : decode cX8_heap 236 = .ok (.iload 7, 2) := by decide +kernel
theorem dX8_heap_238 : decode cX8_heap 238 = .ok (.iaload, 1) := by decide +kernel
theorem dX8_heap_239 : decode cX8_heap 239 = .ok (.iaload, 1) := by decide +kernel
theorem dX8_heap_240 : decode cX8_heap 240 = .ok (.goto 5, 3) := by decide +kernel
theorem dX8_heap_243 : decode cX8_heap 243 = .ok (.iload 4, 2) := by decide +kernel
theorem dX8_heap_245 : decode cX8_heap 245 = .ok (.istore 4, 2) := by decide +kernel
theorem dX8_heap_247 : decode cX8_heap 247 = .ok (.iinc 5 1, 3) := by decide +kernel
theorem dX8_heap_250 : decode cX8_heap 250 = .ok (.goto (-213), 3) := by decide +kernel
theorem dX8_heap_253 : decode cX8_heap 253 = .ok (.iload 4, 2) := by decide +kernel
theorem dX8_heap_255 : decode cX8_heap 255 = .ok (.ireturn, 1) := by decide +kernel
theorem dX8_models_0 : decode cX8_models 0 = .ok (.aload_n 0, 1) := by decide +kernel
theorem dX8_models_1 : decode cX8_models 1 = .ok (.iload_n 1, 1) := by decide +kernel
theorem dX8_models_2 : decode cX8_models 2 = .ok (.iload_n 2, 1) := by decide +kernel
theorem dX8_models_3 : decode cX8_models 3 = .ok (.invokevirtual 221, 3) := by decide +kernel
theorem dX8_models_6 : decode cX8_models 6 = .ok (.ifCond .eq 12, 3) := by decide +kernel
theorem dX8_models_9 : decode cX8_models 9 = .ok (.iload_n 3, 1) := by decide +kernel
theorem dX8_models_10 : decode cX8_models 10 = .ok (.iconst 0, 1) := by decide +kernel
theorem dX8_models_11 : decode cX8_models 11 = .ok (.iconst 3, 1) := by decide +kernel
theorem dX8_models_12 : decode cX8_models 12 = .ok (.invokestatic 74, 3) := by decide +kernel
theorem dX8_models_15 : decode cX8_models 15 = .ok (.ifCond .ne 5, 3) := by decide +kernel
theorem dX8_models_18 : decode cX8_models 18 = .ok (.iconst (-1), 1) := by decide +kernel
theorem dX8_models_19 : decode cX8_models 19 = .ok (.ireturn, 1) := by decide +kernel
theorem dX8_models_20 : decode cX8_models 20 = .ok (.aload_n 0, 1) := by decide +kernel
theorem dX8_models_21 : decode cX8_models 21 = .ok (.iload_n 1, 1) := by decide +kernel
theorem dX8_models_22 : decode cX8_models 22 = .ok (.iload_n 2, 1) := by decide +kernel
theorem dX8_models_23 : decode cX8_models 23 = .ok (.invokevirtual 250, 3) := by decide +kernel
theorem dX8_models_26 : decode cX8_models 26 = .ok (.istore 4, 2) := by decide +kernel
theorem dX8_models_28 : decode cX8_models 28 = .ok (.iload_n 3, 1) := by decide +kernel
theorem dX8_models_29 : decode cX8_models 29 = .ok (.ifCond .ne 6, 3) := by decide +kernel
theorem dX8_models_32 : decode cX8_models 32 = .ok (.iload 4, 2) := by decide +kernel
theorem dX8_models_34 : decode cX8_models 34 = .ok (.ireturn, 1) := by decide +kernel
theorem dX8_models_35 : decode cX8_models 35 = .ok (.bipush (-9), 2) := by decide +kernel
theorem dX8_models_37 : decode cX8_models 37 = .ok (.istore 5, 2) := by decide +kernel
theorem dX8_models_39 : decode cX8_models 39 = .ok (.bipush (-9), 2) := by decide +kernel
theorem dX8_models_41 : decode cX8_models 41 = .ok (.istore 6, 2) := by decide +kernel
theorem dX8_models_43 : decode cX8_models 43 = .ok (.iload_n 3, 1) := by decide +kernel
theorem dX8_models_44 : decode cX8_models 44 = .ok (.iconst 1, 1) := by decide +kernel
theorem dX8_models_45 : decode cX8_models 45 = .ok (.if_icmp .ne 113, 3) := by decide +kernel
theorem dX8_models_48 : decode cX8_models 48 = .ok (.iconst 0, 1) := by decide +kernel
theorem dX8_models_49 : decode cX8_models 49 = .ok (.istore 7, 2) := by decide +kernel
theorem dX8_models_51 : decode cX8_models 51 = .ok (.iload 7, 2) := by decide +kernel
theorem dX8_models_53 : decode cX8_models 53 = .ok (.iload 4, 2) := by decide +kernel
theorem dX8_models_55 : decode cX8_models 55 = .ok (.if_icmp .ge 100, 3) := by decide +kernel
theorem dX8_models_58 : decode cX8_models 58 = .ok (.iload_n 2, 1) := by decide +kernel
theorem dX8_models_59 : decode cX8_models 59 = .ok (.aload_n 0, 1) := by decide +kernel
theorem dX8_models_60 : decode cX8_models 60 = .ok (.getfield 58, 3) := by decide +kernel
theorem dX8_models_63 : decode cX8_models 63 = .ok (.iload 7, 2) := by decide +kernel
theorem dX8_models_65 : decode cX8_models 65 = .ok (.iaload, 1) := by decide +kernel
theorem dX8_models_66 : decode cX8_models 66 = .ok (.iconst 0, 1) := by decide +kernel
theorem dX8_models_67 : decode cX8_models 67 = .ok (.invokestatic 215, 3) := by decide +kernel
theorem dX8_models_70 : decode cX8_models 70 = .ok (.iload_n 2, 1) := by decide +kernel
theorem dX8_models_71 : decode cX8_models 71 = .ok (.aload_n 0, 1) := by decide +kernel
theorem dX8_models_72 : decode cX8_models 72 = .ok (.getfield 58, 3) := by decide +kernel
theorem dX8_models_75 : decode cX8_models 75 = .ok (.iload 7, 2) := by decide +kernel
theorem dX8_models_77 : decode cX8_models 77 = .ok (.iaload, 1) := by decide +kernel
theorem dX8_models_78 : decode cX8_models 78 = .ok (.iconst 1, 1) := by decide +kernel
theorem dX8_models_79 : decode cX8_models 79 = .ok (.invokestatic 215, 3) := by decide +kernel
theorem dX8_models_82 : decode cX8_models 82 = .ok (.iadd, 1) := by decide +kernel
theorem dX8_models_83 : decode cX8_models 83 = .ok (.iload_n 2, 1) := by decide +kernel
theorem dX8_models_84 : decode cX8_models 84 = .ok (.aload_n 0, 1) := by decide +kernel
theorem dX8_models_85 : decode cX8_models 85 = .ok (.getfield 58, 3) := by decide +kernel
theorem dX8_models_88 : decode cX8_models 88 = .ok (.iload 7, 2) := by decide +kernel
theorem dX8_models_90 : decode cX8_models 90 = .ok (.iaload, 1) := by decide +kernel
theorem dX8_models_91 : decode cX8_models 91 = .ok (.iconst 2, 1) := by decide +kernel
theorem dX8_models_92 : decode cX8_models 92 = .ok (.invokestatic 215, 3) := by decide +kernel
theorem dX8_models_95 : decode cX8_models 95 = .ok (.iadd, 1) := by decide +kernel
theorem dX8_models_96 : decode cX8_models 96 = .ok (.istore 8, 2) := by decide +kernel
theorem dX8_models_98 : decode cX8_models 98 = .ok (.iload 5, 2) := by decide +kernel
theorem dX8_models_100 : decode cX8_models 100 = .ok (.bipush (-9), 2) := by decide +kernel
theorem dX8_models_102 : decode cX8_models 102 = .ok (.if_icmp .eq 10, 3) := by decide +kernel
theorem dX8_models_105 : decode cX8_models 105 = .ok (.iload 8, 2) := by decide +kernel
theorem dX8_models_107 : decode cX8_models 107 = .ok (.iload 6, 2) := by decide +kernel
theorem dX8_models_109 : decode cX8_models 109 = .ok (.if_icmp .ge 13, 3) := by decide +kernel
theorem dX8_models_112 : decode cX8_models 112 = .ok (.aload_n 0, 1) := by decide +kernel
theorem dX8_models_113 : decode cX8_models 113 = .ok (.getfield 58, 3) := by decide +kernel
theorem dX8_models_116 : decode cX8_models 116 = .ok (.iload 7, 2) := by decide +kernel
theorem dX8_models_118 : decode cX8_models 118 = .ok (.iaload, 1) := by decide +kernel
theorem dX8_models_119 : decode cX8_models 119 = .ok (.goto 5, 3) := by decide +kernel
theorem dX8_models_122 : decode cX8_models 122 = .ok (.iload 5, 2) := by decide +kernel
theorem dX8_models_124 : decode cX8_models 124 = .ok (.istore 5, 2) := by decide +kernel
theorem dX8_models_126 : decode cX8_models 126 = .ok (.iload 6, 2) := by decide +kernel
theorem dX8_models_128 : decode cX8_models 128 = .ok (.bipush (-9), 2) := by decide +kernel
theorem dX8_models_130 : decode cX8_models 130 = .ok (.if_icmp .eq 10, 3) := by decide +kernel
theorem dX8_models_133 : decode cX8_models 133 = .ok (.iload 8, 2) := by decide +kernel
theorem dX8_models_135 : decode cX8_models 135 = .ok (.iload 6, 2) := by decide +kernel
theorem dX8_models_137 : decode cX8_models 137 = .ok (.if_icmp .ge 8, 3) := by decide +kernel
theorem dX8_models_140 : decode cX8_models 140 = .ok (.iload 8, 2) := by decide +kernel
theorem dX8_models_142 : decode cX8_models 142 = .ok (.goto 5, 3) := by decide +kernel
theorem dX8_models_145 : decode cX8_models 145 = .ok (.iload 6, 2) := by decide +kernel
theorem dX8_models_147 : decode cX8_models 147 = .ok (.istore 6, 2) := by decide +kernel
theorem dX8_models_149 : decode cX8_models 149 = .ok (.iinc 7 1, 3) := by decide +kernel
theorem dX8_models_152 : decode cX8_models 152 = .ok (.goto (-101), 3) := by decide +kernel
theorem dX8_models_155 : decode cX8_models 155 = .ok (.iload 5, 2) := by decide +kernel
theorem dX8_models_157 : decode cX8_models 157 = .ok (.ireturn, 1) := by decide +kernel
theorem dX8_models_158 : decode cX8_models 158 = .ok (.iload_n 3, 1) := by decide +kernel
theorem dX8_models_159 : decode cX8_models 159 = .ok (.iconst 2, 1) := by decide +kernel
theorem dX8_models_160 : decode cX8_models 160 = .ok (.if_icmp .ne 21, 3) := by decide +kernel
theorem dX8_models_163 : decode cX8_models 163 = .ok (.aload_n 0, 1) := by decide +kernel
theorem dX8_models_164 : decode cX8_models 164 = .ok (.iload 4, 2) := by decide +kernel
theorem dX8_models_166 : decode cX8_models 166 = .ok (.iconst 0, 1) := by decide +kernel
theorem dX8_models_167 : decode cX8_models 167 = .ok (.aload_n 0, 1) := by decide +kernel
theorem dX8_models_168 : decode cX8_models 168 = .ok (.getfield 240, 3) := by decide +kernel
theorem dX8_models_171 : decode cX8_models 171 = .ok (.invokevirtual 253, 3) := by decide +kernel
theorem dX8_models_174 : decode cX8_models 174 = .ok (.istore 7, 2) := by decide +kernel
theorem dX8_models_176 : decode cX8_models 176 = .ok (.aload_n 0, 1) := by decide +kernel
theorem dX8_models_177 : decode cX8_models 177 = .ok (.getfield 243, 3) := by decide +kernel
theorem dX8_models_180 : decode cX8_models 180 = .ok (.ireturn, 1) := by decide +kernel
theorem dX8_models_181 : decode cX8_models 181 = .ok (.iconst 0, 1) := by decide +kernel
theorem dX8_models_182 : decode cX8_models 182 = .ok (.istore 7, 2) := by decide +kernel
theorem dX8_models_184 : decode cX8_models 184 = .ok (.iload 7, 2) := by decide +kernel
theorem dX8_models_186 : decode cX8_models 186 = .ok (.aload_n 0, 1) := by decide +kernel
theorem dX8_models_187 : decode cX8_models 187 = .ok (.getfield 240, 3) := by decide +kernel
theorem dX8_models_190 : decode cX8_models 190 = .ok (.if_icmp .ge 74, 3) := by decide +kernel
theorem dX8_models_193 : decode cX8_models 193 = .ok (.iload 4, 2) := by decide +kernel
theorem dX8_models_195 : decode cX8_models 195 = .ok (.ifCond .le 69, 3) := by decide +kernel
theorem dX8_models_198 : decode cX8_models 198 = .ok (.aload_n 0, 1) := by decide +kernel
theorem dX8_models_199 : decode cX8_models 199 = .ok (.iload 4, 2) := by decide +kernel
theorem dX8_models_201 : decode cX8_models 201 = .ok (.iload 7, 2) := by decide +kernel
theorem dX8_models_203 : decode cX8_models 203 = .ok (.iload 7, 2) := by decide +kernel
theorem dX8_models_205 : decode cX8_models 205 = .ok (.iconst 1, 1) := by decide +kernel
theorem dX8_models_206 : decode cX8_models 206 = .ok (.iadd, 1) := by decide +kernel
theorem dX8_models_207 : decode cX8_models 207 = .ok (.invokevirtual 253, 3) := by decide +kernel
theorem dX8_models_210 : decode cX8_models 210 = .ok (.istore 8, 2) := by decide +kernel
theorem dX8_models_212 : decode cX8_models 212 = .ok (.iload 5, 2) := by decide +kernel
theorem dX8_models_214 : decode cX8_models 214 = .ok (.bipush (-9), 2) := by decide +kernel
theorem dX8_models_216 : decode cX8_models 216 = .ok (.if_icmp .eq 10, 3) := by decide +kernel
theorem dX8_models_219 : decode cX8_models 219 = .ok (.iload 8, 2) := by decide +kernel
theorem dX8_models_221 : decode cX8_models 221 = .ok (.iload 6, 2) := by decide +kernel
theorem dX8_models_223 : decode cX8_models 223 = .ok (.if_icmp .ge 8, 3) := by decide +kernel
theorem dX8_models_226 : decode cX8_models 226 = .ok (.iload 7, 2) := by decide +kernel
theorem dX8_models_228 : decode cX8_models 228 = .ok (.goto 5, 3) := by decide +kernel
theorem dX8_models_231 : decode cX8_models 231 = .ok (.iload 5, 2) := by decide +kernel
theorem dX8_models_233 : decode cX8_models 233 = .ok (.istore 5, 2) := by decide +kernel
theorem dX8_models_235 : decode cX8_models 235 = .ok (.iload 6, 2) := by decide +kernel
theorem dX8_models_237 : decode cX8_models 237 = .ok (.bipush (-9), 2) := by decide +kernel
theorem dX8_models_239 : decode cX8_models 239 = .ok (.if_icmp .eq 10, 3) := by decide +kernel
theorem dX8_models_242 : decode cX8_models 242 = .ok (.iload 8, 2) := by decide +kernel
theorem dX8_models_244 : decode cX8_models 244 = .ok (.iload 6, 2) := by decide +kernel
theorem dX8_models_246 : decode cX8_models 246 = .ok (.if_icmp .ge 8, 3) := by decide +kernel
theorem dX8_models_249 : decode cX8_models 249 = .ok (.iload 8, 2) := by decide +kernel
theorem dX8_models_251 : decode cX8_models 251 = .ok (.goto 5, 3) := by decide +kernel
theorem dX8_models_254 : decode cX8_models 254 = .ok (.iload 6, 2) := by decide +kernel
theorem dX8_models_256 : decode cX8_models 256 = .ok (.istore 6, 2) := by decide +kernel
theorem dX8_models_258 : decode cX8_models 258 = .ok (.iinc 7 1, 3) := by decide +kernel
theorem dX8_models_261 : decode cX8_models 261 = .ok (.goto (-77), 3) := by decide +kernel
theorem dX8_models_264 : decode cX8_models 264 = .ok (.iload 5, 2) := by decide +kernel
theorem dX8_models_266 : decode cX8_models 266 = .ok (.ireturn, 1) := by decide +kernel
theorem dX8_sure_0 : decode cX8_sure 0 = .ok (.aload_n 0, 1) := by decide +kernel
theorem dX8_sure_1 : decode cX8_sure 1 = .ok (.iload_n 1, 1) := by decide +kernel
theorem dX8_sure_2 : decode cX8_sure 2 = .ok (.iload_n 2, 1) := by decide +kernel
theorem dX8_sure_3 : decode cX8_sure 3 = .ok (.invokevirtual 221, 3) := by decide +kernel
theorem dX8_sure_6 : decode cX8_sure 6 = .ok (.ifCond .eq 14, 3) := by decide +kernel
theorem dX8_sure_9 : decode cX8_sure 9 = .ok (.iload_n 3, 1) := by decide +kernel
theorem dX8_sure_10 : decode cX8_sure 10 = .ok (.iconst 0, 1) := by decide +kernel
theorem dX8_sure_11 : decode cX8_sure 11 = .ok (.iload_n 1, 1) := by decide +kernel
theorem dX8_sure_12 : decode cX8_sure 12 = .ok (.iconst 1, 1) := by decide +kernel
theorem dX8_sure_13 : decode cX8_sure 13 = .ok (.isub, 1) := by decide +kernel
theorem dX8_sure_14 : decode cX8_sure 14 = .ok (.invokestatic 74, 3) := by decide +kernel
theorem dX8_sure_17 : decode cX8_sure 17 = .ok (.ifCond .ne 5, 3) := by decide +kernel
theorem dX8_sure_20 : decode cX8_sure 20 = .ok (.iconst (-1), 1) := by decide +kernel
theorem dX8_sure_21 : decode cX8_sure 21 = .ok (.ireturn, 1) := by decide +kernel
theorem dX8_sure_22 : decode cX8_sure 22 = .ok (.aload_n 0, 1) := by decide +kernel
theorem dX8_sure_23 : decode cX8_sure 23 = .ok (.iload_n 1, 1) := by decide +kernel
theorem dX8_sure_24 : decode cX8_sure 24 = .ok (.iload_n 2, 1) := by decide +kernel
theorem dX8_sure_25 : decode cX8_sure 25 = .ok (.invokevirtual 250, 3) := by decide +kernel
theorem dX8_sure_28 : decode cX8_sure 28 = .ok (.istore 4, 2) := by decide +kernel
theorem dX8_sure_30 : decode cX8_sure 30 = .ok (.iload 4, 2) := by decide +kernel
theorem dX8_sure_32 : decode cX8_sure 32 = .ok (.ifCond .ne 8, 3) := by decide +kernel
theorem dX8_sure_35 : decode cX8_sure 35 = .ok (.bipush (-9), 2) := by decide +kernel
theorem dX8_sure_37 : decode cX8_sure 37 = .ok (.goto 14, 3) := by decide +kernel
theorem dX8_sure_40 : decode cX8_sure 40 = .ok (.iload_n 2, 1) := by decide +kernel
theorem dX8_sure_41 : decode cX8_sure 41 = .ok (.aload_n 0, 1) := by decide +kernel
theorem dX8_sure_42 : decode cX8_sure 42 = .ok (.getfield 58, 3) := by decide +kernel
theorem dX8_sure_45 : decode cX8_sure 45 = .ok (.iconst 0, 1) := by decide +kernel
theorem dX8_sure_46 : decode cX8_sure 46 = .ok (.iaload, 1) := by decide +kernel
theorem dX8_sure_47 : decode cX8_sure 47 = .ok (.iload_n 3, 1) := by decide +kernel
theorem dX8_sure_48 : decode cX8_sure 48 = .ok (.invokestatic 215, 3) := by decide +kernel
theorem dX8_sure_51 : decode cX8_sure 51 = .ok (.istore 5, 2) := by decide +kernel
theorem dX8_sure_53 : decode cX8_sure 53 = .ok (.iconst 1, 1) := by decide +kernel
theorem dX8_sure_54 : decode cX8_sure 54 = .ok (.istore 6, 2) := by decide +kernel
theorem dX8_sure_56 : decode cX8_sure 56 = .ok (.iload 6, 2) := by decide +kernel
theorem dX8_sure_58 : decode cX8_sure 58 = .ok (.iload 4, 2) := by decide +kernel
theorem dX8_sure_60 : decode cX8_sure 60 = .ok (.if_icmp .ge 35, 3) := by decide +kernel
theorem dX8_sure_63 : decode cX8_sure 63 = .ok (.iload_n 2, 1) := by decide +kernel
theorem dX8_sure_64 : decode cX8_sure 64 = .ok (.aload_n 0, 1) := by decide +kernel
theorem dX8_sure_65 : decode cX8_sure 65 = .ok (.getfield 58, 3) := by decide +kernel
theorem dX8_sure_68 : decode cX8_sure 68 = .ok (.iload 6, 2) := by decide +kernel
theorem dX8_sure_70 : decode cX8_sure 70 = .ok (.iaload, 1) := by decide +kernel
theorem dX8_sure_71 : decode cX8_sure 71 = .ok (.iload_n 3, 1) := by decide +kernel
theorem dX8_sure_72 : decode cX8_sure 72 = .ok (.invokestatic 215, 3) := by decide +kernel
theorem dX8_sure_75 : decode cX8_sure 75 = .ok (.iload 5, 2) := by decide +kernel
theorem dX8_sure_77 : decode cX8_sure 77 = .ok (.if_icmp .ne 8, 3) := by decide +kernel
theorem dX8_sure_80 : decode cX8_sure 80 = .ok (.iload 5, 2) := by decide +kernel
theorem dX8_sure_82 : decode cX8_sure 82 = .ok (.goto 5, 3) := by decide +kernel
theorem dX8_sure_85 : decode cX8_sure 85 = .ok (.bipush (-9), 2) := by decide +kernel
theorem dX8_sure_87 : decode cX8_sure 87 = .ok (.istore 5, 2) := by decide +kernel
theorem dX8_sure_89 : decode cX8_sure 89 = .ok (.iinc 6 1, 3) := by decide +kernel
theorem dX8_sure_92 : decode cX8_sure 92 = .ok (.goto (-36), 3) := by decide +kernel
theorem dX8_sure_95 : decode cX8_sure 95 = .ok (.iload 5, 2) := by decide +kernel
theorem dX8_sure_97 : decode cX8_sure 97 = .ok (.ireturn, 1) := by decide +kernel
theorem dX8_spot_0 : decode cX8_spot 0 = .ok (.iload_n 1, 1) := by decide +kernel
theorem dX8_spot_1 : decode cX8_spot 1 = .ok (.iload_n 2, 1) := by decide +kernel
theorem dX8_spot_2 : decode cX8_spot 2 = .ok (.bipush 30, 2) := by decide +kernel
theorem dX8_spot_4 : decode cX8_spot 4 = .ok (.invokestatic 81, 3) := by decide +kernel
theorem dX8_spot_7 : decode cX8_spot 7 = .ok (.ifCond .ne 5, 3) := by decide +kernel
theorem dX8_spot_10 : decode cX8_spot 10 = .ok (.iconst (-1), 1) := by decide +kernel
theorem dX8_spot_11 : decode cX8_spot 11 = .ok (.ireturn, 1) := by decide +kernel
theorem dX8_spot_12 : decode cX8_spot 12 = .ok (.aload_n 0, 1) := by decide +kernel
theorem dX8_spot_13 : decode cX8_spot 13 = .ok (.getfield 240, 3) := by decide +kernel
theorem dX8_spot_16 : decode cX8_spot 16 = .ok (.bipush 8, 2) := by decide +kernel
theorem dX8_spot_18 : decode cX8_spot 18 = .ok (.if_icmp .ne 6, 3) := by decide +kernel
theorem dX8_spot_21 : decode cX8_spot 21 = .ok (.bipush (-3), 2) := by decide +kernel
theorem dX8_spot_23 : decode cX8_spot 23 = .ok (.ireturn, 1) := by decide +kernel
theorem dX8_spot_24 : decode cX8_spot 24 = .ok (.aload_n 0, 1) := by decide +kernel
theorem dX8_spot_25 : decode cX8_spot 25 = .ok (.getfield 27, 3) := by decide +kernel
theorem dX8_spot_28 : decode cX8_spot 28 = .ok (.aload_n 0, 1) := by decide +kernel
theorem dX8_spot_29 : decode cX8_spot 29 = .ok (.getfield 240, 3) := by decide +kernel
theorem dX8_spot_32 : decode cX8_spot 32 = .ok (.iload_n 1, 1) := by decide +kernel
theorem dX8_spot_33 : decode cX8_spot 33 = .ok (.iastore, 1) := by decide +kernel
theorem dX8_spot_34 : decode cX8_spot 34 = .ok (.aload_n 0, 1) := by decide +kernel
theorem dX8_spot_35 : decode cX8_spot 35 = .ok (.getfield 30, 3) := by decide +kernel
theorem dX8_spot_38 : decode cX8_spot 38 = .ok (.aload_n 0, 1) := by decide +kernel
theorem dX8_spot_39 : decode cX8_spot 39 = .ok (.getfield 240, 3) := by decide +kernel
theorem dX8_spot_42 : decode cX8_spot 42 = .ok (.iload_n 2, 1) := by decide +kernel
theorem dX8_spot_43 : decode cX8_spot 43 = .ok (.iastore, 1) := by decide +kernel
theorem dX8_spot_44 : decode cX8_spot 44 = .ok (.aload_n 0, 1) := by decide +kernel
theorem dX8_spot_45 : decode cX8_spot 45 = .ok (.dup, 1) := by decide +kernel
theorem dX8_spot_46 : decode cX8_spot 46 = .ok (.getfield 240, 3) := by decide +kernel
theorem dX8_spot_49 : decode cX8_spot 49 = .ok (.iconst 1, 1) := by decide +kernel
theorem dX8_spot_50 : decode cX8_spot 50 = .ok (.iadd, 1) := by decide +kernel
theorem dX8_spot_51 : decode cX8_spot 51 = .ok (.putfield 240, 3) := by decide +kernel
theorem dX8_spot_54 : decode cX8_spot 54 = .ok (.aload_n 0, 1) := by decide +kernel
theorem dX8_spot_55 : decode cX8_spot 55 = .ok (.getfield 240, 3) := by decide +kernel
theorem dX8_spot_58 : decode cX8_spot 58 = .ok (.ireturn, 1) := by decide +kernel
theorem dX8_forget_0 : decode cX8_forget 0 = .ok (.aload_n 0, 1) := by decide +kernel
theorem dX8_forget_1 : decode cX8_forget 1 = .ok (.getfield 240, 3) := by decide +kernel
theorem dX8_forget_4 : decode cX8_forget 4 = .ok (.istore_n 1, 1) := by decide +kernel
theorem dX8_forget_5 : decode cX8_forget 5 = .ok (.aload_n 0, 1) := by decide +kernel
theorem dX8_forget_6 : decode cX8_forget 6 = .ok (.iconst 0, 1) := by decide +kernel
theorem dX8_forget_7 : decode cX8_forget 7 = .ok (.putfield 240, 3) := by decide +kernel
theorem dX8_forget_10 : decode cX8_forget 10 = .ok (.iload_n 1, 1) := by decide +kernel
theorem dX8_forget_11 : decode cX8_forget 11 = .ok (.ireturn, 1) := by decide +kernel
theorem dX8_bright_0 : decode cX8_bright 0 = .ok (.iload_n 1, 1) := by decide +kernel
theorem dX8_bright_1 : decode cX8_bright 1 = .ok (.iload_n 2, 1) := by decide +kernel
theorem dX8_bright_2 : decode cX8_bright 2 = .ok (.invokestatic 135, 3) := by decide +kernel
theorem dX8_bright_5 : decode cX8_bright 5 = .ok (.ifCond .eq 19, 3) := by decide +kernel
theorem dX8_bright_8 : decode cX8_bright 8 = .ok (.iload_n 3, 1) := by decide +kernel
theorem dX8_bright_9 : decode cX8_bright 9 = .ok (.bipush (-9), 2) := by decide +kernel
theorem dX8_bright_11 : decode cX8_bright 11 = .ok (.if_icmp .eq 16, 3) := by decide +kernel
theorem dX8_bright_14 : decode cX8_bright 14 = .ok (.iload_n 3, 1) := by decide +kernel
theorem dX8_bright_15 : decode cX8_bright 15 = .ok (.iconst 0, 1) := by decide +kernel
theorem dX8_bright_16 : decode cX8_bright 16 = .ok (.bipush 99, 2) := by decide +kernel
theorem dX8_bright_18 : decode cX8_bright 18 = .ok (.invokestatic 74, 3) := by decide +kernel
theorem dX8_bright_21 : decode cX8_bright 21 = .ok (.ifCond .ne 6, 3) := by decide +kernel
theorem dX8_bright_24 : decode cX8_bright 24 = .ok (.bipush (-2), 2) := by decide +kernel
theorem dX8_bright_26 : decode cX8_bright 26 = .ok (.ireturn, 1) := by decide +kernel
theorem dX8_bright_27 : decode cX8_bright 27 = .ok (.aload_n 0, 1) := by decide +kernel
theorem dX8_bright_28 : decode cX8_bright 28 = .ok (.getfield 33, 3) := by decide +kernel
theorem dX8_bright_31 : decode cX8_bright 31 = .ok (.iload_n 1, 1) := by decide +kernel
theorem dX8_bright_32 : decode cX8_bright 32 = .ok (.iload_n 2, 1) := by decide +kernel
theorem dX8_bright_33 : decode cX8_bright 33 = .ok (.invokestatic 138, 3) := by decide +kernel
theorem dX8_bright_36 : decode cX8_bright 36 = .ok (.iaload, 1) := by decide +kernel
theorem dX8_bright_37 : decode cX8_bright 37 = .ok (.istore 4, 2) := by decide +kernel
theorem dX8_bright_39 : decode cX8_bright 39 = .ok (.aload_n 0, 1) := by decide +kernel
theorem dX8_bright_40 : decode cX8_bright 40 = .ok (.getfield 33, 3) := by decide +kernel
theorem dX8_bright_43 : decode cX8_bright 43 = .ok (.iload_n 1, 1) := by decide +kernel
theorem dX8_bright_44 : decode cX8_bright 44 = .ok (.iload_n 2, 1) := by decide +kernel
theorem dX8_bright_45 : decode cX8_bright 45 = .ok (.invokestatic 138, 3) := by decide +kernel
theorem dX8_bright_48 : decode cX8_bright 48 = .ok (.iload_n 3, 1) := by decide +kernel
theorem dX8_bright_49 : decode cX8_bright 49 = .ok (.iastore, 1) := by decide +kernel
theorem dX8_bright_50 : decode cX8_bright 50 = .ok (.iload 4, 2) := by decide +kernel
theorem dX8_bright_52 : decode cX8_bright 52 = .ok (.ireturn, 1) := by decide +kernel
theorem dX8_farOf_0 : decode cX8_farOf 0 = .ok (.iconst 0, 1) := by decide +kernel
theorem dX8_farOf_1 : decode cX8_farOf 1 = .ok (.istore_n 3, 1) := by decide +kernel
theorem dX8_farOf_2 : decode cX8_farOf 2 = .ok (.iconst 0, 1) := by decide +kernel
theorem dX8_farOf_3 : decode cX8_farOf 3 = .ok (.istore 4, 2) := by decide +kernel
theorem dX8_farOf_5 : decode cX8_farOf 5 = .ok (.iconst 0, 1) := by decide +kernel
theorem dX8_farOf_6 : decode cX8_farOf 6 = .ok (.istore 5, 2) := by decide +kernel
theorem dX8_farOf_8 : decode cX8_farOf 8 = .ok (.iload 5, 2) := by decide +kernel
theorem dX8_farOf_10 : decode cX8_farOf 10 = .ok (.sipush 2401, 3) := by decide +kernel
theorem dX8_farOf_13 : decode cX8_farOf 13 = .ok (.if_icmp .ge 82, 3) := by decide +kernel
theorem dX8_farOf_16 : decode cX8_farOf 16 = .ok (.aload_n 0, 1) := by decide +kernel
theorem dX8_farOf_17 : decode cX8_farOf 17 = .ok (.getfield 33, 3) := by decide +kernel
theorem dX8_farOf_20 : decode cX8_farOf 20 = .ok (.iload 5, 2) := by decide +kernel
theorem dX8_farOf_22 : decode cX8_farOf 22 = .ok (.iaload, 1) := by decide +kernel
theorem dX8_farOf_23 : decode cX8_farOf 23 = .ok (.bipush (-9), 2) := by decide +kernel
theorem dX8_farOf_25 : decode cX8_farOf 25 = .ok (.if_icmp .eq 64, 3) := by decide +kernel
theorem dX8_farOf_28 : decode cX8_farOf 28 = .ok (.aload_n 0, 1) := by decide +kernel
theorem dX8_farOf_29 : decode cX8_farOf 29 = .ok (.iload 5, 2) := by decide +kernel
theorem dX8_farOf_31 : decode cX8_farOf 31 = .ok (.bipush 49, 2) := by decide +kernel
theorem dX8_farOf_33 : decode cX8_farOf 33 = .ok (.irem, 1) := by decide +kernel
theorem dX8_farOf_34 : decode cX8_farOf 34 = .ok (.bipush 24, 2) := by decide +kernel
theorem dX8_farOf_36 : decode cX8_farOf 36 = .ok (.isub, 1) := by decide +kernel
theorem dX8_farOf_37 : decode cX8_farOf 37 = .ok (.iload 5, 2) := by decide +kernel
theorem dX8_farOf_39 : decode cX8_farOf 39 = .ok (.bipush 49, 2) := by decide +kernel
theorem dX8_farOf_41 : decode cX8_farOf 41 = .ok (.idiv, 1) := by decide +kernel
theorem dX8_farOf_42 : decode cX8_farOf 42 = .ok (.bipush 24, 2) := by decide +kernel
theorem dX8_farOf_44 : decode cX8_farOf 44 = .ok (.isub, 1) := by decide +kernel
theorem dX8_farOf_45 : decode cX8_farOf 45 = .ok (.invokevirtual 148, 3) := by decide +kernel
theorem dX8_farOf_48 : decode cX8_farOf 48 = .ok (.iload_n 1, 1) := by decide +kernel
theorem dX8_farOf_49 : decode cX8_farOf 49 = .ok (.if_icmp .ne 40, 3) := by decide +kernel
theorem dX8_farOf_52 : decode cX8_farOf 52 = .ok (.aload_n 0, 1) := by decide +kernel
theorem dX8_farOf_53 : decode cX8_farOf 53 = .ok (.iload 5, 2) := by decide +kernel
theorem dX8_farOf_55 : decode cX8_farOf 55 = .ok (.bipush 49, 2) := by decide +kernel
theorem dX8_farOf_57 : decode cX8_farOf 57 = .ok (.irem, 1) := by decide +kernel
theorem dX8_farOf_58 : decode cX8_farOf 58 = .ok (.bipush 24, 2) := by decide +kernel
theorem dX8_farOf_60 : decode cX8_farOf 60 = .ok (.isub, 1) := by decide +kernel
theorem dX8_farOf_61 : decode cX8_farOf 61 = .ok (.iload 5, 2) := by decide +kernel
theorem dX8_farOf_63 : decode cX8_farOf 63 = .ok (.bipush 49, 2) := by decide +kernel
theorem dX8_farOf_65 : decode cX8_farOf 65 = .ok (.idiv, 1) := by decide +kernel
theorem dX8_farOf_66 : decode cX8_farOf 66 = .ok (.bipush 24, 2) := by decide +kernel
theorem dX8_farOf_68 : decode cX8_farOf 68 = .ok (.isub, 1) := by decide +kernel
theorem dX8_farOf_69 : decode cX8_farOf 69 = .ok (.invokevirtual 151, 3) := by decide +kernel
theorem dX8_farOf_72 : decode cX8_farOf 72 = .ok (.iload_n 2, 1) := by decide +kernel
theorem dX8_farOf_73 : decode cX8_farOf 73 = .ok (.if_icmp .ne 16, 3) := by decide +kernel
theorem dX8_farOf_76 : decode cX8_farOf 76 = .ok (.iload_n 3, 1) := by decide +kernel
theorem dX8_farOf_77 : decode cX8_farOf 77 = .ok (.aload_n 0, 1) := by decide +kernel
theorem dX8_farOf_78 : decode cX8_farOf 78 = .ok (.getfield 33, 3) := by decide +kernel
theorem dX8_farOf_81 : decode cX8_farOf 81 = .ok (.iload 5, 2) := by decide +kernel
theorem dX8_farOf_83 : decode cX8_farOf 83 = .ok (.iaload, 1) := by decide +kernel
theorem dX8_farOf_84 : decode cX8_farOf 84 = .ok (.iadd, 1) := by decide +kernel
theorem dX8_farOf_85 : decode cX8_farOf 85 = .ok (.istore_n 3, 1) := by decide +kernel
theorem dX8_farOf_86 : decode cX8_farOf 86 = .ok (.iinc 4 1, 3) := by decide +kernel
theorem dX8_farOf_89 : decode cX8_farOf 89 = .ok (.iinc 5 1, 3) := by decide +kernel
theorem dX8_farOf_92 : decode cX8_farOf 92 = .ok (.goto (-84), 3) := by decide +kernel
theorem dX8_farOf_95 : decode cX8_farOf 95 = .ok (.iload 4, 2) := by decide +kernel
theorem dX8_farOf_97 : decode cX8_farOf 97 = .ok (.ifCond .ne 8, 3) := by decide +kernel
theorem dX8_farOf_100 : decode cX8_farOf 100 = .ok (.bipush (-9), 2) := by decide +kernel
theorem dX8_farOf_102 : decode cX8_farOf 102 = .ok (.goto 7, 3) := by decide +kernel
theorem dX8_farOf_105 : decode cX8_farOf 105 = .ok (.iload_n 3, 1) := by decide +kernel
theorem dX8_farOf_106 : decode cX8_farOf 106 = .ok (.iload 4, 2) := by decide +kernel
theorem dX8_farOf_108 : decode cX8_farOf 108 = .ok (.idiv, 1) := by decide +kernel
theorem dX8_farOf_109 : decode cX8_farOf 109 = .ok (.ireturn, 1) := by decide +kernel
theorem dX8_far_0 : decode cX8_far 0 = .ok (.iload_n 1, 1) := by decide +kernel
theorem dX8_far_1 : decode cX8_far 1 = .ok (.iload_n 2, 1) := by decide +kernel
theorem dX8_far_2 : decode cX8_far 2 = .ok (.bipush 99, 2) := by decide +kernel
theorem dX8_far_4 : decode cX8_far 4 = .ok (.invokestatic 81, 3) := by decide +kernel
theorem dX8_far_7 : decode cX8_far 7 = .ok (.ifCond .ne 5, 3) := by decide +kernel
theorem dX8_far_10 : decode cX8_far 10 = .ok (.iconst (-1), 1) := by decide +kernel
theorem dX8_far_11 : decode cX8_far 11 = .ok (.ireturn, 1) := by decide +kernel
theorem dX8_far_12 : decode cX8_far 12 = .ok (.aload_n 0, 1) := by decide +kernel
theorem dX8_far_13 : decode cX8_far 13 = .ok (.invokevirtual 256, 3) := by decide +kernel
theorem dX8_far_16 : decode cX8_far 16 = .ok (.aload_n 0, 1) := by decide +kernel
theorem dX8_far_17 : decode cX8_far 17 = .ok (.iload_n 1, 1) := by decide +kernel
theorem dX8_far_18 : decode cX8_far 18 = .ok (.iload_n 2, 1) := by decide +kernel
theorem dX8_far_19 : decode cX8_far 19 = .ok (.invokevirtual 259, 3) := by decide +kernel
theorem dX8_far_22 : decode cX8_far 22 = .ok (.ireturn, 1) := by decide +kernel
theorem dX8_contradicts_0 : decode cX8_contradicts 0 = .ok (.aload_n 0, 1) := by decide +kernel
theorem dX8_contradicts_1 : decode cX8_contradicts 1 = .ok (.invokevirtual 256, 3) := by decide +kernel
theorem dX8_contradicts_4 : decode cX8_contradicts 4 = .ok (.iconst 0, 1) := by decide +kernel
theorem dX8_contradicts_5 : decode cX8_contradicts 5 = .ok (.istore_n 1, 1) := by decide +kernel
theorem dX8_contradicts_6 : decode cX8_contradicts 6 = .ok (.iload_n 1, 1) := by decide +kernel
theorem dX8_contradicts_7 : decode cX8_contradicts 7 = .ok (.sipush 2401, 3) := by decide +kernel
theorem dX8_contradicts_10 : decode cX8_contradicts 10 = .ok (.if_icmp .ge 17, 3) := by decide +kernel
theorem dX8_contradicts_13 : decode cX8_contradicts 13 = .ok (.aload_n 0, 1) := by decide +kernel
theorem dX8_contradicts_14 : decode cX8_contradicts 14 = .ok (.getfield 46, 3) := by decide +kernel
theorem dX8_contradicts_17 : decode cX8_contradicts 17 = .ok (.iload_n 1, 1) := by decide +kernel
theorem dX8_contradicts_18 : decode cX8_contradicts 18 = .ok (.bipush (-9), 2) := by decide +kernel
theorem dX8_contradicts_20 : decode cX8_contradicts 20 = .ok (.iastore, 1) := by decide +kernel
theorem dX8_contradicts_21 : decode cX8_contradicts 21 = .ok (.iinc 1 1, 3) := by decide +kernel
theorem dX8_contradicts_24 : decode cX8_contradicts 24 = .ok (.goto (-18), 3) := by decide +kernel
theorem dX8_contradicts_27 : decode cX8_contradicts 27 = .ok (.iconst 0, 1) := by decide +kernel
theorem dX8_contradicts_28 : decode cX8_contradicts 28 = .ok (.istore_n 1, 1) := by decide +kernel
theorem dX8_contradicts_29 : decode cX8_contradicts 29 = .ok (.iconst 0, 1) := by decide +kernel
theorem dX8_contradicts_30 : decode cX8_contradicts 30 = .ok (.istore_n 2, 1) := by decide +kernel
theorem dX8_contradicts_31 : decode cX8_contradicts 31 = .ok (.iload_n 2, 1) := by decide +kernel
theorem dX8_contradicts_32 : decode cX8_contradicts 32 = .ok (.sipush 2401, 3) := by decide +kernel
theorem dX8_contradicts_35 : decode cX8_contradicts 35 = .ok (.if_icmp .ge 233, 3) := by decide +kernel
theorem dX8_contradicts_38 : decode cX8_contradicts 38 = .ok (.aload_n 0, 1) := by decide +kernel
theorem dX8_contradicts_39 : decode cX8_contradicts 39 = .ok (.getfield 33, 3) := by decide +kernel
theorem dX8_contradicts_42 : decode cX8_contradicts 42 = .ok (.iload_n 2, 1) := by decide +kernel
theorem dX8_contradicts_43 : decode cX8_contradicts 43 = .ok (.iaload, 1) := by decide +kernel
theorem dX8_contradicts_44 : decode cX8_contradicts 44 = .ok (.bipush (-9), 2) := by decide +kernel
theorem dX8_contradicts_46 : decode cX8_contradicts 46 = .ok (.if_icmp .eq 216, 3) := by decide +kernel
theorem dX8_contradicts_49 : decode cX8_contradicts 49 = .ok (.aload_n 0, 1) := by decide +kernel
theorem dX8_contradicts_50 : decode cX8_contradicts 50 = .ok (.getfield 46, 3) := by decide +kernel
theorem dX8_contradicts_53 : decode cX8_contradicts 53 = .ok (.iload_n 2, 1) := by decide +kernel
theorem dX8_contradicts_54 : decode cX8_contradicts 54 = .ok (.iaload, 1) := by decide +kernel
theorem dX8_contradicts_55 : decode cX8_contradicts 55 = .ok (.bipush (-9), 2) := by decide +kernel
theorem dX8_contradicts_57 : decode cX8_contradicts 57 = .ok (.if_icmp .ne 205, 3) := by decide +kernel
theorem dX8_contradicts_60 : decode cX8_contradicts 60 = .ok (.aload_n 0, 1) := by decide +kernel
theorem dX8_contradicts_61 : decode cX8_contradicts 61 = .ok (.getfield 33, 3) := by decide +kernel
theorem dX8_contradicts_64 : decode cX8_contradicts 64 = .ok (.iload_n 2, 1) := by decide +kernel
theorem dX8_contradicts_65 : decode cX8_contradicts 65 = .ok (.iaload, 1) := by decide +kernel
theorem dX8_contradicts_66 : decode cX8_contradicts 66 = .ok (.istore_n 3, 1) := by decide +kernel
theorem dX8_contradicts_67 : decode cX8_contradicts 67 = .ok (.aload_n 0, 1) := by decide +kernel
theorem dX8_contradicts_68 : decode cX8_contradicts 68 = .ok (.getfield 33, 3) := by decide +kernel
theorem dX8_contradicts_71 : decode cX8_contradicts 71 = .ok (.iload_n 2, 1) := by decide +kernel
theorem dX8_contradicts_72 : decode cX8_contradicts 72 = .ok (.iaload, 1) := by decide +kernel
theorem dX8_contradicts_73 : decode cX8_contradicts 73 = .ok (.istore 4, 2) := by decide +kernel
theorem dX8_contradicts_75 : decode cX8_contradicts 75 = .ok (.iload_n 2, 1) := by decide +kernel
theorem dX8_contradicts_76 : decode cX8_contradicts 76 = .ok (.istore 5, 2) := by decide +kernel
theorem dX8_contradicts_78 : decode cX8_contradicts 78 = .ok (.iload 5, 2) := by decide +kernel
theorem dX8_contradicts_80 : decode cX8_contradicts 80 = .ok (.sipush 2401, 3) := by decide +kernel
theorem dX8_contradicts_83 : decode cX8_contradicts 83 = .ok (.if_icmp .ge 160, 3) := by decide +kernel
theorem dX8_contradicts_86 : decode cX8_contradicts 86 = .ok (.aload_n 0, 1) := by decide +kernel
theorem dX8_contradicts_87 : decode cX8_contradicts 87 = .ok (.getfield 33, 3) := by decide +kernel
theorem dX8_contradicts_90 : decode cX8_contradicts 90 = .ok (.iload 5, 2) := by decide +kernel
theorem dX8_contradicts_92 : decode cX8_contradicts 92 = .ok (.iaload, 1) := by decide +kernel
theorem dX8_contradicts_93 : decode cX8_contradicts 93 = .ok (.bipush (-9), 2) := by decide +kernel
theorem dX8_contradicts_95 : decode cX8_contradicts 95 = .ok (.if_icmp .eq 142, 3) := by decide +kernel
theorem dX8_contradicts_98 : decode cX8_contradicts 98 = .ok (.aload_n 0, 1) := by decide +kernel
theorem dX8_contradicts_99 : decode cX8_contradicts 99 = .ok (.iload 5, 2) := by decide +kernel
theorem dX8_contradicts_101 : decode cX8_contradicts 101 = .ok (.bipush 49, 2) := by decide +kernel
theorem dX8_contradicts_103 : decode cX8_contradicts 103 = .ok (.irem, 1) := by decide +kernel
theorem dX8_contradicts_104 : decode cX8_contradicts 104 = .ok (.bipush 24, 2) := by decide +kernel
theorem dX8_contradicts_106 : decode cX8_contradicts 106 = .ok (.isub, 1) := by decide +kernel
theorem dX8_contradicts_107 : decode cX8_contradicts 107 = .ok (.iload 5, 2) := by decide +kernel
theorem dX8_contradicts_109 : decode cX8_contradicts 109 = .ok (.bipush 49, 2) := by decide +kernel
theorem dX8_contradicts_111 : decode cX8_contradicts 111 = .ok (.idiv, 1) := by decide +kernel
theorem dX8_contradicts_112 : decode cX8_contradicts 112 = .ok (.bipush 24, 2) := by decide +kernel
theorem dX8_contradicts_114 : decode cX8_contradicts 114 = .ok (.isub, 1) := by decide +kernel
theorem dX8_contradicts_115 : decode cX8_contradicts 115 = .ok (.invokevirtual 148, 3) := by decide +kernel
theorem dX8_contradicts_118 : decode cX8_contradicts 118 = .ok (.aload_n 0, 1) := by decide +kernel
theorem dX8_contradicts_119 : decode cX8_contradicts 119 = .ok (.iload_n 2, 1) := by decide +kernel
theorem dX8_contradicts_120 : decode cX8_contradicts 120 = .ok (.bipush 49, 2) := by decide +kernel
theorem dX8_contradicts_122 : decode cX8_contradicts 122 = .ok (.irem, 1) := by decide +kernel
theorem dX8_contradicts_123 : decode cX8_contradicts 123 = .ok (.bipush 24, 2) := by decide +kernel
theorem dX8_contradicts_125 : decode cX8_contradicts 125 = .ok (.isub, 1) := by decide +kernel
theorem dX8_contradicts_126 : decode cX8_contradicts 126 = .ok (.iload_n 2, 1) := by decide +kernel
theorem dX8_contradicts_127 : decode cX8_contradicts 127 = .ok (.bipush 49, 2) := by decide +kernel
theorem dX8_contradicts_129 : decode cX8_contradicts 129 = .ok (.idiv, 1) := by decide +kernel
theorem dX8_contradicts_130 : decode cX8_contradicts 130 = .ok (.bipush 24, 2) := by decide +kernel
theorem dX8_contradicts_132 : decode cX8_contradicts 132 = .ok (.isub, 1) := by decide +kernel
theorem dX8_contradicts_133 : decode cX8_contradicts 133 = .ok (.invokevirtual 148, 3) := by decide +kernel
theorem dX8_contradicts_136 : decode cX8_contradicts 136 = .ok (.if_icmp .ne 101, 3) := by decide +kernel
theorem dX8_contradicts_139 : decode cX8_contradicts 139 = .ok (.aload_n 0, 1) := by decide +kernel
theorem dX8_contradicts_140 : decode cX8_contradicts 140 = .ok (.iload 5, 2) := by decide +kernel
theorem dX8_contradicts_142 : decode cX8_contradicts 142 = .ok (.bipush 49, 2) := by decide +kernel
theorem dX8_contradicts_144 : decode cX8_contradicts 144 = .ok (.irem, 1) := by decide +kernel
theorem dX8_contradicts_145 : decode cX8_contradicts 145 = .ok (.bipush 24, 2) := by decide +kernel
theorem dX8_contradicts_147 : decode cX8_contradicts 147 = .ok (.isub, 1) := by decide +kernel
theorem dX8_contradicts_148 : decode cX8_contradicts 148 = .ok (.iload 5, 2) := by decide +kernel
theorem dX8_contradicts_150 : decode cX8_contradicts 150 = .ok (.bipush 49, 2) := by decide +kernel
theorem dX8_contradicts_152 : decode cX8_contradicts 152 = .ok (.idiv, 1) := by decide +kernel
theorem dX8_contradicts_153 : decode cX8_contradicts 153 = .ok (.bipush 24, 2) := by decide +kernel
theorem dX8_contradicts_155 : decode cX8_contradicts 155 = .ok (.isub, 1) := by decide +kernel
theorem dX8_contradicts_156 : decode cX8_contradicts 156 = .ok (.invokevirtual 151, 3) := by decide +kernel
theorem dX8_contradicts_159 : decode cX8_contradicts 159 = .ok (.aload_n 0, 1) := by decide +kernel
theorem dX8_contradicts_160 : decode cX8_contradicts 160 = .ok (.iload_n 2, 1) := by decide +kernel
theorem dX8_contradicts_161 : decode cX8_contradicts 161 = .ok (.bipush 49, 2) := by decide +kernel
theorem dX8_contradicts_163 : decode cX8_contradicts 163 = .ok (.irem, 1) := by decide +kernel
theorem dX8_contradicts_164 : decode cX8_contradicts 164 = .ok (.bipush 24, 2) := by decide +kernel
theorem dX8_contradicts_166 : decode cX8_contradicts 166 = .ok (.isub, 1) := by decide +kernel
theorem dX8_contradicts_167 : decode cX8_contradicts 167 = .ok (.iload_n 2, 1) := by decide +kernel
theorem dX8_contradicts_168 : decode cX8_contradicts 168 = .ok (.bipush 49, 2) := by decide +kernel
theorem dX8_contradicts_170 : decode cX8_contradicts 170 = .ok (.idiv, 1) := by decide +kernel
theorem dX8_contradicts_171 : decode cX8_contradicts 171 = .ok (.bipush 24, 2) := by decide +kernel
theorem dX8_contradicts_173 : decode cX8_contradicts 173 = .ok (.isub, 1) := by decide +kernel
theorem dX8_contradicts_174 : decode cX8_contradicts 174 = .ok (.invokevirtual 151, 3) := by decide +kernel
theorem dX8_contradicts_177 : decode cX8_contradicts 177 = .ok (.if_icmp .ne 60, 3) := by decide +kernel
theorem dX8_contradicts_180 : decode cX8_contradicts 180 = .ok (.aload_n 0, 1) := by decide +kernel
theorem dX8_contradicts_181 : decode cX8_contradicts 181 = .ok (.getfield 46, 3) := by decide +kernel
theorem dX8_contradicts_184 : decode cX8_contradicts 184 = .ok (.iload 5, 2) := by decide +kernel
theorem dX8_contradicts_186 : decode cX8_contradicts 186 = .ok (.iload_n 2, 1) := by decide +kernel
theorem dX8_contradicts_187 : decode cX8_contradicts 187 = .ok (.iastore, 1) := by decide +kernel
theorem dX8_contradicts_188 : decode cX8_contradicts 188 = .ok (.aload_n 0, 1) := by decide +kernel
theorem dX8_contradicts_189 : decode cX8_contradicts 189 = .ok (.getfield 33, 3) := by decide +kernel
theorem dX8_contradicts_192 : decode cX8_contradicts 192 = .ok (.iload 5, 2) := by decide +kernel
theorem dX8_contradicts_194 : decode cX8_contradicts 194 = .ok (.iaload, 1) := by decide +kernel
theorem dX8_contradicts_195 : decode cX8_contradicts 195 = .ok (.iload_n 3, 1) := by decide +kernel
theorem dX8_contradicts_196 : decode cX8_contradicts 196 = .ok (.if_icmp .ge 13, 3) := by decide +kernel
theorem dX8_contradicts_199 : decode cX8_contradicts 199 = .ok (.aload_n 0, 1) := by decide +kernel
theorem dX8_contradicts_200 : decode cX8_contradicts 200 = .ok (.getfield 33, 3) := by decide +kernel
theorem dX8_contradicts_203 : decode cX8_contradicts 203 = .ok (.iload 5, 2) := by decide +kernel
theorem dX8_contradicts_205 : decode cX8_contradicts 205 = .ok (.iaload, 1) := by decide +kernel
theorem dX8_contradicts_206 : decode cX8_contradicts 206 = .ok (.goto 4, 3) := by decide +kernel
theorem dX8_contradicts_209 : decode cX8_contradicts 209 = .ok (.iload_n 3, 1) := by decide +kernel
theorem dX8_contradicts_210 : decode cX8_contradicts 210 = .ok (.istore_n 3, 1) := by decide +kernel
theorem dX8_contradicts_211 : decode cX8_contradicts 211 = .ok (.aload_n 0, 1) := by decide +kernel
theorem dX8_contradicts_212 : decode cX8_contradicts 212 = .ok (.getfield 33, 3) := by decide +kernel
theorem dX8_contradicts_215 : decode cX8_contradicts 215 = .ok (.iload 5, 2) := by decide +kernel
theorem dX8_contradicts_217 : decode cX8_contradicts 217 = .ok (.iaload, 1) := by decide +kernel
theorem dX8_contradicts_218 : decode cX8_contradicts 218 = .ok (.iload 4, 2) := by decide +kernel
theorem dX8_contradicts_220 : decode cX8_contradicts 220 = .ok (.if_icmp .le 13, 3) := by decide +kernel
theorem dX8_contradicts_223 : decode cX8_contradicts 223 = .ok (.aload_n 0, 1) := by decide +kernel
theorem dX8_contradicts_224 : decode cX8_contradicts 224 = .ok (.getfield 33, 3) := by decide +kernel
theorem dX8_contradicts_227 : decode cX8_contradicts 227 = .ok (.iload 5, 2) := by decide +kernel
theorem dX8_contradicts_229 : decode cX8_contradicts 229 = .ok (.iaload, 1) := by decide +kernel
theorem dX8_contradicts_230 : decode cX8_contradicts 230 = .ok (.goto 5, 3) := by decide +kernel
theorem dX8_contradicts_233 : decode cX8_contradicts 233 = .ok (.iload 4, 2) := by decide +kernel
theorem dX8_contradicts_235 : decode cX8_contradicts 235 = .ok (.istore 4, 2) := by decide +kernel
theorem dX8_contradicts_237 : decode cX8_contradicts 237 = .ok (.iinc 5 1, 3) := by decide +kernel
theorem dX8_contradicts_240 : decode cX8_contradicts 240 = .ok (.goto (-162), 3) := by decide +kernel
theorem dX8_contradicts_243 : decode cX8_contradicts 243 = .ok (.iload_n 1, 1) := by decide +kernel
theorem dX8_contradicts_244 : decode cX8_contradicts 244 = .ok (.iload 4, 2) := by decide +kernel
theorem dX8_contradicts_246 : decode cX8_contradicts 246 = .ok (.iload_n 3, 1) := by decide +kernel
theorem dX8_contradicts_247 : decode cX8_contradicts 247 = .ok (.isub, 1) := by decide +kernel
theorem dX8_contradicts_248 : decode cX8_contradicts 248 = .ok (.aload_n 0, 1) := by decide +kernel
theorem dX8_contradicts_249 : decode cX8_contradicts 249 = .ok (.getfield 24, 3) := by decide +kernel
theorem dX8_contradicts_252 : decode cX8_contradicts 252 = .ok (.if_icmp .le 7, 3) := by decide +kernel
theorem dX8_contradicts_255 : decode cX8_contradicts 255 = .ok (.iconst 1, 1) := by decide +kernel
theorem dX8_contradicts_256 : decode cX8_contradicts 256 = .ok (.goto 4, 3) := by decide +kernel
theorem dX8_contradicts_259 : decode cX8_contradicts 259 = .ok (.iconst 0, 1) := by decide +kernel
theorem dX8_contradicts_260 : decode cX8_contradicts 260 = .ok (.iadd, 1) := by decide +kernel
theorem dX8_contradicts_261 : decode cX8_contradicts 261 = .ok (.istore_n 1, 1) := by decide +kernel
theorem dX8_contradicts_262 : decode cX8_contradicts 262 = .ok (.iinc 2 1, 3) := by decide +kernel
theorem dX8_contradicts_265 : decode cX8_contradicts 265 = .ok (.goto (-234), 3) := by decide +kernel
theorem dX8_contradicts_268 : decode cX8_contradicts 268 = .ok (.iload_n 1, 1) := by decide +kernel
theorem dX8_contradicts_269 : decode cX8_contradicts 269 = .ok (.ireturn, 1) := by decide +kernel
theorem dX8_filled_0 : decode cX8_filled 0 = .ok (.iload_n 1, 1) := by decide +kernel
theorem dX8_filled_1 : decode cX8_filled 1 = .ok (.iload_n 2, 1) := by decide +kernel
theorem dX8_filled_2 : decode cX8_filled 2 = .ok (.invokestatic 135, 3) := by decide +kernel
theorem dX8_filled_5 : decode cX8_filled 5 = .ok (.ifCond .ne 5, 3) := by decide +kernel
theorem dX8_filled_8 : decode cX8_filled 8 = .ok (.iconst (-1), 1) := by decide +kernel
theorem dX8_filled_9 : decode cX8_filled 9 = .ok (.ireturn, 1) := by decide +kernel
theorem dX8_filled_10 : decode cX8_filled 10 = .ok (.aload_n 0, 1) := by decide +kernel
theorem dX8_filled_11 : decode cX8_filled 11 = .ok (.getfield 33, 3) := by decide +kernel
theorem dX8_filled_14 : decode cX8_filled 14 = .ok (.iload_n 1, 1) := by decide +kernel
theorem dX8_filled_15 : decode cX8_filled 15 = .ok (.iload_n 2, 1) := by decide +kernel
theorem dX8_filled_16 : decode cX8_filled 16 = .ok (.invokestatic 138, 3) := by decide +kernel
theorem dX8_filled_19 : decode cX8_filled 19 = .ok (.iaload, 1) := by decide +kernel
theorem dX8_filled_20 : decode cX8_filled 20 = .ok (.bipush (-9), 2) := by decide +kernel
theorem dX8_filled_22 : decode cX8_filled 22 = .ok (.if_icmp .eq 14, 3) := by decide +kernel
theorem dX8_filled_25 : decode cX8_filled 25 = .ok (.aload_n 0, 1) := by decide +kernel
theorem dX8_filled_26 : decode cX8_filled 26 = .ok (.getfield 33, 3) := by decide +kernel
theorem dX8_filled_29 : decode cX8_filled 29 = .ok (.iload_n 1, 1) := by decide +kernel
theorem dX8_filled_30 : decode cX8_filled 30 = .ok (.iload_n 2, 1) := by decide +kernel
theorem dX8_filled_31 : decode cX8_filled 31 = .ok (.invokestatic 138, 3) := by decide +kernel
theorem dX8_filled_34 : decode cX8_filled 34 = .ok (.iaload, 1) := by decide +kernel
theorem dX8_filled_35 : decode cX8_filled 35 = .ok (.ireturn, 1) := by decide +kernel
theorem dX8_filled_36 : decode cX8_filled 36 = .ok (.aload_n 0, 1) := by decide +kernel
theorem dX8_filled_37 : decode cX8_filled 37 = .ok (.invokevirtual 256, 3) := by decide +kernel
theorem dX8_filled_40 : decode cX8_filled 40 = .ok (.aload_n 0, 1) := by decide +kernel
theorem dX8_filled_41 : decode cX8_filled 41 = .ok (.aload_n 0, 1) := by decide +kernel
theorem dX8_filled_42 : decode cX8_filled 42 = .ok (.iload_n 1, 1) := by decide +kernel
theorem dX8_filled_43 : decode cX8_filled 43 = .ok (.iload_n 2, 1) := by decide +kernel
theorem dX8_filled_44 : decode cX8_filled 44 = .ok (.iconst 0, 1) := by decide +kernel
theorem dX8_filled_45 : decode cX8_filled 45 = .ok (.invokevirtual 121, 3) := by decide +kernel
theorem dX8_filled_48 : decode cX8_filled 48 = .ok (.aload_n 0, 1) := by decide +kernel
theorem dX8_filled_49 : decode cX8_filled 49 = .ok (.iload_n 1, 1) := by decide +kernel
theorem dX8_filled_50 : decode cX8_filled 50 = .ok (.iload_n 2, 1) := by decide +kernel
theorem dX8_filled_51 : decode cX8_filled 51 = .ok (.iconst 1, 1) := by decide +kernel
theorem dX8_filled_52 : decode cX8_filled 52 = .ok (.invokevirtual 121, 3) := by decide +kernel
theorem dX8_filled_55 : decode cX8_filled 55 = .ok (.invokevirtual 259, 3) := by decide +kernel
theorem dX8_filled_58 : decode cX8_filled 58 = .ok (.ireturn, 1) := by decide +kernel
theorem dX8_count_0 : decode cX8_count 0 = .ok (.iconst 0, 1) := by decide +kernel
theorem dX8_count_1 : decode cX8_count 1 = .ok (.istore_n 2, 1) := by decide +kernel
theorem dX8_count_2 : decode cX8_count 2 = .ok (.iload_n 1, 1) := by decide +kernel
theorem dX8_count_3 : decode cX8_count 3 = .ok (.tableswitch 125 0 5 #[37, 42, 47, 52, 88, 93], 37) := by decide +kernel
theorem dX8_count_40 : decode cX8_count 40 = .ok (.aload_n 0, 1) := by decide +kernel
theorem dX8_count_41 : decode cX8_count 41 = .ok (.getfield 78, 3) := by decide +kernel
theorem dX8_count_44 : decode cX8_count 44 = .ok (.ireturn, 1) := by decide +kernel
theorem dX8_count_45 : decode cX8_count 45 = .ok (.aload_n 0, 1) := by decide +kernel
theorem dX8_count_46 : decode cX8_count 46 = .ok (.getfield 203, 3) := by decide +kernel
theorem dX8_count_49 : decode cX8_count 49 = .ok (.ireturn, 1) := by decide +kernel
theorem dX8_count_50 : decode cX8_count 50 = .ok (.aload_n 0, 1) := by decide +kernel
theorem dX8_count_51 : decode cX8_count 51 = .ok (.getfield 240, 3) := by decide +kernel
theorem dX8_count_54 : decode cX8_count 54 = .ok (.ireturn, 1) := by decide +kernel
theorem dX8_count_55 : decode cX8_count 55 = .ok (.iconst 0, 1) := by decide +kernel
theorem dX8_count_56 : decode cX8_count 56 = .ok (.istore_n 3, 1) := by decide +kernel
theorem dX8_count_57 : decode cX8_count 57 = .ok (.iload_n 3, 1) := by decide +kernel
theorem dX8_count_58 : decode cX8_count 58 = .ok (.sipush 2401, 3) := by decide +kernel
theorem dX8_count_61 : decode cX8_count 61 = .ok (.if_icmp .ge 28, 3) := by decide +kernel
theorem dX8_count_64 : decode cX8_count 64 = .ok (.iload_n 2, 1) := by decide +kernel
theorem dX8_count_65 : decode cX8_count 65 = .ok (.aload_n 0, 1) := by decide +kernel
theorem dX8_count_66 : decode cX8_count 66 = .ok (.getfield 33, 3) := by decide +kernel
theorem dX8_count_69 : decode cX8_count 69 = .ok (.iload_n 3, 1) := by decide +kernel
theorem dX8_count_70 : decode cX8_count 70 = .ok (.iaload, 1) := by decide +kernel
theorem dX8_count_71 : decode cX8_count 71 = .ok (.bipush (-9), 2) := by decide +kernel
theorem dX8_count_73 : decode cX8_count 73 = .ok (.if_icmp .ne 7, 3) := by decide +kernel
theorem dX8_count_76 : decode cX8_count 76 = .ok (.iconst 0, 1) := by decide +kernel
theorem dX8_count_77 : decode cX8_count 77 = .ok (.goto 4, 3) := by decide +kernel
theorem dX8_count_80 : decode cX8_count 80 = .ok (.iconst 1, 1) := by decide +kernel
theorem dX8_count_81 : decode cX8_count 81 = .ok (.iadd, 1) := by decide +kernel
theorem dX8_count_82 : decode cX8_count 82 = .ok (.istore_n 2, 1) := by decide +kernel
theorem dX8_count_83 : decode cX8_count 83 = .ok (.iinc 3 1, 3) := by decide +kernel
theorem dX8_count_86 : decode cX8_count 86 = .ok (.goto (-29), 3) := by decide +kernel
theorem dX8_count_89 : decode cX8_count 89 = .ok (.iload_n 2, 1) := by decide +kernel
theorem dX8_count_90 : decode cX8_count 90 = .ok (.ireturn, 1) := by decide +kernel
theorem dX8_count_91 : decode cX8_count 91 = .ok (.aload_n 0, 1) := by decide +kernel
theorem dX8_count_92 : decode cX8_count 92 = .ok (.getfield 174, 3) := by decide +kernel
theorem dX8_count_95 : decode cX8_count 95 = .ok (.ireturn, 1) := by decide +kernel
theorem dX8_count_96 : decode cX8_count 96 = .ok (.iconst 0, 1) := by decide +kernel
theorem dX8_count_97 : decode cX8_count 97 = .ok (.istore_n 3, 1) := by decide +kernel
theorem dX8_count_98 : decode cX8_count 98 = .ok (.iload_n 3, 1) := by decide +kernel
theorem dX8_count_99 : decode cX8_count 99 = .ok (.aload_n 0, 1) := by decide +kernel
theorem dX8_count_100 : decode cX8_count 100 = .ok (.getfield 78, 3) := by decide +kernel
theorem dX8_count_103 : decode cX8_count 103 = .ok (.if_icmp .ge 23, 3) := by decide +kernel
theorem dX8_count_106 : decode cX8_count 106 = .ok (.iload_n 2, 1) := by decide +kernel
theorem dX8_count_107 : decode cX8_count 107 = .ok (.aload_n 0, 1) := by decide +kernel
theorem dX8_count_108 : decode cX8_count 108 = .ok (.getfield 7, 3) := by decide +kernel
theorem dX8_count_111 : decode cX8_count 111 = .ok (.bipush 6, 2) := by decide +kernel
theorem dX8_count_113 : decode cX8_count 113 = .ok (.iload_n 3, 1) := by decide +kernel
theorem dX8_count_114 : decode cX8_count 114 = .ok (.imul, 1) := by decide +kernel
theorem dX8_count_115 : decode cX8_count 115 = .ok (.iconst 3, 1) := by decide +kernel
theorem dX8_count_116 : decode cX8_count 116 = .ok (.iadd, 1) := by decide +kernel
theorem dX8_count_117 : decode cX8_count 117 = .ok (.iaload, 1) := by decide +kernel
theorem dX8_count_118 : decode cX8_count 118 = .ok (.iadd, 1) := by decide +kernel
theorem dX8_count_119 : decode cX8_count 119 = .ok (.istore_n 2, 1) := by decide +kernel
theorem dX8_count_120 : decode cX8_count 120 = .ok (.iinc 3 1, 3) := by decide +kernel
theorem dX8_count_123 : decode cX8_count 123 = .ok (.goto (-25), 3) := by decide +kernel
theorem dX8_count_126 : decode cX8_count 126 = .ok (.iload_n 2, 1) := by decide +kernel
theorem dX8_count_127 : decode cX8_count 127 = .ok (.ireturn, 1) := by decide +kernel
theorem dX8_count_128 : decode cX8_count 128 = .ok (.iconst (-1), 1) := by decide +kernel
theorem dX8_count_129 : decode cX8_count 129 = .ok (.ireturn, 1) := by decide +kernel
theorem dX8_trace_0 : decode cX8_trace 0 = .ok (.aload_n 0, 1) := by decide +kernel
theorem dX8_trace_1 : decode cX8_trace 1 = .ok (.getfield 99, 3) := by decide +kernel
theorem dX8_trace_4 : decode cX8_trace 4 = .ok (.lreturn, 1) := by decide +kernel
theorem dJ6_signum_0f7a4_0 : decode cJ6_signum_0f7a4 0 = .ok (.iload_n 0, 1) := by decide +kernel
theorem dJ6_signum_0f7a4_1 : decode cJ6_signum_0f7a4 1 = .ok (.bipush 31, 2) := by decide +kernel
theorem dJ6_signum_0f7a4_3 : decode cJ6_signum_0f7a4 3 = .ok (.ishr, 1) := by decide +kernel
theorem dJ6_signum_0f7a4_4 : decode cJ6_signum_0f7a4 4 = .ok (.iload_n 0, 1) := by decide +kernel
theorem dJ6_signum_0f7a4_5 : decode cJ6_signum_0f7a4 5 = .ok (.ineg, 1) := by decide +kernel
theorem dJ6_signum_0f7a4_6 : decode cJ6_signum_0f7a4 6 = .ok (.bipush 31, 2) := by decide +kernel
theorem dJ6_signum_0f7a4_8 : decode cJ6_signum_0f7a4 8 = .ok (.iushr, 1) := by decide +kernel
theorem dJ6_signum_0f7a4_9 : decode cJ6_signum_0f7a4 9 = .ok (.ior, 1) := by decide +kernel
theorem dJ6_signum_0f7a4_10 : decode cJ6_signum_0f7a4 10 = .ok (.ireturn, 1) := by decide +kernel
theorem dJ13_compare_74951_0 : decode cJ13_compare_74951 0 = .ok (.lload_n 0, 1) := by decide +kernel
theorem dJ13_compare_74951_1 : decode cJ13_compare_74951 1 = .ok (.lload_n 2, 1) := by decide +kernel
theorem dJ13_compare_74951_2 : decode cJ13_compare_74951 2 = .ok (.lcmp, 1) := by decide +kernel
theorem dJ13_compare_74951_3 : decode cJ13_compare_74951 3 = .ok (.ifCond .ge 7, 3) := by decide +kernel
theorem dJ13_compare_74951_6 : decode cJ13_compare_74951 6 = .ok (.iconst (-1), 1) := by decide +kernel
theorem dJ13_compare_74951_7 : decode cJ13_compare_74951 7 = .ok (.goto 14, 3) := by decide +kernel
theorem dJ13_compare_74951_10 : decode cJ13_compare_74951 10 = .ok (.lload_n 0, 1) := by decide +kernel
theorem dJ13_compare_74951_11 : decode cJ13_compare_74951 11 = .ok (.lload_n 2, 1) := by decide +kernel
theorem dJ13_compare_74951_12 : decode cJ13_compare_74951 12 = .ok (.lcmp, 1) := by decide +kernel
theorem dJ13_compare_74951_13 : decode cJ13_compare_74951 13 = .ok (.ifCond .ne 7, 3) := by decide +kernel
theorem dJ13_compare_74951_16 : decode cJ13_compare_74951 16 = .ok (.iconst 0, 1) := by decide +kernel
theorem dJ13_compare_74951_17 : decode cJ13_compare_74951 17 = .ok (.goto 4, 3) := by decide +kernel
theorem dJ13_compare_74951_20 : decode cJ13_compare_74951 20 = .ok (.iconst 1, 1) := by decide +kernel
theorem dJ13_compare_74951_21 : decode cJ13_compare_74951 21 = .ok (.ireturn, 1) := by decide +kernel
theorem dJ9_floorDiv_7cf53_0 : decode cJ9_floorDiv_7cf53 0 = .ok (.iload_n 0, 1) := by decide +kernel
theorem dJ9_floorDiv_7cf53_1 : decode cJ9_floorDiv_7cf53 1 = .ok (.iload_n 1, 1) := by decide +kernel
theorem dJ9_floorDiv_7cf53_2 : decode cJ9_floorDiv_7cf53 2 = .ok (.idiv, 1) := by decide +kernel
theorem dJ9_floorDiv_7cf53_3 : decode cJ9_floorDiv_7cf53 3 = .ok (.istore_n 2, 1) := by decide +kernel
theorem dJ9_floorDiv_7cf53_4 : decode cJ9_floorDiv_7cf53 4 = .ok (.iload_n 0, 1) := by decide +kernel
theorem dJ9_floorDiv_7cf53_5 : decode cJ9_floorDiv_7cf53 5 = .ok (.iload_n 1, 1) := by decide +kernel
theorem dJ9_floorDiv_7cf53_6 : decode cJ9_floorDiv_7cf53 6 = .ok (.ixor, 1) := by decide +kernel
theorem dJ9_floorDiv_7cf53_7 : decode cJ9_floorDiv_7cf53 7 = .ok (.ifCond .ge 14, 3) := by decide +kernel
theorem dJ9_floorDiv_7cf53_10 : decode cJ9_floorDiv_7cf53 10 = .ok (.iload_n 2, 1) := by decide +kernel
theorem dJ9_floorDiv_7cf53_11 : decode cJ9_floorDiv_7cf53 11 = .ok (.iload_n 1, 1) := by decide +kernel
theorem dJ9_floorDiv_7cf53_12 : decode cJ9_floorDiv_7cf53 12 = .ok (.imul, 1) := by decide +kernel
theorem dJ9_floorDiv_7cf53_13 : decode cJ9_floorDiv_7cf53 13 = .ok (.iload_n 0, 1) := by decide +kernel
theorem dJ9_floorDiv_7cf53_14 : decode cJ9_floorDiv_7cf53 14 = .ok (.if_icmp .eq 7, 3) := by decide +kernel
theorem dJ9_floorDiv_7cf53_17 : decode cJ9_floorDiv_7cf53 17 = .ok (.iload_n 2, 1) := by decide +kernel
theorem dJ9_floorDiv_7cf53_18 : decode cJ9_floorDiv_7cf53 18 = .ok (.iconst 1, 1) := by decide +kernel
theorem dJ9_floorDiv_7cf53_19 : decode cJ9_floorDiv_7cf53 19 = .ok (.isub, 1) := by decide +kernel
theorem dJ9_floorDiv_7cf53_20 : decode cJ9_floorDiv_7cf53 20 = .ok (.ireturn, 1) := by decide +kernel
theorem dJ9_floorDiv_7cf53_21 : decode cJ9_floorDiv_7cf53 21 = .ok (.iload_n 2, 1) := by decide +kernel
theorem dJ9_floorDiv_7cf53_22 : decode cJ9_floorDiv_7cf53 22 = .ok (.ireturn, 1) := by decide +kernel
theorem dJ9_floorDiv_f86c9_0 : decode cJ9_floorDiv_f86c9 0 = .ok (.lload_n 0, 1) := by decide +kernel
theorem dJ9_floorDiv_f86c9_1 : decode cJ9_floorDiv_f86c9 1 = .ok (.lload_n 2, 1) := by decide +kernel
theorem dJ9_floorDiv_f86c9_2 : decode cJ9_floorDiv_f86c9 2 = .ok (.ldiv, 1) := by decide +kernel
theorem dJ9_floorDiv_f86c9_3 : decode cJ9_floorDiv_f86c9 3 = .ok (.lstore 4, 2) := by decide +kernel
theorem dJ9_floorDiv_f86c9_5 : decode cJ9_floorDiv_f86c9 5 = .ok (.lload_n 0, 1) := by decide +kernel
theorem dJ9_floorDiv_f86c9_6 : decode cJ9_floorDiv_f86c9 6 = .ok (.lload_n 2, 1) := by decide +kernel
theorem dJ9_floorDiv_f86c9_7 : decode cJ9_floorDiv_f86c9 7 = .ok (.lxor, 1) := by decide +kernel
theorem dJ9_floorDiv_f86c9_8 : decode cJ9_floorDiv_f86c9 8 = .ok (.lconst 0, 1) := by decide +kernel
theorem dJ9_floorDiv_f86c9_9 : decode cJ9_floorDiv_f86c9 9 = .ok (.lcmp, 1) := by decide +kernel
theorem dJ9_floorDiv_f86c9_10 : decode cJ9_floorDiv_f86c9 10 = .ok (.ifCond .ge 17, 3) := by decide +kernel
theorem dJ9_floorDiv_f86c9_13 : decode cJ9_floorDiv_f86c9 13 = .ok (.lload 4, 2) := by decide +kernel
theorem dJ9_floorDiv_f86c9_15 : decode cJ9_floorDiv_f86c9 15 = .ok (.lload_n 2, 1) := by decide +kernel
theorem dJ9_floorDiv_f86c9_16 : decode cJ9_floorDiv_f86c9 16 = .ok (.lmul, 1) := by decide +kernel
theorem dJ9_floorDiv_f86c9_17 : decode cJ9_floorDiv_f86c9 17 = .ok (.lload_n 0, 1) := by decide +kernel
theorem dJ9_floorDiv_f86c9_18 : decode cJ9_floorDiv_f86c9 18 = .ok (.lcmp, 1) := by decide +kernel
theorem dJ9_floorDiv_f86c9_19 : decode cJ9_floorDiv_f86c9 19 = .ok (.ifCond .eq 8, 3) := by decide +kernel
theorem dJ9_floorDiv_f86c9_22 : decode cJ9_floorDiv_f86c9 22 = .ok (.lload 4, 2) := by decide +kernel
theorem dJ9_floorDiv_f86c9_24 : decode cJ9_floorDiv_f86c9 24 = .ok (.lconst 1, 1) := by decide +kernel
theorem dJ9_floorDiv_f86c9_25 : decode cJ9_floorDiv_f86c9 25 = .ok (.lsub, 1) := by decide +kernel
theorem dJ9_floorDiv_f86c9_26 : decode cJ9_floorDiv_f86c9 26 = .ok (.lreturn, 1) := by decide +kernel
theorem dJ9_floorDiv_f86c9_27 : decode cJ9_floorDiv_f86c9 27 = .ok (.lload 4, 2) := by decide +kernel
theorem dJ9_floorDiv_f86c9_29 : decode cJ9_floorDiv_f86c9 29 = .ok (.lreturn, 1) := by decide +kernel
theorem dJ9_abs_0f7a4_0 : decode cJ9_abs_0f7a4 0 = .ok (.iload_n 0, 1) := by decide +kernel
theorem dJ9_abs_0f7a4_1 : decode cJ9_abs_0f7a4 1 = .ok (.ifCond .ge 8, 3) := by decide +kernel
theorem dJ9_abs_0f7a4_4 : decode cJ9_abs_0f7a4 4 = .ok (.iload_n 0, 1) := by decide +kernel
theorem dJ9_abs_0f7a4_5 : decode cJ9_abs_0f7a4 5 = .ok (.ineg, 1) := by decide +kernel
theorem dJ9_abs_0f7a4_6 : decode cJ9_abs_0f7a4 6 = .ok (.goto 4, 3) := by decide +kernel
theorem dJ9_abs_0f7a4_9 : decode cJ9_abs_0f7a4 9 = .ok (.iload_n 0, 1) := by decide +kernel
theorem dJ9_abs_0f7a4_10 : decode cJ9_abs_0f7a4 10 = .ok (.ireturn, 1) := by decide +kernel
theorem dJ9_max_7cf53_0 : decode cJ9_max_7cf53 0 = .ok (.iload_n 0, 1) := by decide +kernel
theorem dJ9_max_7cf53_1 : decode cJ9_max_7cf53 1 = .ok (.iload_n 1, 1) := by decide +kernel
theorem dJ9_max_7cf53_2 : decode cJ9_max_7cf53 2 = .ok (.if_icmp .lt 7, 3) := by decide +kernel
theorem dJ9_max_7cf53_5 : decode cJ9_max_7cf53 5 = .ok (.iload_n 0, 1) := by decide +kernel
theorem dJ9_max_7cf53_6 : decode cJ9_max_7cf53 6 = .ok (.goto 4, 3) := by decide +kernel
theorem dJ9_max_7cf53_9 : decode cJ9_max_7cf53 9 = .ok (.iload_n 1, 1) := by decide +kernel
theorem dJ9_max_7cf53_10 : decode cJ9_max_7cf53 10 = .ok (.ireturn, 1) := by decide +kernel
theorem dJ9_min_7cf53_0 : decode cJ9_min_7cf53 0 = .ok (.iload_n 0, 1) := by decide +kernel
theorem dJ9_min_7cf53_1 : decode cJ9_min_7cf53 1 = .ok (.iload_n 1, 1) := by decide +kernel
theorem dJ9_min_7cf53_2 : decode cJ9_min_7cf53 2 = .ok (.if_icmp .gt 7, 3) := by decide +kernel
theorem dJ9_min_7cf53_5 : decode cJ9_min_7cf53 5 = .ok (.iload_n 0, 1) := by decide +kernel
theorem dJ9_min_7cf53_6 : decode cJ9_min_7cf53 6 = .ok (.goto 4, 3) := by decide +kernel
theorem dJ9_min_7cf53_9 : decode cJ9_min_7cf53 9 = .ok (.iload_n 1, 1) := by decide +kernel
theorem dJ9_min_7cf53_10 : decode cJ9_min_7cf53 10 = .ok (.ireturn, 1) := by decide +kernel
theorem dJ7_fill_53178_0 : decode cJ7_fill_53178 0 = .ok (.iconst 0, 1) := by decide +kernel
theorem dJ7_fill_53178_1 : decode cJ7_fill_53178 1 = .ok (.istore_n 2, 1) := by decide +kernel
theorem dJ7_fill_53178_2 : decode cJ7_fill_53178 2 = .ok (.aload_n 0, 1) := by decide +kernel
theorem dJ7_fill_53178_3 : decode cJ7_fill_53178 3 = .ok (.arraylength, 1) := by decide +kernel
theorem dJ7_fill_53178_4 : decode cJ7_fill_53178 4 = .ok (.istore_n 3, 1) := by decide +kernel
theorem dJ7_fill_53178_5 : decode cJ7_fill_53178 5 = .ok (.iload_n 2, 1) := by decide +kernel
theorem dJ7_fill_53178_6 : decode cJ7_fill_53178 6 = .ok (.iload_n 3, 1) := by decide +kernel
theorem dJ7_fill_53178_7 : decode cJ7_fill_53178 7 = .ok (.if_icmp .ge 13, 3) := by decide +kernel
theorem dJ7_fill_53178_10 : decode cJ7_fill_53178 10 = .ok (.aload_n 0, 1) := by decide +kernel
theorem dJ7_fill_53178_11 : decode cJ7_fill_53178 11 = .ok (.iload_n 2, 1) := by decide +kernel
theorem dJ7_fill_53178_12 : decode cJ7_fill_53178 12 = .ok (.iload_n 1, 1) := by decide +kernel
theorem dJ7_fill_53178_13 : decode cJ7_fill_53178 13 = .ok (.iastore, 1) := by decide +kernel
theorem dJ7_fill_53178_14 : decode cJ7_fill_53178 14 = .ok (.iinc 2 1, 3) := by decide +kernel
theorem dJ7_fill_53178_17 : decode cJ7_fill_53178 17 = .ok (.goto (-12), 3) := by decide +kernel
theorem dJ7_fill_53178_20 : decode cJ7_fill_53178 20 = .ok (.return_, 1) := by decide +kernel
theorem dL_law_0 : decode cL_law 0 = .ok (.new 7, 3) := by decide +kernel
theorem dL_law_3 : decode cL_law 3 = .ok (.dup, 1) := by decide +kernel
theorem dL_law_4 : decode cL_law 4 = .ok (.invokespecial 9, 3) := by decide +kernel
theorem dL_law_7 : decode cL_law 7 = .ok (.astore_n 1, 1) := by decide +kernel
theorem dL_law_8 : decode cL_law 8 = .ok (.new 10, 3) := by decide +kernel
theorem dL_law_11 : decode cL_law 11 = .ok (.dup, 1) := by decide +kernel
theorem dL_law_12 : decode cL_law 12 = .ok (.invokespecial 12, 3) := by decide +kernel
theorem dL_law_15 : decode cL_law 15 = .ok (.astore_n 2, 1) := by decide +kernel
theorem dL_law_16 : decode cL_law 16 = .ok (.iconst 0, 1) := by decide +kernel
theorem dL_law_17 : decode cL_law 17 = .ok (.istore_n 3, 1) := by decide +kernel
theorem dL_law_18 : decode cL_law 18 = .ok (.iload_n 3, 1) := by decide +kernel
theorem dL_law_19 : decode cL_law 19 = .ok (.aload_n 0, 1) := by decide +kernel
theorem dL_law_20 : decode cL_law 20 = .ok (.arraylength, 1) := by decide +kernel
theorem dL_law_21 : decode cL_law 21 = .ok (.bipush 7, 2) := by decide +kernel
theorem dL_law_23 : decode cL_law 23 = .ok (.isub, 1) := by decide +kernel
theorem dL_law_24 : decode cL_law 24 = .ok (.if_icmp .gt 1278, 3) := by decide +kernel
theorem dL_law_27 : decode cL_law 27 = .ok (.aload_n 0, 1) := by decide +kernel
theorem dL_law_28 : decode cL_law 28 = .ok (.iload_n 3, 1) := by decide +kernel
theorem dL_law_29 : decode cL_law 29 = .ok (.iaload, 1) := by decide +kernel
theorem dL_law_30 : decode cL_law 30 = .ok (.bipush 31, 2) := by decide +kernel
theorem dL_law_32 : decode cL_law 32 = .ok (.iand, 1) := by decide +kernel
theorem dL_law_33 : decode cL_law 33 = .ok (.tableswitch 1263 0 31 #[143, 196, 239, 252, 285, 348, 391, 434, 477, 530, 563, 596, 619, 642, 718, 741, 804, 817, 830, 883, 896, 929, 972, 1015, 1058, 1091, 1104, 1147, 1180, 1193, 1226, 1249], 143) := by decide +kernel
theorem dL_law_176 : decode cL_law 176 = .ok (.aload_n 1, 1) := by decide +kernel
theorem dL_law_177 : decode cL_law 177 = .ok (.aload_n 0, 1) := by decide +kernel
theorem dL_law_178 : decode cL_law 178 = .ok (.iload_n 3, 1) := by decide +kernel
theorem dL_law_179 : decode cL_law 179 = .ok (.iconst 1, 1) := by decide +kernel
theorem dL_law_180 : decode cL_law 180 = .ok (.iadd, 1) := by decide +kernel
theorem dL_law_181 : decode cL_law 181 = .ok (.iaload, 1) := by decide +kernel
theorem dL_law_182 : decode cL_law 182 = .ok (.aload_n 0, 1) := by decide +kernel
theorem dL_law_183 : decode cL_law 183 = .ok (.iload_n 3, 1) := by decide +kernel
theorem dL_law_184 : decode cL_law 184 = .ok (.iconst 2, 1) := by decide +kernel
theorem dL_law_185 : decode cL_law 185 = .ok (.iadd, 1) := by decide +kernel
theorem dL_law_186 : decode cL_law 186 = .ok (.iaload, 1) := by decide +kernel
theorem dL_law_187 : decode cL_law 187 = .ok (.aload_n 0, 1) := by decide +kernel
theorem dL_law_188 : decode cL_law 188 = .ok (.iload_n 3, 1) := by decide +kernel
theorem dL_law_189 : decode cL_law 189 = .ok (.iconst 3, 1) := by decide +kernel
theorem dL_law_190 : decode cL_law 190 = .ok (.iadd, 1) := by decide +kernel
theorem dL_law_191 : decode cL_law 191 = .ok (.iaload, 1) := by decide +kernel
theorem dL_law_192 : decode cL_law 192 = .ok (.aload_n 0, 1) := by decide +kernel
theorem dL_law_193 : decode cL_law 193 = .ok (.iload_n 3, 1) := by decide +kernel
theorem dL_law_194 : decode cL_law 194 = .ok (.iconst 4, 1) := by decide +kernel
theorem dL_law_195 : decode cL_law 195 = .ok (.iadd, 1) := by decide +kernel
theorem dL_law_196 : decode cL_law 196 = .ok (.iaload, 1) := by decide +kernel
theorem dL_law_197 : decode cL_law 197 = .ok (.invokevirtual 13, 3) := by decide +kernel
theorem dL_law_200 : decode cL_law 200 = .ok (.aload_n 2, 1) := by decide +kernel
theorem dL_law_201 : decode cL_law 201 = .ok (.aload_n 0, 1) := by decide +kernel
theorem dL_law_202 : decode cL_law 202 = .ok (.iload_n 3, 1) := by decide +kernel
theorem dL_law_203 : decode cL_law 203 = .ok (.iconst 1, 1) := by decide +kernel
theorem dL_law_204 : decode cL_law 204 = .ok (.iadd, 1) := by decide +kernel
theorem dL_law_205 : decode cL_law 205 = .ok (.iaload, 1) := by decide +kernel
theorem dL_law_206 : decode cL_law 206 = .ok (.aload_n 0, 1) := by decide +kernel
theorem dL_law_207 : decode cL_law 207 = .ok (.iload_n 3, 1) := by decide +kernel
theorem dL_law_208 : decode cL_law 208 = .ok (.iconst 2, 1) := by decide +kernel
theorem dL_law_209 : decode cL_law 209 = .ok (.iadd, 1) := by decide +kernel
theorem dL_law_210 : decode cL_law 210 = .ok (.iaload, 1) := by decide +kernel
theorem dL_law_211 : decode cL_law 211 = .ok (.aload_n 0, 1) := by decide +kernel
theorem dL_law_212 : decode cL_law 212 = .ok (.iload_n 3, 1) := by decide +kernel
theorem dL_law_213 : decode cL_law 213 = .ok (.iconst 3, 1) := by decide +kernel
theorem dL_law_214 : decode cL_law 214 = .ok (.iadd, 1) := by decide +kernel
theorem dL_law_215 : decode cL_law 215 = .ok (.iaload, 1) := by decide +kernel
theorem dL_law_216 : decode cL_law 216 = .ok (.aload_n 0, 1) := by decide +kernel
theorem dL_law_217 : decode cL_law 217 = .ok (.iload_n 3, 1) := by decide +kernel
theorem dL_law_218 : decode cL_law 218 = .ok (.iconst 4, 1) := by decide +kernel
theorem dL_law_219 : decode cL_law 219 = .ok (.iadd, 1) := by decide +kernel
theorem dL_law_220 : decode cL_law 220 = .ok (.iaload, 1) := by decide +kernel
theorem dL_law_221 : decode cL_law 221 = .ok (.invokevirtual 17, 3) := by decide +kernel
theorem dL_law_224 : decode cL_law 224 = .ok (.if_icmp .eq 1072, 3) := by decide +kernel
theorem dL_law_227 : decode cL_law 227 = .ok (.iconst 0, 1) := by decide +kernel
theorem dL_law_228 : decode cL_law 228 = .ok (.ireturn, 1) := by decide +kernel
theorem dL_law_229 : decode cL_law 229 = .ok (.aload_n 1, 1) := by decide +kernel
theorem dL_law_230 : decode cL_law 230 = .ok (.aload_n 0, 1) := by decide +kernel
theorem dL_law_231 : decode cL_law 231 = .ok (.iload_n 3, 1) := by decide +kernel
theorem dL_law_232 : decode cL_law 232 = .ok (.iconst 1, 1) := by decide +kernel
theorem dL_law_233 : decode cL_law 233 = .ok (.iadd, 1) := by decide +kernel
theorem dL_law_234 : decode cL_law 234 = .ok (.iaload, 1) := by decide +kernel
theorem dL_law_235 : decode cL_law 235 = .ok (.aload_n 0, 1) := by decide +kernel
theorem dL_law_236 : decode cL_law 236 = .ok (.iload_n 3, 1) := by decide +kernel
theorem dL_law_237 : decode cL_law 237 = .ok (.iconst 2, 1) := by decide +kernel
theorem dL_law_238 : decode cL_law 238 = .ok (.iadd, 1) := by decide +kernel
theorem dL_law_239 : decode cL_law 239 = .ok (.iaload, 1) := by decide +kernel
theorem dL_law_240 : decode cL_law 240 = .ok (.aload_n 0, 1) := by decide +kernel
theorem dL_law_241 : decode cL_law 241 = .ok (.iload_n 3, 1) := by decide +kernel
theorem dL_law_242 : decode cL_law 242 = .ok (.iconst 3, 1) := by decide +kernel
theorem dL_law_243 : decode cL_law 243 = .ok (.iadd, 1) := by decide +kernel
theorem dL_law_244 : decode cL_law 244 = .ok (.iaload, 1) := by decide +kernel
theorem dL_law_245 : decode cL_law 245 = .ok (.invokevirtual 18, 3) := by decide +kernel
theorem dL_law_248 : decode cL_law 248 = .ok (.aload_n 2, 1) := by decide +kernel
theorem dL_law_249 : decode cL_law 249 = .ok (.aload_n 0, 1) := by decide +kernel
theorem dL_law_250 : decode cL_law 250 = .ok (.iload_n 3, 1) := by decide +kernel
theorem dL_law_251 : decode cL_law 251 = .ok (.iconst 1, 1) := by decide +kernel
theorem dL_law_252 : decode cL_law 252 = .ok (.iadd, 1) := by decide +kernel
theorem dL_law_253 : decode cL_law 253 = .ok (.iaload, 1) := by decide +kernel
theorem dL_law_254 : decode cL_law 254 = .ok (.aload_n 0, 1) := by decide +kernel
theorem dL_law_255 : decode cL_law 255 = .ok (.iload_n 3, 1) := by decide +kernel
theorem dL_law_256 : decode cL_law 256 = .ok (.iconst 2, 1) := by decide +kernel
theorem dL_law_257 : decode cL_law 257 = .ok (.iadd, 1) := by decide +kernel
theorem dL_law_258 : decode cL_law 258 = .ok (.iaload, 1) := by decide +kernel
theorem dL_law_259 : decode cL_law 259 = .ok (.aload_n 0, 1) := by decide +kernel
theorem dL_law_260 : decode cL_law 260 = .ok (.iload_n 3, 1) := by decide +kernel
theorem dL_law_261 : decode cL_law 261 = .ok (.iconst 3, 1) := by decide +kernel
theorem dL_law_262 : decode cL_law 262 = .ok (.iadd, 1) := by decide +kernel
theorem dL_law_263 : decode cL_law 263 = .ok (.iaload, 1) := by decide +kernel
theorem dL_law_264 : decode cL_law 264 = .ok (.invokevirtual 22, 3) := by decide +kernel
theorem dL_law_267 : decode cL_law 267 = .ok (.if_icmp .eq 1029, 3) := by decide +kernel
theorem dL_law_270 : decode cL_law 270 = .ok (.iconst 0, 1) := by decide +kernel
theorem dL_law_271 : decode cL_law 271 = .ok (.ireturn, 1) := by decide +kernel
theorem dL_law_272 : decode cL_law 272 = .ok (.aload_n 1, 1) := by decide +kernel
theorem dL_law_273 : decode cL_law 273 = .ok (.invokevirtual 23, 3) := by decide +kernel
theorem dL_law_276 : decode cL_law 276 = .ok (.aload_n 2, 1) := by decide +kernel
theorem dL_law_277 : decode cL_law 277 = .ok (.invokevirtual 27, 3) := by decide +kernel
theorem dL_law_280 : decode cL_law 280 = .ok (.if_icmp .eq 1016, 3) := by decide +kernel
theorem dL_law_283 : decode cL_law 283 = .ok (.iconst 0, 1) := by decide +kernel
theorem dL_law_284 : decode cL_law 284 = .ok (.ireturn, 1) := by decide +kernel
theorem dL_law_285 : decode cL_law 285 = .ok (.aload_n 1, 1) := by decide +kernel
theorem dL_law_286 : decode cL_law 286 = .ok (.aload_n 0, 1) := by decide +kernel
theorem dL_law_287 : decode cL_law 287 = .ok (.iload_n 3, 1) := by decide +kernel
theorem dL_law_288 : decode cL_law 288 = .ok (.iconst 1, 1) := by decide +kernel
theorem dL_law_289 : decode cL_law 289 = .ok (.iadd, 1) := by decide +kernel
theorem dL_law_290 : decode cL_law 290 = .ok (.iaload, 1) := by decide +kernel
theorem dL_law_291 : decode cL_law 291 = .ok (.aload_n 0, 1) := by decide +kernel
theorem dL_law_292 : decode cL_law 292 = .ok (.iload_n 3, 1) := by decide +kernel
theorem dL_law_293 : decode cL_law 293 = .ok (.iconst 2, 1) := by decide +kernel
theorem dL_law_294 : decode cL_law 294 = .ok (.iadd, 1) := by decide +kernel
theorem dL_law_295 : decode cL_law 295 = .ok (.iaload, 1) := by decide +kernel
theorem dL_law_296 : decode cL_law 296 = .ok (.invokevirtual 28, 3) := by decide +kernel
theorem dL_law_299 : decode cL_law 299 = .ok (.aload_n 2, 1) := by decide +kernel
theorem dL_law_300 : decode cL_law 300 = .ok (.aload_n 0, 1) := by decide +kernel
theorem dL_law_301 : decode cL_law 301 = .ok (.iload_n 3, 1) := by decide +kernel
theorem dL_law_302 : decode cL_law 302 = .ok (.iconst 1, 1) := by decide +kernel
theorem dL_law_303 : decode cL_law 303 = .ok (.iadd, 1) := by decide +kernel
theorem dL_law_304 : decode cL_law 304 = .ok (.iaload, 1) := by decide +kernel
theorem dL_law_305 : decode cL_law 305 = .ok (.aload_n 0, 1) := by decide +kernel
theorem dL_law_306 : decode cL_law 306 = .ok (.iload_n 3, 1) := by decide +kernel
theorem dL_law_307 : decode cL_law 307 = .ok (.iconst 2, 1) := by decide +kernel
theorem dL_law_308 : decode cL_law 308 = .ok (.iadd, 1) := by decide +kernel
theorem dL_law_309 : decode cL_law 309 = .ok (.iaload, 1) := by decide +kernel
theorem dL_law_310 : decode cL_law 310 = .ok (.invokevirtual 32, 3) := by decide +kernel
theorem dL_law_313 : decode cL_law 313 = .ok (.if_icmp .eq 983, 3) := by decide +kernel
theorem dL_law_316 : decode cL_law 316 = .ok (.iconst 0, 1) := by decide +kernel
theorem dL_law_317 : decode cL_law 317 = .ok (.ireturn, 1) := by decide +kernel
theorem dL_law_318 : decode cL_law 318 = .ok (.aload_n 1, 1) := by decide +kernel
theorem dL_law_319 : decode cL_law 319 = .ok (.aload_n 0, 1) := by decide +kernel
theorem dL_law_320 : decode cL_law 320 = .ok (.iload_n 3, 1) := by decide +kernel
theorem dL_law_321 : decode cL_law 321 = .ok (.iconst 1, 1) := by decide +kernel
theorem dL_law_322 : decode cL_law 322 = .ok (.iadd, 1) := by decide +kernel
theorem dL_law_323 : decode cL_law 323 = .ok (.iaload, 1) := by decide +kernel
theorem dL_law_324 : decode cL_law 324 = .ok (.aload_n 0, 1) := by decide +kernel
theorem dL_law_325 : decode cL_law 325 = .ok (.iload_n 3, 1) := by decide +kernel
theorem dL_law_326 : decode cL_law 326 = .ok (.iconst 2, 1) := by decide +kernel
theorem dL_law_327 : decode cL_law 327 = .ok (.iadd, 1) := by decide +kernel
theorem dL_law_328 : decode cL_law 328 = .ok (.iaload, 1) := by decide +kernel
theorem dL_law_329 : decode cL_law 329 = .ok (.aload_n 0, 1) := by decide +kernel
theorem dL_law_330 : decode cL_law 330 = .ok (.iload_n 3, 1) := by decide +kernel
theorem dL_law_331 : decode cL_law 331 = .ok (.iconst 3, 1) := by decide +kernel
theorem dL_law_332 : decode cL_law 332 = .ok (.iadd, 1) := by decide +kernel
theorem dL_law_333 : decode cL_law 333 = .ok (.iaload, 1) := by decide +kernel
theorem dL_law_334 : decode cL_law 334 = .ok (.aload_n 0, 1) := by decide +kernel
theorem dL_law_335 : decode cL_law 335 = .ok (.iload_n 3, 1) := by decide +kernel
theorem dL_law_336 : decode cL_law 336 = .ok (.iconst 4, 1) := by decide +kernel
theorem dL_law_337 : decode cL_law 337 = .ok (.iadd, 1) := by decide +kernel
theorem dL_law_338 : decode cL_law 338 = .ok (.iaload, 1) := by decide +kernel
theorem dL_law_339 : decode cL_law 339 = .ok (.aload_n 0, 1) := by decide +kernel
theorem dL_law_340 : decode cL_law 340 = .ok (.iload_n 3, 1) := by decide +kernel
theorem dL_law_341 : decode cL_law 341 = .ok (.iconst 5, 1) := by decide +kernel
theorem dL_law_342 : decode cL_law 342 = .ok (.iadd, 1) := by decide +kernel
theorem dL_law_343 : decode cL_law 343 = .ok (.iaload, 1) := by decide +kernel
theorem dL_law_344 : decode cL_law 344 = .ok (.invokevirtual 33, 3) := by decide +kernel
theorem dL_law_347 : decode cL_law 347 = .ok (.aload_n 2, 1) := by decide +kernel
theorem dL_law_348 : decode cL_law 348 = .ok (.aload_n 0, 1) := by decide +kernel
theorem dL_law_349 : decode cL_law 349 = .ok (.iload_n 3, 1) := by decide +kernel
theorem dL_law_350 : decode cL_law 350 = .ok (.iconst 1, 1) := by decide +kernel
theorem dL_law_351 : decode cL_law 351 = .ok (.iadd, 1) := by decide +kernel
theorem dL_law_352 : decode cL_law 352 = .ok (.iaload, 1) := by decide +kernel
theorem dL_law_353 : decode cL_law 353 = .ok (.aload_n 0, 1) := by decide +kernel
theorem dL_law_354 : decode cL_law 354 = .ok (.iload_n 3, 1) := by decide +kernel
theorem dL_law_355 : decode cL_law 355 = .ok (.iconst 2, 1) := by decide +kernel
theorem dL_law_356 : decode cL_law 356 = .ok (.iadd, 1) := by decide +kernel
theorem dL_law_357 : decode cL_law 357 = .ok (.iaload, 1) := by decide +kernel
theorem dL_law_358 : decode cL_law 358 = .ok (.aload_n 0, 1) := by decide +kernel
theorem dL_law_359 : decode cL_law 359 = .ok (.iload_n 3, 1) := by decide +kernel
theorem dL_law_360 : decode cL_law 360 = .ok (.iconst 3, 1) := by decide +kernel
theorem dL_law_361 : decode cL_law 361 = .ok (.iadd, 1) := by decide +kernel
theorem dL_law_362 : decode cL_law 362 = .ok (.iaload, 1) := by decide +kernel
theorem dL_law_363 : decode cL_law 363 = .ok (.aload_n 0, 1) := by decide +kernel
theorem dL_law_364 : decode cL_law 364 = .ok (.iload_n 3, 1) := by decide +kernel
theorem dL_law_365 : decode cL_law 365 = .ok (.iconst 4, 1) := by decide +kernel
theorem dL_law_366 : decode cL_law 366 = .ok (.iadd, 1) := by decide +kernel
theorem dL_law_367 : decode cL_law 367 = .ok (.iaload, 1) := by decide +kernel
theorem dL_law_368 : decode cL_law 368 = .ok (.aload_n 0, 1) := by decide +kernel
theorem dL_law_369 : decode cL_law 369 = .ok (.iload_n 3, 1) := by decide +kernel
theorem dL_law_370 : decode cL_law 370 = .ok (.iconst 5, 1) := by decide +kernel
theorem dL_law_371 : decode cL_law 371 = .ok (.iadd, 1) := by decide +kernel
theorem dL_law_372 : decode cL_law 372 = .ok (.iaload, 1) := by decide +kernel
theorem dL_law_373 : decode cL_law 373 = .ok (.invokevirtual 37, 3) := by decide +kernel
theorem dL_law_376 : decode cL_law 376 = .ok (.if_icmp .eq 920, 3) := by decide +kernel
theorem dL_law_379 : decode cL_law 379 = .ok (.iconst 0, 1) := by decide +kernel
theorem dL_law_380 : decode cL_law 380 = .ok (.ireturn, 1) := by decide +kernel
theorem dL_law_381 : decode cL_law 381 = .ok (.aload_n 1, 1) := by decide +kernel
theorem dL_law_382 : decode cL_law 382 = .ok (.aload_n 0, 1) := by decide +kernel
theorem dL_law_383 : decode cL_law 383 = .ok (.iload_n 3, 1) := by decide +kernel
theorem dL_law_384 : decode cL_law 384 = .ok (.iconst 1, 1) := by decide +kernel
theorem dL_law_385 : decode cL_law 385 = .ok (.iadd, 1) := by decide +kernel
theorem dL_law_386 : decode cL_law 386 = .ok (.iaload, 1) := by decide +kernel
theorem dL_law_387 : decode cL_law 387 = .ok (.aload_n 0, 1) := by decide +kernel
theorem dL_law_388 : decode cL_law 388 = .ok (.iload_n 3, 1) := by decide +kernel
theorem dL_law_389 : decode cL_law 389 = .ok (.iconst 2, 1) := by decide +kernel
theorem dL_law_390 : decode cL_law 390 = .ok (.iadd, 1) := by decide +kernel
theorem dL_law_391 : decode cL_law 391 = .ok (.iaload, 1) := by decide +kernel
theorem dL_law_392 : decode cL_law 392 = .ok (.aload_n 0, 1) := by decide +kernel
theorem dL_law_393 : decode cL_law 393 = .ok (.iload_n 3, 1) := by decide +kernel
theorem dL_law_394 : decode cL_law 394 = .ok (.iconst 3, 1) := by decide +kernel
theorem dL_law_395 : decode cL_law 395 = .ok (.iadd, 1) := by decide +kernel
theorem dL_law_396 : decode cL_law 396 = .ok (.iaload, 1) := by decide +kernel
theorem dL_law_397 : decode cL_law 397 = .ok (.invokevirtual 38, 3) := by decide +kernel
theorem dL_law_400 : decode cL_law 400 = .ok (.aload_n 2, 1) := by decide +kernel
theorem dL_law_401 : decode cL_law 401 = .ok (.aload_n 0, 1) := by decide +kernel
theorem dL_law_402 : decode cL_law 402 = .ok (.iload_n 3, 1) := by decide +kernel
theorem dL_law_403 : decode cL_law 403 = .ok (.iconst 1, 1) := by decide +kernel
theorem dL_law_404 : decode cL_law 404 = .ok (.iadd, 1) := by decide +kernel
theorem dL_law_405 : decode cL_law 405 = .ok (.iaload, 1) := by decide +kernel
theorem dL_law_406 : decode cL_law 406 = .ok (.aload_n 0, 1) := by decide +kernel
theorem dL_law_407 : decode cL_law 407 = .ok (.iload_n 3, 1) := by decide +kernel
theorem dL_law_408 : decode cL_law 408 = .ok (.iconst 2, 1) := by decide +kernel
theorem dL_law_409 : decode cL_law 409 = .ok (.iadd, 1) := by decide +kernel
theorem dL_law_410 : decode cL_law 410 = .ok (.iaload, 1) := by decide +kernel
theorem dL_law_411 : decode cL_law 411 = .ok (.aload_n 0, 1) := by decide +kernel
theorem dL_law_412 : decode cL_law 412 = .ok (.iload_n 3, 1) := by decide +kernel
theorem dL_law_413 : decode cL_law 413 = .ok (.iconst 3, 1) := by decide +kernel
theorem dL_law_414 : decode cL_law 414 = .ok (.iadd, 1) := by decide +kernel
theorem dL_law_415 : decode cL_law 415 = .ok (.iaload, 1) := by decide +kernel
theorem dL_law_416 : decode cL_law 416 = .ok (.invokevirtual 41, 3) := by decide +kernel
theorem dL_law_419 : decode cL_law 419 = .ok (.if_icmp .eq 877, 3) := by decide +kernel
theorem dL_law_422 : decode cL_law 422 = .ok (.iconst 0, 1) := by decide +kernel
theorem dL_law_423 : decode cL_law 423 = .ok (.ireturn, 1) := by decide +kernel
theorem dL_law_424 : decode cL_law 424 = .ok (.aload_n 1, 1) := by decide +kernel
theorem dL_law_425 : decode cL_law 425 = .ok (.aload_n 0, 1) := by decide +kernel
theorem dL_law_426 : decode cL_law 426 = .ok (.iload_n 3, 1) := by decide +kernel
theorem dL_law_427 : decode cL_law 427 = .ok (.iconst 1, 1) := by decide +kernel
theorem dL_law_428 : decode cL_law 428 = .ok (.iadd, 1) := by decide +kernel
theorem dL_law_429 : decode cL_law 429 = .ok (.iaload, 1) := by decide +kernel
theorem dL_law_430 : decode cL_law 430 = .ok (.aload_n 0, 1) := by decide +kernel
theorem dL_law_431 : decode cL_law 431 = .ok (.iload_n 3, 1) := by decide +kernel
theorem dL_law_432 : decode cL_law 432 = .ok (.iconst 2, 1) := by decide +kernel
theorem dL_law_433 : decode cL_law 433 = .ok (.iadd, 1) := by decide +kernel
theorem dL_law_434 : decode cL_law 434 = .ok (.iaload, 1) := by decide +kernel
theorem dL_law_435 : decode cL_law 435 = .ok (.aload_n 0, 1) := by decide +kernel
theorem dL_law_436 : decode cL_law 436 = .ok (.iload_n 3, 1) := by decide +kernel
theorem dL_law_437 : decode cL_law 437 = .ok (.iconst 3, 1) := by decide +kernel
theorem dL_law_438 : decode cL_law 438 = .ok (.iadd, 1) := by decide +kernel
theorem dL_law_439 : decode cL_law 439 = .ok (.iaload, 1) := by decide +kernel
theorem dL_law_440 : decode cL_law 440 = .ok (.invokevirtual 42, 3) := by decide +kernel
theorem dL_law_443 : decode cL_law 443 = .ok (.aload_n 2, 1) := by decide +kernel
theorem dL_law_444 : decode cL_law 444 = .ok (.aload_n 0, 1) := by decide +kernel
theorem dL_law_445 : decode cL_law 445 = .ok (.iload_n 3, 1) := by decide +kernel
theorem dL_law_446 : decode cL_law 446 = .ok (.iconst 1, 1) := by decide +kernel
theorem dL_law_447 : decode cL_law 447 = .ok (.iadd, 1) := by decide +kernel
theorem dL_law_448 : decode cL_law 448 = .ok (.iaload, 1) := by decide +kernel
theorem dL_law_449 : decode cL_law 449 = .ok (.aload_n 0, 1) := by decide +kernel
theorem dL_law_450 : decode cL_law 450 = .ok (.iload_n 3, 1) := by decide +kernel
theorem dL_law_451 : decode cL_law 451 = .ok (.iconst 2, 1) := by decide +kernel
theorem dL_law_452 : decode cL_law 452 = .ok (.iadd, 1) := by decide +kernel
theorem dL_law_453 : decode cL_law 453 = .ok (.iaload, 1) := by decide +kernel
theorem dL_law_454 : decode cL_law 454 = .ok (.aload_n 0, 1) := by decide +kernel
theorem dL_law_455 : decode cL_law 455 = .ok (.iload_n 3, 1) := by decide +kernel
theorem dL_law_456 : decode cL_law 456 = .ok (.iconst 3, 1) := by decide +kernel
theorem dL_law_457 : decode cL_law 457 = .ok (.iadd, 1) := by decide +kernel
theorem dL_law_458 : decode cL_law 458 = .ok (.iaload, 1) := by decide +kernel
theorem dL_law_459 : decode cL_law 459 = .ok (.invokevirtual 45, 3) := by decide +kernel
theorem dL_law_462 : decode cL_law 462 = .ok (.if_icmp .eq 834, 3) := by decide +kernel
theorem dL_law_465 : decode cL_law 465 = .ok (.iconst 0, 1) := by decide +kernel
theorem dL_law_466 : decode cL_law 466 = .ok (.ireturn, 1) := by decide +kernel
theorem dL_law_467 : decode cL_law 467 = .ok (.aload_n 1, 1) := by decide +kernel
theorem dL_law_468 : decode cL_law 468 = .ok (.aload_n 0, 1) := by decide +kernel
theorem dL_law_469 : decode cL_law 469 = .ok (.iload_n 3, 1) := by decide +kernel
theorem dL_law_470 : decode cL_law 470 = .ok (.iconst 1, 1) := by decide +kernel
theorem dL_law_471 : decode cL_law 471 = .ok (.iadd, 1) := by decide +kernel
theorem dL_law_472 : decode cL_law 472 = .ok (.iaload, 1) := by decide +kernel
theorem dL_law_473 : decode cL_law 473 = .ok (.aload_n 0, 1) := by decide +kernel
theorem dL_law_474 : decode cL_law 474 = .ok (.iload_n 3, 1) := by decide +kernel
theorem dL_law_475 : decode cL_law 475 = .ok (.iconst 2, 1) := by decide +kernel
theorem dL_law_476 : decode cL_law 476 = .ok (.iadd, 1) := by decide +kernel
theorem dL_law_477 : decode cL_law 477 = .ok (.iaload, 1) := by decide +kernel
theorem dL_law_478 : decode cL_law 478 = .ok (.aload_n 0, 1) := by decide +kernel
theorem dL_law_479 : decode cL_law 479 = .ok (.iload_n 3, 1) := by decide +kernel
theorem dL_law_480 : decode cL_law 480 = .ok (.iconst 3, 1) := by decide +kernel
theorem dL_law_481 : decode cL_law 481 = .ok (.iadd, 1) := by decide +kernel
theorem dL_law_482 : decode cL_law 482 = .ok (.iaload, 1) := by decide +kernel
theorem dL_law_483 : decode cL_law 483 = .ok (.invokevirtual 46, 3) := by decide +kernel
theorem dL_law_486 : decode cL_law 486 = .ok (.aload_n 2, 1) := by decide +kernel
theorem dL_law_487 : decode cL_law 487 = .ok (.aload_n 0, 1) := by decide +kernel
theorem dL_law_488 : decode cL_law 488 = .ok (.iload_n 3, 1) := by decide +kernel
theorem dL_law_489 : decode cL_law 489 = .ok (.iconst 1, 1) := by decide +kernel
theorem dL_law_490 : decode cL_law 490 = .ok (.iadd, 1) := by decide +kernel
theorem dL_law_491 : decode cL_law 491 = .ok (.iaload, 1) := by decide +kernel
theorem dL_law_492 : decode cL_law 492 = .ok (.aload_n 0, 1) := by decide +kernel
theorem dL_law_493 : decode cL_law 493 = .ok (.iload_n 3, 1) := by decide +kernel
theorem dL_law_494 : decode cL_law 494 = .ok (.iconst 2, 1) := by decide +kernel
theorem dL_law_495 : decode cL_law 495 = .ok (.iadd, 1) := by decide +kernel
theorem dL_law_496 : decode cL_law 496 = .ok (.iaload, 1) := by decide +kernel
theorem dL_law_497 : decode cL_law 497 = .ok (.aload_n 0, 1) := by decide +kernel
theorem dL_law_498 : decode cL_law 498 = .ok (.iload_n 3, 1) := by decide +kernel
theorem dL_law_499 : decode cL_law 499 = .ok (.iconst 3, 1) := by decide +kernel
theorem dL_law_500 : decode cL_law 500 = .ok (.iadd, 1) := by decide +kernel
theorem dL_law_501 : decode cL_law 501 = .ok (.iaload, 1) := by decide +kernel
theorem dL_law_502 : decode cL_law 502 = .ok (.invokevirtual 49, 3) := by decide +kernel
theorem dL_law_505 : decode cL_law 505 = .ok (.if_icmp .eq 791, 3) := by decide +kernel
theorem dL_law_508 : decode cL_law 508 = .ok (.iconst 0, 1) := by decide +kernel
theorem dL_law_509 : decode cL_law 509 = .ok (.ireturn, 1) := by decide +kernel
theorem dL_law_510 : decode cL_law 510 = .ok (.aload_n 1, 1) := by decide +kernel
theorem dL_law_511 : decode cL_law 511 = .ok (.aload_n 0, 1) := by decide +kernel
theorem dL_law_512 : decode cL_law 512 = .ok (.iload_n 3, 1) := by decide +kernel
theorem dL_law_513 : decode cL_law 513 = .ok (.iconst 1, 1) := by decide +kernel
theorem dL_law_514 : decode cL_law 514 = .ok (.iadd, 1) := by decide +kernel
theorem dL_law_515 : decode cL_law 515 = .ok (.iaload, 1) := by decide +kernel
theorem dL_law_516 : decode cL_law 516 = .ok (.aload_n 0, 1) := by decide +kernel
theorem dL_law_517 : decode cL_law 517 = .ok (.iload_n 3, 1) := by decide +kernel
theorem dL_law_518 : decode cL_law 518 = .ok (.iconst 2, 1) := by decide +kernel
theorem dL_law_519 : decode cL_law 519 = .ok (.iadd, 1) := by decide +kernel
theorem dL_law_520 : decode cL_law 520 = .ok (.iaload, 1) := by decide +kernel
theorem dL_law_521 : decode cL_law 521 = .ok (.aload_n 0, 1) := by decide +kernel
theorem dL_law_522 : decode cL_law 522 = .ok (.iload_n 3, 1) := by decide +kernel
theorem dL_law_523 : decode cL_law 523 = .ok (.iconst 3, 1) := by decide +kernel
theorem dL_law_524 : decode cL_law 524 = .ok (.iadd, 1) := by decide +kernel
theorem dL_law_525 : decode cL_law 525 = .ok (.iaload, 1) := by decide +kernel
theorem dL_law_526 : decode cL_law 526 = .ok (.aload_n 0, 1) := by decide +kernel
theorem dL_law_527 : decode cL_law 527 = .ok (.iload_n 3, 1) := by decide +kernel
theorem dL_law_528 : decode cL_law 528 = .ok (.iconst 4, 1) := by decide +kernel
theorem dL_law_529 : decode cL_law 529 = .ok (.iadd, 1) := by decide +kernel
theorem dL_law_530 : decode cL_law 530 = .ok (.iaload, 1) := by decide +kernel
theorem dL_law_531 : decode cL_law 531 = .ok (.invokevirtual 50, 3) := by decide +kernel
theorem dL_law_534 : decode cL_law 534 = .ok (.aload_n 2, 1) := by decide +kernel
theorem dL_law_535 : decode cL_law 535 = .ok (.aload_n 0, 1) := by decide +kernel
theorem dL_law_536 : decode cL_law 536 = .ok (.iload_n 3, 1) := by decide +kernel
theorem dL_law_537 : decode cL_law 537 = .ok (.iconst 1, 1) := by decide +kernel
theorem dL_law_538 : decode cL_law 538 = .ok (.iadd, 1) := by decide +kernel
theorem dL_law_539 : decode cL_law 539 = .ok (.iaload, 1) := by decide +kernel
theorem dL_law_540 : decode cL_law 540 = .ok (.aload_n 0, 1) := by decide +kernel
theorem dL_law_541 : decode cL_law 541 = .ok (.iload_n 3, 1) := by decide +kernel
theorem dL_law_542 : decode cL_law 542 = .ok (.iconst 2, 1) := by decide +kernel
theorem dL_law_543 : decode cL_law 543 = .ok (.iadd, 1) := by decide +kernel
theorem dL_law_544 : decode cL_law 544 = .ok (.iaload, 1) := by decide +kernel
theorem dL_law_545 : decode cL_law 545 = .ok (.aload_n 0, 1) := by decide +kernel
theorem dL_law_546 : decode cL_law 546 = .ok (.iload_n 3, 1) := by decide +kernel
theorem dL_law_547 : decode cL_law 547 = .ok (.iconst 3, 1) := by decide +kernel
theorem dL_law_548 : decode cL_law 548 = .ok (.iadd, 1) := by decide +kernel
theorem dL_law_549 : decode cL_law 549 = .ok (.iaload, 1) := by decide +kernel
theorem dL_law_550 : decode cL_law 550 = .ok (.aload_n 0, 1) := by decide +kernel
theorem dL_law_551 : decode cL_law 551 = .ok (.iload_n 3, 1) := by decide +kernel
theorem dL_law_552 : decode cL_law 552 = .ok (.iconst 4, 1) := by decide +kernel
theorem dL_law_553 : decode cL_law 553 = .ok (.iadd, 1) := by decide +kernel
theorem dL_law_554 : decode cL_law 554 = .ok (.iaload, 1) := by decide +kernel
theorem dL_law_555 : decode cL_law 555 = .ok (.invokevirtual 53, 3) := by decide +kernel
theorem dL_law_558 : decode cL_law 558 = .ok (.if_icmp .eq 738, 3) := by decide +kernel
theorem dL_law_561 : decode cL_law 561 = .ok (.iconst 0, 1) := by decide +kernel
theorem dL_law_562 : decode cL_law 562 = .ok (.ireturn, 1) := by decide +kernel
theorem dL_law_563 : decode cL_law 563 = .ok (.aload_n 1, 1) := by decide +kernel
theorem dL_law_564 : decode cL_law 564 = .ok (.aload_n 0, 1) := by decide +kernel
theorem dL_law_565 : decode cL_law 565 = .ok (.iload_n 3, 1) := by decide +kernel
theorem dL_law_566 : decode cL_law 566 = .ok (.iconst 1, 1) := by decide +kernel
theorem dL_law_567 : decode cL_law 567 = .ok (.iadd, 1) := by decide +kernel
theorem dL_law_568 : decode cL_law 568 = .ok (.iaload, 1) := by decide +kernel
theorem dL_law_569 : decode cL_law 569 = .ok (.aload_n 0, 1) := by decide +kernel
theorem dL_law_570 : decode cL_law 570 = .ok (.iload_n 3, 1) := by decide +kernel
theorem dL_law_571 : decode cL_law 571 = .ok (.iconst 2, 1) := by decide +kernel
theorem dL_law_572 : decode cL_law 572 = .ok (.iadd, 1) := by decide +kernel
theorem dL_law_573 : decode cL_law 573 = .ok (.iaload, 1) := by decide +kernel
theorem dL_law_574 : decode cL_law 574 = .ok (.invokevirtual 54, 3) := by decide +kernel
theorem dL_law_577 : decode cL_law 577 = .ok (.aload_n 2, 1) := by decide +kernel
theorem dL_law_578 : decode cL_law 578 = .ok (.aload_n 0, 1) := by decide +kernel
theorem dL_law_579 : decode cL_law 579 = .ok (.iload_n 3, 1) := by decide +kernel
theorem dL_law_580 : decode cL_law 580 = .ok (.iconst 1, 1) := by decide +kernel
theorem dL_law_581 : decode cL_law 581 = .ok (.iadd, 1) := by decide +kernel
theorem dL_law_582 : decode cL_law 582 = .ok (.iaload, 1) := by decide +kernel
theorem dL_law_583 : decode cL_law 583 = .ok (.aload_n 0, 1) := by decide +kernel
theorem dL_law_584 : decode cL_law 584 = .ok (.iload_n 3, 1) := by decide +kernel
theorem dL_law_585 : decode cL_law 585 = .ok (.iconst 2, 1) := by decide +kernel
theorem dL_law_586 : decode cL_law 586 = .ok (.iadd, 1) := by decide +kernel
theorem dL_law_587 : decode cL_law 587 = .ok (.iaload, 1) := by decide +kernel
theorem dL_law_588 : decode cL_law 588 = .ok (.invokevirtual 57, 3) := by decide +kernel
theorem dL_law_591 : decode cL_law 591 = .ok (.if_icmp .eq 705, 3) := by decide +kernel
theorem dL_law_594 : decode cL_law 594 = .ok (.iconst 0, 1) := by decide +kernel
theorem dL_law_595 : decode cL_law 595 = .ok (.ireturn, 1) := by decide +kernel
theorem dL_law_596 : decode cL_law 596 = .ok (.aload_n 1, 1) := by decide +kernel
theorem dL_law_597 : decode cL_law 597 = .ok (.aload_n 0, 1) := by decide +kernel
theorem dL_law_598 : decode cL_law 598 = .ok (.iload_n 3, 1) := by decide +kernel
theorem dL_law_599 : decode cL_law 599 = .ok (.iconst 1, 1) := by decide +kernel
theorem dL_law_600 : decode cL_law 600 = .ok (.iadd, 1) := by decide +kernel
theorem dL_law_601 : decode cL_law 601 = .ok (.iaload, 1) := by decide +kernel
theorem dL_law_602 : decode cL_law 602 = .ok (.aload_n 0, 1) := by decide +kernel
theorem dL_law_603 : decode cL_law 603 = .ok (.iload_n 3, 1) := by decide +kernel
theorem dL_law_604 : decode cL_law 604 = .ok (.iconst 2, 1) := by decide +kernel
theorem dL_law_605 : decode cL_law 605 = .ok (.iadd, 1) := by decide +kernel
theorem dL_law_606 : decode cL_law 606 = .ok (.iaload, 1) := by decide +kernel
theorem dL_law_607 : decode cL_law 607 = .ok (.invokevirtual 58, 3) := by decide +kernel
theorem dL_law_610 : decode cL_law 610 = .ok (.aload_n 2, 1) := by decide +kernel
theorem dL_law_611 : decode cL_law 611 = .ok (.aload_n 0, 1) := by decide +kernel
theorem dL_law_612 : decode cL_law 612 = .ok (.iload_n 3, 1) := by decide +kernel
theorem dL_law_613 : decode cL_law 613 = .ok (.iconst 1, 1) := by decide +kernel
theorem dL_law_614 : decode cL_law 614 = .ok (.iadd, 1) := by decide +kernel
theorem dL_law_615 : decode cL_law 615 = .ok (.iaload, 1) := by decide +kernel
theorem dL_law_616 : decode cL_law 616 = .ok (.aload_n 0, 1) := by decide +kernel
theorem dL_law_617 : decode cL_law 617 = .ok (.iload_n 3, 1) := by decide +kernel
theorem dL_law_618 : decode cL_law 618 = .ok (.iconst 2, 1) := by decide +kernel
theorem dL_law_619 : decode cL_law 619 = .ok (.iadd, 1) := by decide +kernel
theorem dL_law_620 : decode cL_law 620 = .ok (.iaload, 1) := by decide +kernel
theorem dL_law_621 : decode cL_law 621 = .ok (.invokevirtual 61, 3) := by decide +kernel
theorem dL_law_624 : decode cL_law 624 = .ok (.if_icmp .eq 672, 3) := by decide +kernel
theorem dL_law_627 : decode cL_law 627 = .ok (.iconst 0, 1) := by decide +kernel
theorem dL_law_628 : decode cL_law 628 = .ok (.ireturn, 1) := by decide +kernel
theorem dL_law_629 : decode cL_law 629 = .ok (.aload_n 1, 1) := by decide +kernel
theorem dL_law_630 : decode cL_law 630 = .ok (.aload_n 0, 1) := by decide +kernel
theorem dL_law_631 : decode cL_law 631 = .ok (.iload_n 3, 1) := by decide +kernel
theorem dL_law_632 : decode cL_law 632 = .ok (.iconst 1, 1) := by decide +kernel
theorem dL_law_633 : decode cL_law 633 = .ok (.iadd, 1) := by decide +kernel
theorem dL_law_634 : decode cL_law 634 = .ok (.iaload, 1) := by decide +kernel
theorem dL_law_635 : decode cL_law 635 = .ok (.invokevirtual 62, 3) := by decide +kernel
theorem dL_law_638 : decode cL_law 638 = .ok (.aload_n 2, 1) := by decide +kernel
theorem dL_law_639 : decode cL_law 639 = .ok (.aload_n 0, 1) := by decide +kernel
theorem dL_law_640 : decode cL_law 640 = .ok (.iload_n 3, 1) := by decide +kernel
theorem dL_law_641 : decode cL_law 641 = .ok (.iconst 1, 1) := by decide +kernel
theorem dL_law_642 : decode cL_law 642 = .ok (.iadd, 1) := by decide +kernel
theorem dL_law_643 : decode cL_law 643 = .ok (.iaload, 1) := by decide +kernel
theorem dL_law_644 : decode cL_law 644 = .ok (.invokevirtual 66, 3) := by decide +kernel
theorem dL_law_647 : decode cL_law 647 = .ok (.if_icmp .eq 649, 3) := by decide +kernel
theorem dL_law_650 : decode cL_law 650 = .ok (.iconst 0, 1) := by decide +kernel
theorem dL_law_651 : decode cL_law 651 = .ok (.ireturn, 1) := by decide +kernel
theorem dL_law_652 : decode cL_law 652 = .ok (.aload_n 1, 1) := by decide +kernel
theorem dL_law_653 : decode cL_law 653 = .ok (.aload_n 0, 1) := by decide +kernel
theorem dL_law_654 : decode cL_law 654 = .ok (.iload_n 3, 1) := by decide +kernel
theorem dL_law_655 : decode cL_law 655 = .ok (.iconst 1, 1) := by decide +kernel
theorem dL_law_656 : decode cL_law 656 = .ok (.iadd, 1) := by decide +kernel
theorem dL_law_657 : decode cL_law 657 = .ok (.iaload, 1) := by decide +kernel
theorem dL_law_658 : decode cL_law 658 = .ok (.invokevirtual 67, 3) := by decide +kernel
theorem dL_law_661 : decode cL_law 661 = .ok (.aload_n 2, 1) := by decide +kernel
theorem dL_law_662 : decode cL_law 662 = .ok (.aload_n 0, 1) := by decide +kernel
theorem dL_law_663 : decode cL_law 663 = .ok (.iload_n 3, 1) := by decide +kernel
theorem dL_law_664 : decode cL_law 664 = .ok (.iconst 1, 1) := by decide +kernel
theorem dL_law_665 : decode cL_law 665 = .ok (.iadd, 1) := by decide +kernel
theorem dL_law_666 : decode cL_law 666 = .ok (.iaload, 1) := by decide +kernel
theorem dL_law_667 : decode cL_law 667 = .ok (.invokevirtual 70, 3) := by decide +kernel
theorem dL_law_670 : decode cL_law 670 = .ok (.if_icmp .eq 626, 3) := by decide +kernel
theorem dL_law_673 : decode cL_law 673 = .ok (.iconst 0, 1) := by decide +kernel
theorem dL_law_674 : decode cL_law 674 = .ok (.ireturn, 1) := by decide +kernel
theorem dL_law_675 : decode cL_law 675 = .ok (.aload_n 1, 1) := by decide +kernel
theorem dL_law_676 : decode cL_law 676 = .ok (.aload_n 0, 1) := by decide +kernel
theorem dL_law_677 : decode cL_law 677 = .ok (.iload_n 3, 1) := by decide +kernel
theorem dL_law_678 : decode cL_law 678 = .ok (.iconst 1, 1) := by decide +kernel
theorem dL_law_679 : decode cL_law 679 = .ok (.iadd, 1) := by decide +kernel
theorem dL_law_680 : decode cL_law 680 = .ok (.iaload, 1) := by decide +kernel
theorem dL_law_681 : decode cL_law 681 = .ok (.aload_n 0, 1) := by decide +kernel
theorem dL_law_682 : decode cL_law 682 = .ok (.iload_n 3, 1) := by decide +kernel
theorem dL_law_683 : decode cL_law 683 = .ok (.iconst 2, 1) := by decide +kernel
theorem dL_law_684 : decode cL_law 684 = .ok (.iadd, 1) := by decide +kernel
theorem dL_law_685 : decode cL_law 685 = .ok (.iaload, 1) := by decide +kernel
theorem dL_law_686 : decode cL_law 686 = .ok (.aload_n 0, 1) := by decide +kernel
theorem dL_law_687 : decode cL_law 687 = .ok (.iload_n 3, 1) := by decide +kernel
theorem dL_law_688 : decode cL_law 688 = .ok (.iconst 3, 1) := by decide +kernel
theorem dL_law_689 : decode cL_law 689 = .ok (.iadd, 1) := by decide +kernel
theorem dL_law_690 : decode cL_law 690 = .ok (.iaload, 1) := by decide +kernel
theorem dL_law_691 : decode cL_law 691 = .ok (.aload_n 0, 1) := by decide +kernel
theorem dL_law_692 : decode cL_law 692 = .ok (.iload_n 3, 1) := by decide +kernel
theorem dL_law_693 : decode cL_law 693 = .ok (.iconst 4, 1) := by decide +kernel
theorem dL_law_694 : decode cL_law 694 = .ok (.iadd, 1) := by decide +kernel
theorem dL_law_695 : decode cL_law 695 = .ok (.iaload, 1) := by decide +kernel
theorem dL_law_696 : decode cL_law 696 = .ok (.aload_n 0, 1) := by decide +kernel
theorem dL_law_697 : decode cL_law 697 = .ok (.iload_n 3, 1) := by decide +kernel
theorem dL_law_698 : decode cL_law 698 = .ok (.iconst 5, 1) := by decide +kernel
theorem dL_law_699 : decode cL_law 699 = .ok (.iadd, 1) := by decide +kernel
theorem dL_law_700 : decode cL_law 700 = .ok (.iaload, 1) := by decide +kernel
theorem dL_law_701 : decode cL_law 701 = .ok (.aload_n 0, 1) := by decide +kernel
theorem dL_law_702 : decode cL_law 702 = .ok (.iload_n 3, 1) := by decide +kernel
theorem dL_law_703 : decode cL_law 703 = .ok (.bipush 6, 2) := by decide +kernel
theorem dL_law_705 : decode cL_law 705 = .ok (.iadd, 1) := by decide +kernel
theorem dL_law_706 : decode cL_law 706 = .ok (.iaload, 1) := by decide +kernel
theorem dL_law_707 : decode cL_law 707 = .ok (.invokevirtual 71, 3) := by decide +kernel
theorem dL_law_710 : decode cL_law 710 = .ok (.aload_n 2, 1) := by decide +kernel
theorem dL_law_711 : decode cL_law 711 = .ok (.aload_n 0, 1) := by decide +kernel
theorem dL_law_712 : decode cL_law 712 = .ok (.iload_n 3, 1) := by decide +kernel
theorem dL_law_713 : decode cL_law 713 = .ok (.iconst 1, 1) := by decide +kernel
theorem dL_law_714 : decode cL_law 714 = .ok (.iadd, 1) := by decide +kernel
theorem dL_law_715 : decode cL_law 715 = .ok (.iaload, 1) := by decide +kernel
theorem dL_law_716 : decode cL_law 716 = .ok (.aload_n 0, 1) := by decide +kernel
theorem dL_law_717 : decode cL_law 717 = .ok (.iload_n 3, 1) := by decide +kernel
theorem dL_law_718 : decode cL_law 718 = .ok (.iconst 2, 1) := by decide +kernel
theorem dL_law_719 : decode cL_law 719 = .ok (.iadd, 1) := by decide +kernel
theorem dL_law_720 : decode cL_law 720 = .ok (.iaload, 1) := by decide +kernel
theorem dL_law_721 : decode cL_law 721 = .ok (.aload_n 0, 1) := by decide +kernel
theorem dL_law_722 : decode cL_law 722 = .ok (.iload_n 3, 1) := by decide +kernel
theorem dL_law_723 : decode cL_law 723 = .ok (.iconst 3, 1) := by decide +kernel
theorem dL_law_724 : decode cL_law 724 = .ok (.iadd, 1) := by decide +kernel
theorem dL_law_725 : decode cL_law 725 = .ok (.iaload, 1) := by decide +kernel
theorem dL_law_726 : decode cL_law 726 = .ok (.aload_n 0, 1) := by decide +kernel
theorem dL_law_727 : decode cL_law 727 = .ok (.iload_n 3, 1) := by decide +kernel
theorem dL_law_728 : decode cL_law 728 = .ok (.iconst 4, 1) := by decide +kernel
theorem dL_law_729 : decode cL_law 729 = .ok (.iadd, 1) := by decide +kernel
theorem dL_law_730 : decode cL_law 730 = .ok (.iaload, 1) := by decide +kernel
theorem dL_law_731 : decode cL_law 731 = .ok (.aload_n 0, 1) := by decide +kernel
theorem dL_law_732 : decode cL_law 732 = .ok (.iload_n 3, 1) := by decide +kernel
theorem dL_law_733 : decode cL_law 733 = .ok (.iconst 5, 1) := by decide +kernel
theorem dL_law_734 : decode cL_law 734 = .ok (.iadd, 1) := by decide +kernel
theorem dL_law_735 : decode cL_law 735 = .ok (.iaload, 1) := by decide +kernel
theorem dL_law_736 : decode cL_law 736 = .ok (.aload_n 0, 1) := by decide +kernel
theorem dL_law_737 : decode cL_law 737 = .ok (.iload_n 3, 1) := by decide +kernel
theorem dL_law_738 : decode cL_law 738 = .ok (.bipush 6, 2) := by decide +kernel
theorem dL_law_740 : decode cL_law 740 = .ok (.iadd, 1) := by decide +kernel
theorem dL_law_741 : decode cL_law 741 = .ok (.iaload, 1) := by decide +kernel
theorem dL_law_742 : decode cL_law 742 = .ok (.invokevirtual 75, 3) := by decide +kernel
theorem dL_law_745 : decode cL_law 745 = .ok (.lcmp, 1) := by decide +kernel
theorem dL_law_746 : decode cL_law 746 = .ok (.ifCond .eq 550, 3) := by decide +kernel
theorem dL_law_749 : decode cL_law 749 = .ok (.iconst 0, 1) := by decide +kernel
theorem dL_law_750 : decode cL_law 750 = .ok (.ireturn, 1) := by decide +kernel
theorem dL_law_751 : decode cL_law 751 = .ok (.aload_n 1, 1) := by decide +kernel
theorem dL_law_752 : decode cL_law 752 = .ok (.aload_n 0, 1) := by decide +kernel
theorem dL_law_753 : decode cL_law 753 = .ok (.iload_n 3, 1) := by decide +kernel
theorem dL_law_754 : decode cL_law 754 = .ok (.iconst 1, 1) := by decide +kernel
theorem dL_law_755 : decode cL_law 755 = .ok (.iadd, 1) := by decide +kernel
theorem dL_law_756 : decode cL_law 756 = .ok (.iaload, 1) := by decide +kernel
theorem dL_law_757 : decode cL_law 757 = .ok (.invokevirtual 76, 3) := by decide +kernel
theorem dL_law_760 : decode cL_law 760 = .ok (.aload_n 2, 1) := by decide +kernel
theorem dL_law_761 : decode cL_law 761 = .ok (.aload_n 0, 1) := by decide +kernel
theorem dL_law_762 : decode cL_law 762 = .ok (.iload_n 3, 1) := by decide +kernel
theorem dL_law_763 : decode cL_law 763 = .ok (.iconst 1, 1) := by decide +kernel
theorem dL_law_764 : decode cL_law 764 = .ok (.iadd, 1) := by decide +kernel
theorem dL_law_765 : decode cL_law 765 = .ok (.iaload, 1) := by decide +kernel
theorem dL_law_766 : decode cL_law 766 = .ok (.invokevirtual 79, 3) := by decide +kernel
theorem dL_law_769 : decode cL_law 769 = .ok (.if_icmp .eq 527, 3) := by decide +kernel
theorem dL_law_772 : decode cL_law 772 = .ok (.iconst 0, 1) := by decide +kernel
theorem dL_law_773 : decode cL_law 773 = .ok (.ireturn, 1) := by decide +kernel
theorem dL_law_774 : decode cL_law 774 = .ok (.aload_n 1, 1) := by decide +kernel
theorem dL_law_775 : decode cL_law 775 = .ok (.aload_n 0, 1) := by decide +kernel
theorem dL_law_776 : decode cL_law 776 = .ok (.iload_n 3, 1) := by decide +kernel
theorem dL_law_777 : decode cL_law 777 = .ok (.iconst 1, 1) := by decide +kernel
theorem dL_law_778 : decode cL_law 778 = .ok (.iadd, 1) := by decide +kernel
theorem dL_law_779 : decode cL_law 779 = .ok (.iaload, 1) := by decide +kernel
theorem dL_law_780 : decode cL_law 780 = .ok (.i2l, 1) := by decide +kernel
theorem dL_law_781 : decode cL_law 781 = .ok (.bipush 32, 2) := by decide +kernel
theorem dL_law_783 : decode cL_law 783 = .ok (.lshl, 1) := by decide +kernel
theorem dL_law_784 : decode cL_law 784 = .ok (.aload_n 0, 1) := by decide +kernel
theorem dL_law_785 : decode cL_law 785 = .ok (.iload_n 3, 1) := by decide +kernel
theorem dL_law_786 : decode cL_law 786 = .ok (.iconst 2, 1) := by decide +kernel
theorem dL_law_787 : decode cL_law 787 = .ok (.iadd, 1) := by decide +kernel
theorem dL_law_788 : decode cL_law 788 = .ok (.iaload, 1) := by decide +kernel
theorem dL_law_789 : decode cL_law 789 = .ok (.i2l, 1) := by decide +kernel
theorem dL_law_790 : decode cL_law 790 = .ok (.ldc2_w 80, 3) := by decide +kernel
theorem dL_law_793 : decode cL_law 793 = .ok (.land, 1) := by decide +kernel
theorem dL_law_794 : decode cL_law 794 = .ok (.lor, 1) := by decide +kernel
theorem dL_law_795 : decode cL_law 795 = .ok (.aload_n 0, 1) := by decide +kernel
theorem dL_law_796 : decode cL_law 796 = .ok (.iload_n 3, 1) := by decide +kernel
theorem dL_law_797 : decode cL_law 797 = .ok (.iconst 3, 1) := by decide +kernel
theorem dL_law_798 : decode cL_law 798 = .ok (.iadd, 1) := by decide +kernel
theorem dL_law_799 : decode cL_law 799 = .ok (.iaload, 1) := by decide +kernel
theorem dL_law_800 : decode cL_law 800 = .ok (.invokevirtual 82, 3) := by decide +kernel
theorem dL_law_803 : decode cL_law 803 = .ok (.aload_n 2, 1) := by decide +kernel
theorem dL_law_804 : decode cL_law 804 = .ok (.aload_n 0, 1) := by decide +kernel
theorem dL_law_805 : decode cL_law 805 = .ok (.iload_n 3, 1) := by decide +kernel
theorem dL_law_806 : decode cL_law 806 = .ok (.iconst 1, 1) := by decide +kernel
theorem dL_law_807 : decode cL_law 807 = .ok (.iadd, 1) := by decide +kernel
theorem dL_law_808 : decode cL_law 808 = .ok (.iaload, 1) := by decide +kernel
theorem dL_law_809 : decode cL_law 809 = .ok (.i2l, 1) := by decide +kernel
theorem dL_law_810 : decode cL_law 810 = .ok (.bipush 32, 2) := by decide +kernel
theorem dL_law_812 : decode cL_law 812 = .ok (.lshl, 1) := by decide +kernel
theorem dL_law_813 : decode cL_law 813 = .ok (.aload_n 0, 1) := by decide +kernel
theorem dL_law_814 : decode cL_law 814 = .ok (.iload_n 3, 1) := by decide +kernel
theorem dL_law_815 : decode cL_law 815 = .ok (.iconst 2, 1) := by decide +kernel
theorem dL_law_816 : decode cL_law 816 = .ok (.iadd, 1) := by decide +kernel
theorem dL_law_817 : decode cL_law 817 = .ok (.iaload, 1) := by decide +kernel
theorem dL_law_818 : decode cL_law 818 = .ok (.i2l, 1) := by decide +kernel
theorem dL_law_819 : decode cL_law 819 = .ok (.ldc2_w 80, 3) := by decide +kernel
theorem dL_law_822 : decode cL_law 822 = .ok (.land, 1) := by decide +kernel
theorem dL_law_823 : decode cL_law 823 = .ok (.lor, 1) := by decide +kernel
theorem dL_law_824 : decode cL_law 824 = .ok (.aload_n 0, 1) := by decide +kernel
theorem dL_law_825 : decode cL_law 825 = .ok (.iload_n 3, 1) := by decide +kernel
theorem dL_law_826 : decode cL_law 826 = .ok (.iconst 3, 1) := by decide +kernel
theorem dL_law_827 : decode cL_law 827 = .ok (.iadd, 1) := by decide +kernel
theorem dL_law_828 : decode cL_law 828 = .ok (.iaload, 1) := by decide +kernel
theorem dL_law_829 : decode cL_law 829 = .ok (.invokevirtual 86, 3) := by decide +kernel
theorem dL_law_832 : decode cL_law 832 = .ok (.if_icmp .eq 464, 3) := by decide +kernel
theorem dL_law_835 : decode cL_law 835 = .ok (.iconst 0, 1) := by decide +kernel
theorem dL_law_836 : decode cL_law 836 = .ok (.ireturn, 1) := by decide +kernel
theorem dL_law_837 : decode cL_law 837 = .ok (.aload_n 1, 1) := by decide +kernel
theorem dL_law_838 : decode cL_law 838 = .ok (.invokevirtual 87, 3) := by decide +kernel
theorem dL_law_841 : decode cL_law 841 = .ok (.aload_n 2, 1) := by decide +kernel
theorem dL_law_842 : decode cL_law 842 = .ok (.invokevirtual 90, 3) := by decide +kernel
theorem dL_law_845 : decode cL_law 845 = .ok (.if_icmp .eq 451, 3) := by decide +kernel
theorem dL_law_848 : decode cL_law 848 = .ok (.iconst 0, 1) := by decide +kernel
theorem dL_law_849 : decode cL_law 849 = .ok (.ireturn, 1) := by decide +kernel
theorem dL_law_850 : decode cL_law 850 = .ok (.aload_n 1, 1) := by decide +kernel
theorem dL_law_851 : decode cL_law 851 = .ok (.invokevirtual 91, 3) := by decide +kernel
theorem dL_law_854 : decode cL_law 854 = .ok (.aload_n 2, 1) := by decide +kernel
theorem dL_law_855 : decode cL_law 855 = .ok (.invokevirtual 94, 3) := by decide +kernel
theorem dL_law_858 : decode cL_law 858 = .ok (.if_icmp .eq 438, 3) := by decide +kernel
theorem dL_law_861 : decode cL_law 861 = .ok (.iconst 0, 1) := by decide +kernel
theorem dL_law_862 : decode cL_law 862 = .ok (.ireturn, 1) := by decide +kernel
theorem dL_law_863 : decode cL_law 863 = .ok (.aload_n 1, 1) := by decide +kernel
theorem dL_law_864 : decode cL_law 864 = .ok (.aload_n 0, 1) := by decide +kernel
theorem dL_law_865 : decode cL_law 865 = .ok (.iload_n 3, 1) := by decide +kernel
theorem dL_law_866 : decode cL_law 866 = .ok (.iconst 1, 1) := by decide +kernel
theorem dL_law_867 : decode cL_law 867 = .ok (.iadd, 1) := by decide +kernel
theorem dL_law_868 : decode cL_law 868 = .ok (.iaload, 1) := by decide +kernel
theorem dL_law_869 : decode cL_law 869 = .ok (.aload_n 0, 1) := by decide +kernel
theorem dL_law_870 : decode cL_law 870 = .ok (.iload_n 3, 1) := by decide +kernel
theorem dL_law_871 : decode cL_law 871 = .ok (.iconst 2, 1) := by decide +kernel
theorem dL_law_872 : decode cL_law 872 = .ok (.iadd, 1) := by decide +kernel
theorem dL_law_873 : decode cL_law 873 = .ok (.iaload, 1) := by decide +kernel
theorem dL_law_874 : decode cL_law 874 = .ok (.aload_n 0, 1) := by decide +kernel
theorem dL_law_875 : decode cL_law 875 = .ok (.iload_n 3, 1) := by decide +kernel
theorem dL_law_876 : decode cL_law 876 = .ok (.iconst 3, 1) := by decide +kernel
theorem dL_law_877 : decode cL_law 877 = .ok (.iadd, 1) := by decide +kernel
theorem dL_law_878 : decode cL_law 878 = .ok (.iaload, 1) := by decide +kernel
theorem dL_law_879 : decode cL_law 879 = .ok (.aload_n 0, 1) := by decide +kernel
theorem dL_law_880 : decode cL_law 880 = .ok (.iload_n 3, 1) := by decide +kernel
theorem dL_law_881 : decode cL_law 881 = .ok (.iconst 4, 1) := by decide +kernel
theorem dL_law_882 : decode cL_law 882 = .ok (.iadd, 1) := by decide +kernel
theorem dL_law_883 : decode cL_law 883 = .ok (.iaload, 1) := by decide +kernel
theorem dL_law_884 : decode cL_law 884 = .ok (.invokevirtual 95, 3) := by decide +kernel
theorem dL_law_887 : decode cL_law 887 = .ok (.aload_n 2, 1) := by decide +kernel
theorem dL_law_888 : decode cL_law 888 = .ok (.aload_n 0, 1) := by decide +kernel
theorem dL_law_889 : decode cL_law 889 = .ok (.iload_n 3, 1) := by decide +kernel
theorem dL_law_890 : decode cL_law 890 = .ok (.iconst 1, 1) := by decide +kernel
theorem dL_law_891 : decode cL_law 891 = .ok (.iadd, 1) := by decide +kernel
theorem dL_law_892 : decode cL_law 892 = .ok (.iaload, 1) := by decide +kernel
theorem dL_law_893 : decode cL_law 893 = .ok (.aload_n 0, 1) := by decide +kernel
theorem dL_law_894 : decode cL_law 894 = .ok (.iload_n 3, 1) := by decide +kernel
theorem dL_law_895 : decode cL_law 895 = .ok (.iconst 2, 1) := by decide +kernel
theorem dL_law_896 : decode cL_law 896 = .ok (.iadd, 1) := by decide +kernel
theorem dL_law_897 : decode cL_law 897 = .ok (.iaload, 1) := by decide +kernel
theorem dL_law_898 : decode cL_law 898 = .ok (.aload_n 0, 1) := by decide +kernel
theorem dL_law_899 : decode cL_law 899 = .ok (.iload_n 3, 1) := by decide +kernel
theorem dL_law_900 : decode cL_law 900 = .ok (.iconst 3, 1) := by decide +kernel
theorem dL_law_901 : decode cL_law 901 = .ok (.iadd, 1) := by decide +kernel
theorem dL_law_902 : decode cL_law 902 = .ok (.iaload, 1) := by decide +kernel
theorem dL_law_903 : decode cL_law 903 = .ok (.aload_n 0, 1) := by decide +kernel
theorem dL_law_904 : decode cL_law 904 = .ok (.iload_n 3, 1) := by decide +kernel
theorem dL_law_905 : decode cL_law 905 = .ok (.iconst 4, 1) := by decide +kernel
theorem dL_law_906 : decode cL_law 906 = .ok (.iadd, 1) := by decide +kernel
theorem dL_law_907 : decode cL_law 907 = .ok (.iaload, 1) := by decide +kernel
theorem dL_law_908 : decode cL_law 908 = .ok (.invokevirtual 98, 3) := by decide +kernel
theorem dL_law_911 : decode cL_law 911 = .ok (.if_icmp .eq 385, 3) := by decide +kernel
theorem dL_law_914 : decode cL_law 914 = .ok (.iconst 0, 1) := by decide +kernel
theorem dL_law_915 : decode cL_law 915 = .ok (.ireturn, 1) := by decide +kernel
theorem dL_law_916 : decode cL_law 916 = .ok (.aload_n 1, 1) := by decide +kernel
theorem dL_law_917 : decode cL_law 917 = .ok (.invokevirtual 99, 3) := by decide +kernel
theorem dL_law_920 : decode cL_law 920 = .ok (.aload_n 2, 1) := by decide +kernel
theorem dL_law_921 : decode cL_law 921 = .ok (.invokevirtual 102, 3) := by decide +kernel
theorem dL_law_924 : decode cL_law 924 = .ok (.if_icmp .eq 372, 3) := by decide +kernel
theorem dL_law_927 : decode cL_law 927 = .ok (.iconst 0, 1) := by decide +kernel
theorem dL_law_928 : decode cL_law 928 = .ok (.ireturn, 1) := by decide +kernel
theorem dL_law_929 : decode cL_law 929 = .ok (.aload_n 1, 1) := by decide +kernel
theorem dL_law_930 : decode cL_law 930 = .ok (.aload_n 0, 1) := by decide +kernel
theorem dL_law_931 : decode cL_law 931 = .ok (.iload_n 3, 1) := by decide +kernel
theorem dL_law_932 : decode cL_law 932 = .ok (.iconst 1, 1) := by decide +kernel
theorem dL_law_933 : decode cL_law 933 = .ok (.iadd, 1) := by decide +kernel
theorem dL_law_934 : decode cL_law 934 = .ok (.iaload, 1) := by decide +kernel
theorem dL_law_935 : decode cL_law 935 = .ok (.aload_n 0, 1) := by decide +kernel
theorem dL_law_936 : decode cL_law 936 = .ok (.iload_n 3, 1) := by decide +kernel
theorem dL_law_937 : decode cL_law 937 = .ok (.iconst 2, 1) := by decide +kernel
theorem dL_law_938 : decode cL_law 938 = .ok (.iadd, 1) := by decide +kernel
theorem dL_law_939 : decode cL_law 939 = .ok (.iaload, 1) := by decide +kernel
theorem dL_law_940 : decode cL_law 940 = .ok (.invokevirtual 103, 3) := by decide +kernel
theorem dL_law_943 : decode cL_law 943 = .ok (.aload_n 2, 1) := by decide +kernel
theorem dL_law_944 : decode cL_law 944 = .ok (.aload_n 0, 1) := by decide +kernel
theorem dL_law_945 : decode cL_law 945 = .ok (.iload_n 3, 1) := by decide +kernel
theorem dL_law_946 : decode cL_law 946 = .ok (.iconst 1, 1) := by decide +kernel
theorem dL_law_947 : decode cL_law 947 = .ok (.iadd, 1) := by decide +kernel
theorem dL_law_948 : decode cL_law 948 = .ok (.iaload, 1) := by decide +kernel
theorem dL_law_949 : decode cL_law 949 = .ok (.aload_n 0, 1) := by decide +kernel
theorem dL_law_950 : decode cL_law 950 = .ok (.iload_n 3, 1) := by decide +kernel
theorem dL_law_951 : decode cL_law 951 = .ok (.iconst 2, 1) := by decide +kernel
theorem dL_law_952 : decode cL_law 952 = .ok (.iadd, 1) := by decide +kernel
theorem dL_law_953 : decode cL_law 953 = .ok (.iaload, 1) := by decide +kernel
theorem dL_law_954 : decode cL_law 954 = .ok (.invokevirtual 106, 3) := by decide +kernel
theorem dL_law_957 : decode cL_law 957 = .ok (.if_icmp .eq 339, 3) := by decide +kernel
theorem dL_law_960 : decode cL_law 960 = .ok (.iconst 0, 1) := by decide +kernel
theorem dL_law_961 : decode cL_law 961 = .ok (.ireturn, 1) := by decide +kernel
theorem dL_law_962 : decode cL_law 962 = .ok (.aload_n 1, 1) := by decide +kernel
theorem dL_law_963 : decode cL_law 963 = .ok (.aload_n 0, 1) := by decide +kernel
theorem dL_law_964 : decode cL_law 964 = .ok (.iload_n 3, 1) := by decide +kernel
theorem dL_law_965 : decode cL_law 965 = .ok (.iconst 1, 1) := by decide +kernel
theorem dL_law_966 : decode cL_law 966 = .ok (.iadd, 1) := by decide +kernel
theorem dL_law_967 : decode cL_law 967 = .ok (.iaload, 1) := by decide +kernel
theorem dL_law_968 : decode cL_law 968 = .ok (.aload_n 0, 1) := by decide +kernel
theorem dL_law_969 : decode cL_law 969 = .ok (.iload_n 3, 1) := by decide +kernel
theorem dL_law_970 : decode cL_law 970 = .ok (.iconst 2, 1) := by decide +kernel
theorem dL_law_971 : decode cL_law 971 = .ok (.iadd, 1) := by decide +kernel
theorem dL_law_972 : decode cL_law 972 = .ok (.iaload, 1) := by decide +kernel
theorem dL_law_973 : decode cL_law 973 = .ok (.aload_n 0, 1) := by decide +kernel
theorem dL_law_974 : decode cL_law 974 = .ok (.iload_n 3, 1) := by decide +kernel
theorem dL_law_975 : decode cL_law 975 = .ok (.iconst 3, 1) := by decide +kernel
theorem dL_law_976 : decode cL_law 976 = .ok (.iadd, 1) := by decide +kernel
theorem dL_law_977 : decode cL_law 977 = .ok (.iaload, 1) := by decide +kernel
theorem dL_law_978 : decode cL_law 978 = .ok (.invokevirtual 107, 3) := by decide +kernel
theorem dL_law_981 : decode cL_law 981 = .ok (.aload_n 2, 1) := by decide +kernel
theorem dL_law_982 : decode cL_law 982 = .ok (.aload_n 0, 1) := by decide +kernel
theorem dL_law_983 : decode cL_law 983 = .ok (.iload_n 3, 1) := by decide +kernel
theorem dL_law_984 : decode cL_law 984 = .ok (.iconst 1, 1) := by decide +kernel
theorem dL_law_985 : decode cL_law 985 = .ok (.iadd, 1) := by decide +kernel
theorem dL_law_986 : decode cL_law 986 = .ok (.iaload, 1) := by decide +kernel
theorem dL_law_987 : decode cL_law 987 = .ok (.aload_n 0, 1) := by decide +kernel
theorem dL_law_988 : decode cL_law 988 = .ok (.iload_n 3, 1) := by decide +kernel
theorem dL_law_989 : decode cL_law 989 = .ok (.iconst 2, 1) := by decide +kernel
theorem dL_law_990 : decode cL_law 990 = .ok (.iadd, 1) := by decide +kernel
theorem dL_law_991 : decode cL_law 991 = .ok (.iaload, 1) := by decide +kernel
theorem dL_law_992 : decode cL_law 992 = .ok (.aload_n 0, 1) := by decide +kernel
theorem dL_law_993 : decode cL_law 993 = .ok (.iload_n 3, 1) := by decide +kernel
theorem dL_law_994 : decode cL_law 994 = .ok (.iconst 3, 1) := by decide +kernel
theorem dL_law_995 : decode cL_law 995 = .ok (.iadd, 1) := by decide +kernel
theorem dL_law_996 : decode cL_law 996 = .ok (.iaload, 1) := by decide +kernel
theorem dL_law_997 : decode cL_law 997 = .ok (.invokevirtual 110, 3) := by decide +kernel
theorem dL_law_1000 : decode cL_law 1000 = .ok (.if_icmp .eq 296, 3) := by decide +kernel
theorem dL_law_1003 : decode cL_law 1003 = .ok (.iconst 0, 1) := by decide +kernel
theorem dL_law_1004 : decode cL_law 1004 = .ok (.ireturn, 1) := by decide +kernel
theorem dL_law_1005 : decode cL_law 1005 = .ok (.aload_n 1, 1) := by decide +kernel
theorem dL_law_1006 : decode cL_law 1006 = .ok (.aload_n 0, 1) := by decide +kernel
theorem dL_law_1007 : decode cL_law 1007 = .ok (.iload_n 3, 1) := by decide +kernel
theorem dL_law_1008 : decode cL_law 1008 = .ok (.iconst 1, 1) := by decide +kernel
theorem dL_law_1009 : decode cL_law 1009 = .ok (.iadd, 1) := by decide +kernel
theorem dL_law_1010 : decode cL_law 1010 = .ok (.iaload, 1) := by decide +kernel
theorem dL_law_1011 : decode cL_law 1011 = .ok (.aload_n 0, 1) := by decide +kernel
theorem dL_law_1012 : decode cL_law 1012 = .ok (.iload_n 3, 1) := by decide +kernel
theorem dL_law_1013 : decode cL_law 1013 = .ok (.iconst 2, 1) := by decide +kernel
theorem dL_law_1014 : decode cL_law 1014 = .ok (.iadd, 1) := by decide +kernel
theorem dL_law_1015 : decode cL_law 1015 = .ok (.iaload, 1) := by decide +kernel
theorem dL_law_1016 : decode cL_law 1016 = .ok (.aload_n 0, 1) := by decide +kernel
theorem dL_law_1017 : decode cL_law 1017 = .ok (.iload_n 3, 1) := by decide +kernel
theorem dL_law_1018 : decode cL_law 1018 = .ok (.iconst 3, 1) := by decide +kernel
theorem dL_law_1019 : decode cL_law 1019 = .ok (.iadd, 1) := by decide +kernel
theorem dL_law_1020 : decode cL_law 1020 = .ok (.iaload, 1) := by decide +kernel
theorem dL_law_1021 : decode cL_law 1021 = .ok (.invokevirtual 111, 3) := by decide +kernel
theorem dL_law_1024 : decode cL_law 1024 = .ok (.aload_n 2, 1) := by decide +kernel
theorem dL_law_1025 : decode cL_law 1025 = .ok (.aload_n 0, 1) := by decide +kernel
theorem dL_law_1026 : decode cL_law 1026 = .ok (.iload_n 3, 1) := by decide +kernel
theorem dL_law_1027 : decode cL_law 1027 = .ok (.iconst 1, 1) := by decide +kernel
theorem dL_law_1028 : decode cL_law 1028 = .ok (.iadd, 1) := by decide +kernel
theorem dL_law_1029 : decode cL_law 1029 = .ok (.iaload, 1) := by decide +kernel
theorem dL_law_1030 : decode cL_law 1030 = .ok (.aload_n 0, 1) := by decide +kernel
theorem dL_law_1031 : decode cL_law 1031 = .ok (.iload_n 3, 1) := by decide +kernel
theorem dL_law_1032 : decode cL_law 1032 = .ok (.iconst 2, 1) := by decide +kernel
theorem dL_law_1033 : decode cL_law 1033 = .ok (.iadd, 1) := by decide +kernel
theorem dL_law_1034 : decode cL_law 1034 = .ok (.iaload, 1) := by decide +kernel
theorem dL_law_1035 : decode cL_law 1035 = .ok (.aload_n 0, 1) := by decide +kernel
theorem dL_law_1036 : decode cL_law 1036 = .ok (.iload_n 3, 1) := by decide +kernel
theorem dL_law_1037 : decode cL_law 1037 = .ok (.iconst 3, 1) := by decide +kernel
theorem dL_law_1038 : decode cL_law 1038 = .ok (.iadd, 1) := by decide +kernel
theorem dL_law_1039 : decode cL_law 1039 = .ok (.iaload, 1) := by decide +kernel
theorem dL_law_1040 : decode cL_law 1040 = .ok (.invokevirtual 114, 3) := by decide +kernel
theorem dL_law_1043 : decode cL_law 1043 = .ok (.if_icmp .eq 253, 3) := by decide +kernel
theorem dL_law_1046 : decode cL_law 1046 = .ok (.iconst 0, 1) := by decide +kernel
theorem dL_law_1047 : decode cL_law 1047 = .ok (.ireturn, 1) := by decide +kernel
theorem dL_law_1048 : decode cL_law 1048 = .ok (.aload_n 1, 1) := by decide +kernel
theorem dL_law_1049 : decode cL_law 1049 = .ok (.aload_n 0, 1) := by decide +kernel
theorem dL_law_1050 : decode cL_law 1050 = .ok (.iload_n 3, 1) := by decide +kernel
theorem dL_law_1051 : decode cL_law 1051 = .ok (.iconst 1, 1) := by decide +kernel
theorem dL_law_1052 : decode cL_law 1052 = .ok (.iadd, 1) := by decide +kernel
theorem dL_law_1053 : decode cL_law 1053 = .ok (.iaload, 1) := by decide +kernel
theorem dL_law_1054 : decode cL_law 1054 = .ok (.aload_n 0, 1) := by decide +kernel
theorem dL_law_1055 : decode cL_law 1055 = .ok (.iload_n 3, 1) := by decide +kernel
theorem dL_law_1056 : decode cL_law 1056 = .ok (.iconst 2, 1) := by decide +kernel
theorem dL_law_1057 : decode cL_law 1057 = .ok (.iadd, 1) := by decide +kernel
theorem dL_law_1058 : decode cL_law 1058 = .ok (.iaload, 1) := by decide +kernel
theorem dL_law_1059 : decode cL_law 1059 = .ok (.aload_n 0, 1) := by decide +kernel
theorem dL_law_1060 : decode cL_law 1060 = .ok (.iload_n 3, 1) := by decide +kernel
theorem dL_law_1061 : decode cL_law 1061 = .ok (.iconst 3, 1) := by decide +kernel
theorem dL_law_1062 : decode cL_law 1062 = .ok (.iadd, 1) := by decide +kernel
theorem dL_law_1063 : decode cL_law 1063 = .ok (.iaload, 1) := by decide +kernel
theorem dL_law_1064 : decode cL_law 1064 = .ok (.invokevirtual 115, 3) := by decide +kernel
theorem dL_law_1067 : decode cL_law 1067 = .ok (.aload_n 2, 1) := by decide +kernel
theorem dL_law_1068 : decode cL_law 1068 = .ok (.aload_n 0, 1) := by decide +kernel
theorem dL_law_1069 : decode cL_law 1069 = .ok (.iload_n 3, 1) := by decide +kernel
theorem dL_law_1070 : decode cL_law 1070 = .ok (.iconst 1, 1) := by decide +kernel
theorem dL_law_1071 : decode cL_law 1071 = .ok (.iadd, 1) := by decide +kernel
theorem dL_law_1072 : decode cL_law 1072 = .ok (.iaload, 1) := by decide +kernel
theorem dL_law_1073 : decode cL_law 1073 = .ok (.aload_n 0, 1) := by decide +kernel
theorem dL_law_1074 : decode cL_law 1074 = .ok (.iload_n 3, 1) := by decide +kernel
theorem dL_law_1075 : decode cL_law 1075 = .ok (.iconst 2, 1) := by decide +kernel
theorem dL_law_1076 : decode cL_law 1076 = .ok (.iadd, 1) := by decide +kernel
theorem dL_law_1077 : decode cL_law 1077 = .ok (.iaload, 1) := by decide +kernel
theorem dL_law_1078 : decode cL_law 1078 = .ok (.aload_n 0, 1) := by decide +kernel
theorem dL_law_1079 : decode cL_law 1079 = .ok (.iload_n 3, 1) := by decide +kernel
theorem dL_law_1080 : decode cL_law 1080 = .ok (.iconst 3, 1) := by decide +kernel
theorem dL_law_1081 : decode cL_law 1081 = .ok (.iadd, 1) := by decide +kernel
theorem dL_law_1082 : decode cL_law 1082 = .ok (.iaload, 1) := by decide +kernel
theorem dL_law_1083 : decode cL_law 1083 = .ok (.invokevirtual 118, 3) := by decide +kernel
theorem dL_law_1086 : decode cL_law 1086 = .ok (.if_icmp .eq 210, 3) := by decide +kernel
theorem dL_law_1089 : decode cL_law 1089 = .ok (.iconst 0, 1) := by decide +kernel
theorem dL_law_1090 : decode cL_law 1090 = .ok (.ireturn, 1) := by decide +kernel
theorem dL_law_1091 : decode cL_law 1091 = .ok (.aload_n 1, 1) := by decide +kernel
theorem dL_law_1092 : decode cL_law 1092 = .ok (.aload_n 0, 1) := by decide +kernel
theorem dL_law_1093 : decode cL_law 1093 = .ok (.iload_n 3, 1) := by decide +kernel
theorem dL_law_1094 : decode cL_law 1094 = .ok (.iconst 1, 1) := by decide +kernel
theorem dL_law_1095 : decode cL_law 1095 = .ok (.iadd, 1) := by decide +kernel
theorem dL_law_1096 : decode cL_law 1096 = .ok (.iaload, 1) := by decide +kernel
theorem dL_law_1097 : decode cL_law 1097 = .ok (.aload_n 0, 1) := by decide +kernel
theorem dL_law_1098 : decode cL_law 1098 = .ok (.iload_n 3, 1) := by decide +kernel
theorem dL_law_1099 : decode cL_law 1099 = .ok (.iconst 2, 1) := by decide +kernel
theorem dL_law_1100 : decode cL_law 1100 = .ok (.iadd, 1) := by decide +kernel
theorem dL_law_1101 : decode cL_law 1101 = .ok (.iaload, 1) := by decide +kernel
theorem dL_law_1102 : decode cL_law 1102 = .ok (.invokevirtual 119, 3) := by decide +kernel
theorem dL_law_1105 : decode cL_law 1105 = .ok (.aload_n 2, 1) := by decide +kernel
theorem dL_law_1106 : decode cL_law 1106 = .ok (.aload_n 0, 1) := by decide +kernel
theorem dL_law_1107 : decode cL_law 1107 = .ok (.iload_n 3, 1) := by decide +kernel
theorem dL_law_1108 : decode cL_law 1108 = .ok (.iconst 1, 1) := by decide +kernel
theorem dL_law_1109 : decode cL_law 1109 = .ok (.iadd, 1) := by decide +kernel
theorem dL_law_1110 : decode cL_law 1110 = .ok (.iaload, 1) := by decide +kernel
theorem dL_law_1111 : decode cL_law 1111 = .ok (.aload_n 0, 1) := by decide +kernel
theorem dL_law_1112 : decode cL_law 1112 = .ok (.iload_n 3, 1) := by decide +kernel
theorem dL_law_1113 : decode cL_law 1113 = .ok (.iconst 2, 1) := by decide +kernel
theorem dL_law_1114 : decode cL_law 1114 = .ok (.iadd, 1) := by decide +kernel
theorem dL_law_1115 : decode cL_law 1115 = .ok (.iaload, 1) := by decide +kernel
theorem dL_law_1116 : decode cL_law 1116 = .ok (.invokevirtual 122, 3) := by decide +kernel
theorem dL_law_1119 : decode cL_law 1119 = .ok (.if_icmp .eq 177, 3) := by decide +kernel
theorem dL_law_1122 : decode cL_law 1122 = .ok (.iconst 0, 1) := by decide +kernel
theorem dL_law_1123 : decode cL_law 1123 = .ok (.ireturn, 1) := by decide +kernel
theorem dL_law_1124 : decode cL_law 1124 = .ok (.aload_n 1, 1) := by decide +kernel
theorem dL_law_1125 : decode cL_law 1125 = .ok (.invokevirtual 123, 3) := by decide +kernel
theorem dL_law_1128 : decode cL_law 1128 = .ok (.aload_n 2, 1) := by decide +kernel
theorem dL_law_1129 : decode cL_law 1129 = .ok (.invokevirtual 126, 3) := by decide +kernel
theorem dL_law_1132 : decode cL_law 1132 = .ok (.if_icmp .eq 164, 3) := by decide +kernel
theorem dL_law_1135 : decode cL_law 1135 = .ok (.iconst 0, 1) := by decide +kernel
theorem dL_law_1136 : decode cL_law 1136 = .ok (.ireturn, 1) := by decide +kernel
theorem dL_law_1137 : decode cL_law 1137 = .ok (.aload_n 1, 1) := by decide +kernel
theorem dL_law_1138 : decode cL_law 1138 = .ok (.aload_n 0, 1) := by decide +kernel
theorem dL_law_1139 : decode cL_law 1139 = .ok (.iload_n 3, 1) := by decide +kernel
theorem dL_law_1140 : decode cL_law 1140 = .ok (.iconst 1, 1) := by decide +kernel
theorem dL_law_1141 : decode cL_law 1141 = .ok (.iadd, 1) := by decide +kernel
theorem dL_law_1142 : decode cL_law 1142 = .ok (.iaload, 1) := by decide +kernel
theorem dL_law_1143 : decode cL_law 1143 = .ok (.aload_n 0, 1) := by decide +kernel
theorem dL_law_1144 : decode cL_law 1144 = .ok (.iload_n 3, 1) := by decide +kernel
theorem dL_law_1145 : decode cL_law 1145 = .ok (.iconst 2, 1) := by decide +kernel
theorem dL_law_1146 : decode cL_law 1146 = .ok (.iadd, 1) := by decide +kernel
theorem dL_law_1147 : decode cL_law 1147 = .ok (.iaload, 1) := by decide +kernel
theorem dL_law_1148 : decode cL_law 1148 = .ok (.aload_n 0, 1) := by decide +kernel
theorem dL_law_1149 : decode cL_law 1149 = .ok (.iload_n 3, 1) := by decide +kernel
theorem dL_law_1150 : decode cL_law 1150 = .ok (.iconst 3, 1) := by decide +kernel
theorem dL_law_1151 : decode cL_law 1151 = .ok (.iadd, 1) := by decide +kernel
theorem dL_law_1152 : decode cL_law 1152 = .ok (.iaload, 1) := by decide +kernel
theorem dL_law_1153 : decode cL_law 1153 = .ok (.invokevirtual 127, 3) := by decide +kernel
theorem dL_law_1156 : decode cL_law 1156 = .ok (.aload_n 2, 1) := by decide +kernel
theorem dL_law_1157 : decode cL_law 1157 = .ok (.aload_n 0, 1) := by decide +kernel
theorem dL_law_1158 : decode cL_law 1158 = .ok (.iload_n 3, 1) := by decide +kernel
theorem dL_law_1159 : decode cL_law 1159 = .ok (.iconst 1, 1) := by decide +kernel
theorem dL_law_1160 : decode cL_law 1160 = .ok (.iadd, 1) := by decide +kernel
theorem dL_law_1161 : decode cL_law 1161 = .ok (.iaload, 1) := by decide +kernel
theorem dL_law_1162 : decode cL_law 1162 = .ok (.aload_n 0, 1) := by decide +kernel
theorem dL_law_1163 : decode cL_law 1163 = .ok (.iload_n 3, 1) := by decide +kernel
theorem dL_law_1164 : decode cL_law 1164 = .ok (.iconst 2, 1) := by decide +kernel
theorem dL_law_1165 : decode cL_law 1165 = .ok (.iadd, 1) := by decide +kernel
theorem dL_law_1166 : decode cL_law 1166 = .ok (.iaload, 1) := by decide +kernel
theorem dL_law_1167 : decode cL_law 1167 = .ok (.aload_n 0, 1) := by decide +kernel
theorem dL_law_1168 : decode cL_law 1168 = .ok (.iload_n 3, 1) := by decide +kernel
theorem dL_law_1169 : decode cL_law 1169 = .ok (.iconst 3, 1) := by decide +kernel
theorem dL_law_1170 : decode cL_law 1170 = .ok (.iadd, 1) := by decide +kernel
theorem dL_law_1171 : decode cL_law 1171 = .ok (.iaload, 1) := by decide +kernel
theorem dL_law_1172 : decode cL_law 1172 = .ok (.invokevirtual 130, 3) := by decide +kernel
theorem dL_law_1175 : decode cL_law 1175 = .ok (.if_icmp .eq 121, 3) := by decide +kernel
theorem dL_law_1178 : decode cL_law 1178 = .ok (.iconst 0, 1) := by decide +kernel
theorem dL_law_1179 : decode cL_law 1179 = .ok (.ireturn, 1) := by decide +kernel
theorem dL_law_1180 : decode cL_law 1180 = .ok (.aload_n 1, 1) := by decide +kernel
theorem dL_law_1181 : decode cL_law 1181 = .ok (.aload_n 0, 1) := by decide +kernel
theorem dL_law_1182 : decode cL_law 1182 = .ok (.iload_n 3, 1) := by decide +kernel
theorem dL_law_1183 : decode cL_law 1183 = .ok (.iconst 1, 1) := by decide +kernel
theorem dL_law_1184 : decode cL_law 1184 = .ok (.iadd, 1) := by decide +kernel
theorem dL_law_1185 : decode cL_law 1185 = .ok (.iaload, 1) := by decide +kernel
theorem dL_law_1186 : decode cL_law 1186 = .ok (.aload_n 0, 1) := by decide +kernel
theorem dL_law_1187 : decode cL_law 1187 = .ok (.iload_n 3, 1) := by decide +kernel
theorem dL_law_1188 : decode cL_law 1188 = .ok (.iconst 2, 1) := by decide +kernel
theorem dL_law_1189 : decode cL_law 1189 = .ok (.iadd, 1) := by decide +kernel
theorem dL_law_1190 : decode cL_law 1190 = .ok (.iaload, 1) := by decide +kernel
theorem dL_law_1191 : decode cL_law 1191 = .ok (.invokevirtual 131, 3) := by decide +kernel
theorem dL_law_1194 : decode cL_law 1194 = .ok (.aload_n 2, 1) := by decide +kernel
theorem dL_law_1195 : decode cL_law 1195 = .ok (.aload_n 0, 1) := by decide +kernel
theorem dL_law_1196 : decode cL_law 1196 = .ok (.iload_n 3, 1) := by decide +kernel
theorem dL_law_1197 : decode cL_law 1197 = .ok (.iconst 1, 1) := by decide +kernel
theorem dL_law_1198 : decode cL_law 1198 = .ok (.iadd, 1) := by decide +kernel
theorem dL_law_1199 : decode cL_law 1199 = .ok (.iaload, 1) := by decide +kernel
theorem dL_law_1200 : decode cL_law 1200 = .ok (.aload_n 0, 1) := by decide +kernel
theorem dL_law_1201 : decode cL_law 1201 = .ok (.iload_n 3, 1) := by decide +kernel
theorem dL_law_1202 : decode cL_law 1202 = .ok (.iconst 2, 1) := by decide +kernel
theorem dL_law_1203 : decode cL_law 1203 = .ok (.iadd, 1) := by decide +kernel
theorem dL_law_1204 : decode cL_law 1204 = .ok (.iaload, 1) := by decide +kernel
theorem dL_law_1205 : decode cL_law 1205 = .ok (.invokevirtual 134, 3) := by decide +kernel
theorem dL_law_1208 : decode cL_law 1208 = .ok (.if_icmp .eq 88, 3) := by decide +kernel
theorem dL_law_1211 : decode cL_law 1211 = .ok (.iconst 0, 1) := by decide +kernel
theorem dL_law_1212 : decode cL_law 1212 = .ok (.ireturn, 1) := by decide +kernel
theorem dL_law_1213 : decode cL_law 1213 = .ok (.aload_n 1, 1) := by decide +kernel
theorem dL_law_1214 : decode cL_law 1214 = .ok (.invokevirtual 135, 3) := by decide +kernel
theorem dL_law_1217 : decode cL_law 1217 = .ok (.aload_n 2, 1) := by decide +kernel
theorem dL_law_1218 : decode cL_law 1218 = .ok (.invokevirtual 138, 3) := by decide +kernel
theorem dL_law_1221 : decode cL_law 1221 = .ok (.if_icmp .eq 75, 3) := by decide +kernel
theorem dL_law_1224 : decode cL_law 1224 = .ok (.iconst 0, 1) := by decide +kernel
theorem dL_law_1225 : decode cL_law 1225 = .ok (.ireturn, 1) := by decide +kernel
theorem dL_law_1226 : decode cL_law 1226 = .ok (.aload_n 1, 1) := by decide +kernel
theorem dL_law_1227 : decode cL_law 1227 = .ok (.aload_n 0, 1) := by decide +kernel
theorem dL_law_1228 : decode cL_law 1228 = .ok (.iload_n 3, 1) := by decide +kernel
theorem dL_law_1229 : decode cL_law 1229 = .ok (.iconst 1, 1) := by decide +kernel
theorem dL_law_1230 : decode cL_law 1230 = .ok (.iadd, 1) := by decide +kernel
theorem dL_law_1231 : decode cL_law 1231 = .ok (.iaload, 1) := by decide +kernel
theorem dL_law_1232 : decode cL_law 1232 = .ok (.aload_n 0, 1) := by decide +kernel
theorem dL_law_1233 : decode cL_law 1233 = .ok (.iload_n 3, 1) := by decide +kernel
theorem dL_law_1234 : decode cL_law 1234 = .ok (.iconst 2, 1) := by decide +kernel
theorem dL_law_1235 : decode cL_law 1235 = .ok (.iadd, 1) := by decide +kernel
theorem dL_law_1236 : decode cL_law 1236 = .ok (.iaload, 1) := by decide +kernel
theorem dL_law_1237 : decode cL_law 1237 = .ok (.invokevirtual 139, 3) := by decide +kernel
theorem dL_law_1240 : decode cL_law 1240 = .ok (.aload_n 2, 1) := by decide +kernel
theorem dL_law_1241 : decode cL_law 1241 = .ok (.aload_n 0, 1) := by decide +kernel
theorem dL_law_1242 : decode cL_law 1242 = .ok (.iload_n 3, 1) := by decide +kernel
theorem dL_law_1243 : decode cL_law 1243 = .ok (.iconst 1, 1) := by decide +kernel
theorem dL_law_1244 : decode cL_law 1244 = .ok (.iadd, 1) := by decide +kernel
theorem dL_law_1245 : decode cL_law 1245 = .ok (.iaload, 1) := by decide +kernel
theorem dL_law_1246 : decode cL_law 1246 = .ok (.aload_n 0, 1) := by decide +kernel
theorem dL_law_1247 : decode cL_law 1247 = .ok (.iload_n 3, 1) := by decide +kernel
theorem dL_law_1248 : decode cL_law 1248 = .ok (.iconst 2, 1) := by decide +kernel
theorem dL_law_1249 : decode cL_law 1249 = .ok (.iadd, 1) := by decide +kernel
theorem dL_law_1250 : decode cL_law 1250 = .ok (.iaload, 1) := by decide +kernel
theorem dL_law_1251 : decode cL_law 1251 = .ok (.invokevirtual 142, 3) := by decide +kernel
theorem dL_law_1254 : decode cL_law 1254 = .ok (.if_icmp .eq 42, 3) := by decide +kernel
theorem dL_law_1257 : decode cL_law 1257 = .ok (.iconst 0, 1) := by decide +kernel
theorem dL_law_1258 : decode cL_law 1258 = .ok (.ireturn, 1) := by decide +kernel
theorem dL_law_1259 : decode cL_law 1259 = .ok (.aload_n 1, 1) := by decide +kernel
theorem dL_law_1260 : decode cL_law 1260 = .ok (.aload_n 0, 1) := by decide +kernel
theorem dL_law_1261 : decode cL_law 1261 = .ok (.iload_n 3, 1) := by decide +kernel
theorem dL_law_1262 : decode cL_law 1262 = .ok (.iconst 1, 1) := by decide +kernel
theorem dL_law_1263 : decode cL_law 1263 = .ok (.iadd, 1) := by decide +kernel
theorem dL_law_1264 : decode cL_law 1264 = .ok (.iaload, 1) := by decide +kernel
theorem dL_law_1265 : decode cL_law 1265 = .ok (.invokevirtual 143, 3) := by decide +kernel
theorem dL_law_1268 : decode cL_law 1268 = .ok (.aload_n 2, 1) := by decide +kernel
theorem dL_law_1269 : decode cL_law 1269 = .ok (.aload_n 0, 1) := by decide +kernel
theorem dL_law_1270 : decode cL_law 1270 = .ok (.iload_n 3, 1) := by decide +kernel
theorem dL_law_1271 : decode cL_law 1271 = .ok (.iconst 1, 1) := by decide +kernel
theorem dL_law_1272 : decode cL_law 1272 = .ok (.iadd, 1) := by decide +kernel
theorem dL_law_1273 : decode cL_law 1273 = .ok (.iaload, 1) := by decide +kernel
theorem dL_law_1274 : decode cL_law 1274 = .ok (.invokevirtual 146, 3) := by decide +kernel
theorem dL_law_1277 : decode cL_law 1277 = .ok (.if_icmp .eq 19, 3) := by decide +kernel
theorem dL_law_1280 : decode cL_law 1280 = .ok (.iconst 0, 1) := by decide +kernel
theorem dL_law_1281 : decode cL_law 1281 = .ok (.ireturn, 1) := by decide +kernel
theorem dL_law_1282 : decode cL_law 1282 = .ok (.aload_n 1, 1) := by decide +kernel
theorem dL_law_1283 : decode cL_law 1283 = .ok (.invokevirtual 147, 3) := by decide +kernel
theorem dL_law_1286 : decode cL_law 1286 = .ok (.aload_n 2, 1) := by decide +kernel
theorem dL_law_1287 : decode cL_law 1287 = .ok (.invokevirtual 151, 3) := by decide +kernel
theorem dL_law_1290 : decode cL_law 1290 = .ok (.lcmp, 1) := by decide +kernel
theorem dL_law_1291 : decode cL_law 1291 = .ok (.ifCond .eq 5, 3) := by decide +kernel
theorem dL_law_1294 : decode cL_law 1294 = .ok (.iconst 0, 1) := by decide +kernel
theorem dL_law_1295 : decode cL_law 1295 = .ok (.ireturn, 1) := by decide +kernel
theorem dL_law_1296 : decode cL_law 1296 = .ok (.iinc 3 7, 3) := by decide +kernel
theorem dL_law_1299 : decode cL_law 1299 = .ok (.goto (-1281), 3) := by decide +kernel
theorem dL_law_1302 : decode cL_law 1302 = .ok (.iconst 1, 1) := by decide +kernel
theorem dL_law_1303 : decode cL_law 1303 = .ok (.ireturn, 1) := by decide +kernel
