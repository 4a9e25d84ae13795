theorem dX12_hold_24 : decode cX12_hold 24 = .ok (.iinc 3 1, 3) := by decide +kernel
theorem dX12_hold_27 : decode cX12_hold 27 = .ok (.goto (-18), 3) := by decide +kernel
theorem dX12_hold_30 : decode cX12_hold 30 = .ok (.iload_n 2, 1) := by decide +kernel
theorem dX12_hold_31 : decode cX12_hold 31 = .ok (.ireturn, 1) := by decide +kernel
theorem dX12_tries_0 : decode cX12_tries 0 = .ok (.aload_n 0, 1) := by decide +kernel
theorem dX12_tries_1 : decode cX12_tries 1 = .ok (.invokevirtual 210, 3) := by decide +kernel
theorem dX12_tries_4 : decode cX12_tries 4 = .ok (.ifCond .ne 59, 3) := by decide +kernel
theorem dX12_tries_7 : decode cX12_tries 7 = .ok (.iconst 0, 1) := by decide +kernel
theorem dX12_tries_8 : decode cX12_tries 8 = .ok (.istore_n 2, 1) := by decide +kernel
theorem dX12_tries_9 : decode cX12_tries 9 = .ok (.iconst 0, 1) := by decide +kernel
theorem dX12_tries_10 : decode cX12_tries 10 = .ok (.istore_n 3, 1) := by decide +kernel
theorem dX12_tries_11 : decode cX12_tries 11 = .ok (.iload_n 3, 1) := by decide +kernel
theorem dX12_tries_12 : decode cX12_tries 12 = .ok (.bipush 8, 2) := by decide +kernel
theorem dX12_tries_14 : decode cX12_tries 14 = .ok (.if_icmp .ge 23, 3) := by decide +kernel
theorem dX12_tries_17 : decode cX12_tries 17 = .ok (.iload_n 2, 1) := by decide +kernel
theorem dX12_tries_18 : decode cX12_tries 18 = .ok (.aload_n 0, 1) := by decide +kernel
theorem dX12_tries_19 : decode cX12_tries 19 = .ok (.getfield 46, 3) := by decide +kernel
theorem dX12_tries_22 : decode cX12_tries 22 = .ok (.bipush 8, 2) := by decide +kernel
theorem dX12_tries_24 : decode cX12_tries 24 = .ok (.iload_n 1, 1) := by decide +kernel
theorem dX12_tries_25 : decode cX12_tries 25 = .ok (.imul, 1) := by decide +kernel
theorem dX12_tries_26 : decode cX12_tries 26 = .ok (.iload_n 3, 1) := by decide +kernel
theorem dX12_tries_27 : decode cX12_tries 27 = .ok (.iadd, 1) := by decide +kernel
theorem dX12_tries_28 : decode cX12_tries 28 = .ok (.iaload, 1) := by decide +kernel
theorem dX12_tries_29 : decode cX12_tries 29 = .ok (.iadd, 1) := by decide +kernel
theorem dX12_tries_30 : decode cX12_tries 30 = .ok (.istore_n 2, 1) := by decide +kernel
theorem dX12_tries_31 : decode cX12_tries 31 = .ok (.iinc 3 1, 3) := by decide +kernel
theorem dX12_tries_34 : decode cX12_tries 34 = .ok (.goto (-23), 3) := by decide +kernel
theorem dX12_tries_37 : decode cX12_tries 37 = .ok (.aload_n 0, 1) := by decide +kernel
theorem dX12_tries_38 : decode cX12_tries 38 = .ok (.aload_n 0, 1) := by decide +kernel
theorem dX12_tries_39 : decode cX12_tries 39 = .ok (.getfield 229, 3) := by decide +kernel
theorem dX12_tries_42 : decode cX12_tries 42 = .ok (.bipush (-5), 2) := by decide +kernel
theorem dX12_tries_44 : decode cX12_tries 44 = .ok (.if_icmp .ne 7, 3) := by decide +kernel
theorem dX12_tries_47 : decode cX12_tries 47 = .ok (.iload_n 2, 1) := by decide +kernel
theorem dX12_tries_48 : decode cX12_tries 48 = .ok (.goto 11, 3) := by decide +kernel
theorem dX12_tries_51 : decode cX12_tries 51 = .ok (.aload_n 0, 1) := by decide +kernel
theorem dX12_tries_52 : decode cX12_tries 52 = .ok (.getfield 229, 3) := by decide +kernel
theorem dX12_tries_55 : decode cX12_tries 55 = .ok (.iload_n 2, 1) := by decide +kernel
theorem dX12_tries_56 : decode cX12_tries 56 = .ok (.invokestatic 160, 3) := by decide +kernel
theorem dX12_tries_59 : decode cX12_tries 59 = .ok (.putfield 229, 3) := by decide +kernel
theorem dX12_tries_62 : decode cX12_tries 62 = .ok (.return_, 1) := by decide +kernel
theorem dX12_tries_63 : decode cX12_tries 63 = .ok (.iconst 0, 1) := by decide +kernel
theorem dX12_tries_64 : decode cX12_tries 64 = .ok (.istore_n 2, 1) := by decide +kernel
theorem dX12_tries_65 : decode cX12_tries 65 = .ok (.iload_n 2, 1) := by decide +kernel
theorem dX12_tries_66 : decode cX12_tries 66 = .ok (.aload_n 0, 1) := by decide +kernel
theorem dX12_tries_67 : decode cX12_tries 67 = .ok (.getfield 11, 3) := by decide +kernel
theorem dX12_tries_70 : decode cX12_tries 70 = .ok (.iconst 0, 1) := by decide +kernel
theorem dX12_tries_71 : decode cX12_tries 71 = .ok (.iaload, 1) := by decide +kernel
theorem dX12_tries_72 : decode cX12_tries 72 = .ok (.if_icmp .ge 134, 3) := by decide +kernel
theorem dX12_tries_75 : decode cX12_tries 75 = .ok (.aload_n 0, 1) := by decide +kernel
theorem dX12_tries_76 : decode cX12_tries 76 = .ok (.getfield 37, 3) := by decide +kernel
theorem dX12_tries_79 : decode cX12_tries 79 = .ok (.iload_n 2, 1) := by decide +kernel
theorem dX12_tries_80 : decode cX12_tries 80 = .ok (.iaload, 1) := by decide +kernel
theorem dX12_tries_81 : decode cX12_tries 81 = .ok (.ifCond .le 119, 3) := by decide +kernel
theorem dX12_tries_84 : decode cX12_tries 84 = .ok (.aload_n 0, 1) := by decide +kernel
theorem dX12_tries_85 : decode cX12_tries 85 = .ok (.iload_n 2, 1) := by decide +kernel
theorem dX12_tries_86 : decode cX12_tries 86 = .ok (.invokevirtual 163, 3) := by decide +kernel
theorem dX12_tries_89 : decode cX12_tries 89 = .ok (.ifCond .eq 111, 3) := by decide +kernel
theorem dX12_tries_92 : decode cX12_tries 92 = .ok (.aload_n 0, 1) := by decide +kernel
theorem dX12_tries_93 : decode cX12_tries 93 = .ok (.iload_n 2, 1) := by decide +kernel
theorem dX12_tries_94 : decode cX12_tries 94 = .ok (.iconst 1, 1) := by decide +kernel
theorem dX12_tries_95 : decode cX12_tries 95 = .ok (.invokevirtual 232, 3) := by decide +kernel
theorem dX12_tries_98 : decode cX12_tries 98 = .ok (.aload_n 0, 1) := by decide +kernel
theorem dX12_tries_99 : decode cX12_tries 99 = .ok (.getfield 37, 3) := by decide +kernel
theorem dX12_tries_102 : decode cX12_tries 102 = .ok (.iload_n 2, 1) := by decide +kernel
theorem dX12_tries_103 : decode cX12_tries 103 = .ok (.dup2, 1) := by decide +kernel
theorem dX12_tries_104 : decode cX12_tries 104 = .ok (.iaload, 1) := by decide +kernel
theorem dX12_tries_105 : decode cX12_tries 105 = .ok (.iconst 1, 1) := by decide +kernel
theorem dX12_tries_106 : decode cX12_tries 106 = .ok (.isub, 1) := by decide +kernel
theorem dX12_tries_107 : decode cX12_tries 107 = .ok (.iastore, 1) := by decide +kernel
theorem dX12_tries_108 : decode cX12_tries 108 = .ok (.iconst 0, 1) := by decide +kernel
theorem dX12_tries_109 : decode cX12_tries 109 = .ok (.istore_n 3, 1) := by decide +kernel
theorem dX12_tries_110 : decode cX12_tries 110 = .ok (.iload_n 3, 1) := by decide +kernel
theorem dX12_tries_111 : decode cX12_tries 111 = .ok (.bipush 8, 2) := by decide +kernel
theorem dX12_tries_113 : decode cX12_tries 113 = .ok (.if_icmp .ge 64, 3) := by decide +kernel
theorem dX12_tries_116 : decode cX12_tries 116 = .ok (.aload_n 0, 1) := by decide +kernel
theorem dX12_tries_117 : decode cX12_tries 117 = .ok (.getfield 46, 3) := by decide +kernel
theorem dX12_tries_120 : decode cX12_tries 120 = .ok (.bipush 8, 2) := by decide +kernel
theorem dX12_tries_122 : decode cX12_tries 122 = .ok (.iload_n 1, 1) := by decide +kernel
theorem dX12_tries_123 : decode cX12_tries 123 = .ok (.imul, 1) := by decide +kernel
theorem dX12_tries_124 : decode cX12_tries 124 = .ok (.bipush 8, 2) := by decide +kernel
theorem dX12_tries_126 : decode cX12_tries 126 = .ok (.iadd, 1) := by decide +kernel
theorem dX12_tries_127 : decode cX12_tries 127 = .ok (.iload_n 3, 1) := by decide +kernel
theorem dX12_tries_128 : decode cX12_tries 128 = .ok (.iadd, 1) := by decide +kernel
theorem dX12_tries_129 : decode cX12_tries 129 = .ok (.iload_n 3, 1) := by decide +kernel
theorem dX12_tries_130 : decode cX12_tries 130 = .ok (.aload_n 0, 1) := by decide +kernel
theorem dX12_tries_131 : decode cX12_tries 131 = .ok (.getfield 11, 3) := by decide +kernel
theorem dX12_tries_134 : decode cX12_tries 134 = .ok (.iconst 1, 1) := by decide +kernel
theorem dX12_tries_135 : decode cX12_tries 135 = .ok (.iaload, 1) := by decide +kernel
theorem dX12_tries_136 : decode cX12_tries 136 = .ok (.if_icmp .ge 33, 3) := by decide +kernel
theorem dX12_tries_139 : decode cX12_tries 139 = .ok (.aload_n 0, 1) := by decide +kernel
theorem dX12_tries_140 : decode cX12_tries 140 = .ok (.iload_n 3, 1) := by decide +kernel
theorem dX12_tries_141 : decode cX12_tries 141 = .ok (.invokevirtual 73, 3) := by decide +kernel
theorem dX12_tries_144 : decode cX12_tries 144 = .ok (.ifCond .eq 25, 3) := by decide +kernel
theorem dX12_tries_147 : decode cX12_tries 147 = .ok (.aload_n 0, 1) := by decide +kernel
theorem dX12_tries_148 : decode cX12_tries 148 = .ok (.getfield 46, 3) := by decide +kernel
theorem dX12_tries_151 : decode cX12_tries 151 = .ok (.bipush 8, 2) := by decide +kernel
theorem dX12_tries_153 : decode cX12_tries 153 = .ok (.iload_n 1, 1) := by decide +kernel
theorem dX12_tries_154 : decode cX12_tries 154 = .ok (.imul, 1) := by decide +kernel
theorem dX12_tries_155 : decode cX12_tries 155 = .ok (.iload_n 3, 1) := by decide +kernel
theorem dX12_tries_156 : decode cX12_tries 156 = .ok (.iadd, 1) := by decide +kernel
theorem dX12_tries_157 : decode cX12_tries 157 = .ok (.iaload, 1) := by decide +kernel
theorem dX12_tries_158 : decode cX12_tries 158 = .ok (.aload_n 0, 1) := by decide +kernel
theorem dX12_tries_159 : decode cX12_tries 159 = .ok (.iload_n 3, 1) := by decide +kernel
theorem dX12_tries_160 : decode cX12_tries 160 = .ok (.invokevirtual 76, 3) := by decide +kernel
theorem dX12_tries_163 : decode cX12_tries 163 = .ok (.invokestatic 142, 3) := by decide +kernel
theorem dX12_tries_166 : decode cX12_tries 166 = .ok (.goto 4, 3) := by decide +kernel
theorem dX12_tries_169 : decode cX12_tries 169 = .ok (.iconst 0, 1) := by decide +kernel
theorem dX12_tries_170 : decode cX12_tries 170 = .ok (.iastore, 1) := by decide +kernel
theorem dX12_tries_171 : decode cX12_tries 171 = .ok (.iinc 3 1, 3) := by decide +kernel
theorem dX12_tries_174 : decode cX12_tries 174 = .ok (.goto (-64), 3) := by decide +kernel
theorem dX12_tries_177 : decode cX12_tries 177 = .ok (.aload_n 0, 1) := by decide +kernel
theorem dX12_tries_178 : decode cX12_tries 178 = .ok (.iload_n 1, 1) := by decide +kernel
theorem dX12_tries_179 : decode cX12_tries 179 = .ok (.iconst 1, 1) := by decide +kernel
theorem dX12_tries_180 : decode cX12_tries 180 = .ok (.iadd, 1) := by decide +kernel
theorem dX12_tries_181 : decode cX12_tries 181 = .ok (.invokevirtual 235, 3) := by decide +kernel
theorem dX12_tries_184 : decode cX12_tries 184 = .ok (.aload_n 0, 1) := by decide +kernel
theorem dX12_tries_185 : decode cX12_tries 185 = .ok (.getfield 37, 3) := by decide +kernel
theorem dX12_tries_188 : decode cX12_tries 188 = .ok (.iload_n 2, 1) := by decide +kernel
theorem dX12_tries_189 : decode cX12_tries 189 = .ok (.dup2, 1) := by decide +kernel
theorem dX12_tries_190 : decode cX12_tries 190 = .ok (.iaload, 1) := by decide +kernel
theorem dX12_tries_191 : decode cX12_tries 191 = .ok (.iconst 1, 1) := by decide +kernel
theorem dX12_tries_192 : decode cX12_tries 192 = .ok (.iadd, 1) := by decide +kernel
theorem dX12_tries_193 : decode cX12_tries 193 = .ok (.iastore, 1) := by decide +kernel
theorem dX12_tries_194 : decode cX12_tries 194 = .ok (.aload_n 0, 1) := by decide +kernel
theorem dX12_tries_195 : decode cX12_tries 195 = .ok (.iload_n 2, 1) := by decide +kernel
theorem dX12_tries_196 : decode cX12_tries 196 = .ok (.iconst (-1), 1) := by decide +kernel
theorem dX12_tries_197 : decode cX12_tries 197 = .ok (.invokevirtual 232, 3) := by decide +kernel
theorem dX12_tries_200 : decode cX12_tries 200 = .ok (.iinc 2 1, 3) := by decide +kernel
theorem dX12_tries_203 : decode cX12_tries 203 = .ok (.goto (-138), 3) := by decide +kernel
theorem dX12_tries_206 : decode cX12_tries 206 = .ok (.return_, 1) := by decide +kernel
theorem dX12_moves_0 : decode cX12_moves 0 = .ok (.iconst 0, 1) := by decide +kernel
theorem dX12_moves_1 : decode cX12_moves 1 = .ok (.istore_n 3, 1) := by decide +kernel
theorem dX12_moves_2 : decode cX12_moves 2 = .ok (.iload_n 3, 1) := by decide +kernel
theorem dX12_moves_3 : decode cX12_moves 3 = .ok (.aload_n 0, 1) := by decide +kernel
theorem dX12_moves_4 : decode cX12_moves 4 = .ok (.getfield 11, 3) := by decide +kernel
theorem dX12_moves_7 : decode cX12_moves 7 = .ok (.iconst 1, 1) := by decide +kernel
theorem dX12_moves_8 : decode cX12_moves 8 = .ok (.iaload, 1) := by decide +kernel
theorem dX12_moves_9 : decode cX12_moves 9 = .ok (.if_icmp .ge 85, 3) := by decide +kernel
theorem dX12_moves_12 : decode cX12_moves 12 = .ok (.aload_n 0, 1) := by decide +kernel
theorem dX12_moves_13 : decode cX12_moves 13 = .ok (.iload_n 3, 1) := by decide +kernel
theorem dX12_moves_14 : decode cX12_moves 14 = .ok (.invokevirtual 73, 3) := by decide +kernel
theorem dX12_moves_17 : decode cX12_moves 17 = .ok (.ifCond .eq 20, 3) := by decide +kernel
theorem dX12_moves_20 : decode cX12_moves 20 = .ok (.aload_n 0, 1) := by decide +kernel
theorem dX12_moves_21 : decode cX12_moves 21 = .ok (.iload_n 3, 1) := by decide +kernel
theorem dX12_moves_22 : decode cX12_moves 22 = .ok (.invokevirtual 127, 3) := by decide +kernel
theorem dX12_moves_25 : decode cX12_moves 25 = .ok (.iload_n 1, 1) := by decide +kernel
theorem dX12_moves_26 : decode cX12_moves 26 = .ok (.if_icmp .ne 11, 3) := by decide +kernel
theorem dX12_moves_29 : decode cX12_moves 29 = .ok (.aload_n 0, 1) := by decide +kernel
theorem dX12_moves_30 : decode cX12_moves 30 = .ok (.iload_n 3, 1) := by decide +kernel
theorem dX12_moves_31 : decode cX12_moves 31 = .ok (.invokevirtual 130, 3) := by decide +kernel
theorem dX12_moves_34 : decode cX12_moves 34 = .ok (.goto 4, 3) := by decide +kernel
theorem dX12_moves_37 : decode cX12_moves 37 = .ok (.iconst 0, 1) := by decide +kernel
theorem dX12_moves_38 : decode cX12_moves 38 = .ok (.aload_n 0, 1) := by decide +kernel
theorem dX12_moves_39 : decode cX12_moves 39 = .ok (.iload_n 3, 1) := by decide +kernel
theorem dX12_moves_40 : decode cX12_moves 40 = .ok (.invokevirtual 73, 3) := by decide +kernel
theorem dX12_moves_43 : decode cX12_moves 43 = .ok (.ifCond .eq 20, 3) := by decide +kernel
theorem dX12_moves_46 : decode cX12_moves 46 = .ok (.aload_n 0, 1) := by decide +kernel
theorem dX12_moves_47 : decode cX12_moves 47 = .ok (.iload_n 3, 1) := by decide +kernel
theorem dX12_moves_48 : decode cX12_moves 48 = .ok (.invokevirtual 121, 3) := by decide +kernel
theorem dX12_moves_51 : decode cX12_moves 51 = .ok (.iload_n 1, 1) := by decide +kernel
theorem dX12_moves_52 : decode cX12_moves 52 = .ok (.if_icmp .ne 11, 3) := by decide +kernel
theorem dX12_moves_55 : decode cX12_moves 55 = .ok (.aload_n 0, 1) := by decide +kernel
theorem dX12_moves_56 : decode cX12_moves 56 = .ok (.iload_n 3, 1) := by decide +kernel
theorem dX12_moves_57 : decode cX12_moves 57 = .ok (.invokevirtual 124, 3) := by decide +kernel
theorem dX12_moves_60 : decode cX12_moves 60 = .ok (.goto 4, 3) := by decide +kernel
theorem dX12_moves_63 : decode cX12_moves 63 = .ok (.iconst 0, 1) := by decide +kernel
theorem dX12_moves_64 : decode cX12_moves 64 = .ok (.isub, 1) := by decide +kernel
theorem dX12_moves_65 : decode cX12_moves 65 = .ok (.istore 4, 2) := by decide +kernel
theorem dX12_moves_67 : decode cX12_moves 67 = .ok (.aload_n 0, 1) := by decide +kernel
theorem dX12_moves_68 : decode cX12_moves 68 = .ok (.getfield 11, 3) := by decide +kernel
theorem dX12_moves_71 : decode cX12_moves 71 = .ok (.bipush 74, 2) := by decide +kernel
theorem dX12_moves_73 : decode cX12_moves 73 = .ok (.bipush 105, 2) := by decide +kernel
theorem dX12_moves_75 : decode cX12_moves 75 = .ok (.iload_n 3, 1) := by decide +kernel
theorem dX12_moves_76 : decode cX12_moves 76 = .ok (.imul, 1) := by decide +kernel
theorem dX12_moves_77 : decode cX12_moves 77 = .ok (.iadd, 1) := by decide +kernel
theorem dX12_moves_78 : decode cX12_moves 78 = .ok (.iconst 5, 1) := by decide +kernel
theorem dX12_moves_79 : decode cX12_moves 79 = .ok (.iadd, 1) := by decide +kernel
theorem dX12_moves_80 : decode cX12_moves 80 = .ok (.dup2, 1) := by decide +kernel
theorem dX12_moves_81 : decode cX12_moves 81 = .ok (.iaload, 1) := by decide +kernel
theorem dX12_moves_82 : decode cX12_moves 82 = .ok (.iload_n 2, 1) := by decide +kernel
theorem dX12_moves_83 : decode cX12_moves 83 = .ok (.iload 4, 2) := by decide +kernel
theorem dX12_moves_85 : decode cX12_moves 85 = .ok (.imul, 1) := by decide +kernel
theorem dX12_moves_86 : decode cX12_moves 86 = .ok (.iadd, 1) := by decide +kernel
theorem dX12_moves_87 : decode cX12_moves 87 = .ok (.iastore, 1) := by decide +kernel
theorem dX12_moves_88 : decode cX12_moves 88 = .ok (.iinc 3 1, 3) := by decide +kernel
theorem dX12_moves_91 : decode cX12_moves 91 = .ok (.goto (-89), 3) := by decide +kernel
theorem dX12_moves_94 : decode cX12_moves 94 = .ok (.return_, 1) := by decide +kernel
theorem dX12_leastHold_0 : decode cX12_leastHold 0 = .ok (.aload_n 0, 1) := by decide +kernel
theorem dX12_leastHold_1 : decode cX12_leastHold 1 = .ok (.invokevirtual 239, 3) := by decide +kernel
theorem dX12_leastHold_4 : decode cX12_leastHold 4 = .ok (.bipush 8, 2) := by decide +kernel
theorem dX12_leastHold_6 : decode cX12_leastHold 6 = .ok (.if_icmp .le 6, 3) := by decide +kernel
theorem dX12_leastHold_9 : decode cX12_leastHold 9 = .ok (.bipush (-5), 2) := by decide +kernel
theorem dX12_leastHold_11 : decode cX12_leastHold 11 = .ok (.ireturn, 1) := by decide +kernel
theorem dX12_leastHold_12 : decode cX12_leastHold 12 = .ok (.aload_n 0, 1) := by decide +kernel
theorem dX12_leastHold_13 : decode cX12_leastHold 13 = .ok (.invokevirtual 194, 3) := by decide +kernel
theorem dX12_leastHold_16 : decode cX12_leastHold 16 = .ok (.aload_n 0, 1) := by decide +kernel
theorem dX12_leastHold_17 : decode cX12_leastHold 17 = .ok (.bipush (-5), 2) := by decide +kernel
theorem dX12_leastHold_19 : decode cX12_leastHold 19 = .ok (.putfield 229, 3) := by decide +kernel
theorem dX12_leastHold_22 : decode cX12_leastHold 22 = .ok (.iconst 0, 1) := by decide +kernel
theorem dX12_leastHold_23 : decode cX12_leastHold 23 = .ok (.istore_n 1, 1) := by decide +kernel
theorem dX12_leastHold_24 : decode cX12_leastHold 24 = .ok (.iload_n 1, 1) := by decide +kernel
theorem dX12_leastHold_25 : decode cX12_leastHold 25 = .ok (.bipush 8, 2) := by decide +kernel
theorem dX12_leastHold_27 : decode cX12_leastHold 27 = .ok (.if_icmp .ge 42, 3) := by decide +kernel
theorem dX12_leastHold_30 : decode cX12_leastHold 30 = .ok (.aload_n 0, 1) := by decide +kernel
theorem dX12_leastHold_31 : decode cX12_leastHold 31 = .ok (.getfield 46, 3) := by decide +kernel
theorem dX12_leastHold_34 : decode cX12_leastHold 34 = .ok (.iload_n 1, 1) := by decide +kernel
theorem dX12_leastHold_35 : decode cX12_leastHold 35 = .ok (.iload_n 1, 1) := by decide +kernel
theorem dX12_leastHold_36 : decode cX12_leastHold 36 = .ok (.aload_n 0, 1) := by decide +kernel
theorem dX12_leastHold_37 : decode cX12_leastHold 37 = .ok (.getfield 11, 3) := by decide +kernel
theorem dX12_leastHold_40 : decode cX12_leastHold 40 = .ok (.iconst 1, 1) := by decide +kernel
theorem dX12_leastHold_41 : decode cX12_leastHold 41 = .ok (.iaload, 1) := by decide +kernel
theorem dX12_leastHold_42 : decode cX12_leastHold 42 = .ok (.if_icmp .ge 19, 3) := by decide +kernel
theorem dX12_leastHold_45 : decode cX12_leastHold 45 = .ok (.aload_n 0, 1) := by decide +kernel
theorem dX12_leastHold_46 : decode cX12_leastHold 46 = .ok (.iload_n 1, 1) := by decide +kernel
theorem dX12_leastHold_47 : decode cX12_leastHold 47 = .ok (.invokevirtual 73, 3) := by decide +kernel
theorem dX12_leastHold_50 : decode cX12_leastHold 50 = .ok (.ifCond .eq 11, 3) := by decide +kernel
theorem dX12_leastHold_53 : decode cX12_leastHold 53 = .ok (.aload_n 0, 1) := by decide +kernel
theorem dX12_leastHold_54 : decode cX12_leastHold 54 = .ok (.iload_n 1, 1) := by decide +kernel
theorem dX12_leastHold_55 : decode cX12_leastHold 55 = .ok (.invokevirtual 76, 3) := by decide +kernel
theorem dX12_leastHold_58 : decode cX12_leastHold 58 = .ok (.goto 4, 3) := by decide +kernel
theorem dX12_leastHold_61 : decode cX12_leastHold 61 = .ok (.iconst 0, 1) := by decide +kernel
theorem dX12_leastHold_62 : decode cX12_leastHold 62 = .ok (.iastore, 1) := by decide +kernel
theorem dX12_leastHold_63 : decode cX12_leastHold 63 = .ok (.iinc 1 1, 3) := by decide +kernel
theorem dX12_leastHold_66 : decode cX12_leastHold 66 = .ok (.goto (-42), 3) := by decide +kernel
theorem dX12_leastHold_69 : decode cX12_leastHold 69 = .ok (.aload_n 0, 1) := by decide +kernel
theorem dX12_leastHold_70 : decode cX12_leastHold 70 = .ok (.iconst 0, 1) := by decide +kernel
theorem dX12_leastHold_71 : decode cX12_leastHold 71 = .ok (.invokevirtual 235, 3) := by decide +kernel
theorem dX12_leastHold_74 : decode cX12_leastHold 74 = .ok (.aload_n 0, 1) := by decide +kernel
theorem dX12_leastHold_75 : decode cX12_leastHold 75 = .ok (.getfield 229, 3) := by decide +kernel
theorem dX12_leastHold_78 : decode cX12_leastHold 78 = .ok (.ireturn, 1) := by decide +kernel
theorem dX12_told_0 : decode cX12_told 0 = .ok (.iload_n 1, 1) := by decide +kernel
theorem dX12_told_1 : decode cX12_told 1 = .ok (.iconst 5, 1) := by decide +kernel
theorem dX12_told_2 : decode cX12_told 2 = .ok (.if_icmp .ne 8, 3) := by decide +kernel
theorem dX12_told_5 : decode cX12_told 5 = .ok (.aload_n 0, 1) := by decide +kernel
theorem dX12_told_6 : decode cX12_told 6 = .ok (.invokevirtual 242, 3) := by decide +kernel
theorem dX12_told_9 : decode cX12_told 9 = .ok (.ireturn, 1) := by decide +kernel
theorem dX12_told_10 : decode cX12_told 10 = .ok (.iload_n 1, 1) := by decide +kernel
theorem dX12_told_11 : decode cX12_told 11 = .ok (.i2l, 1) := by decide +kernel
theorem dX12_told_12 : decode cX12_told 12 = .ok (.lconst 0, 1) := by decide +kernel
theorem dX12_told_13 : decode cX12_told 13 = .ok (.ldc2_w 65, 3) := by decide +kernel
theorem dX12_told_16 : decode cX12_told 16 = .ok (.invokestatic 61, 3) := by decide +kernel
theorem dX12_told_19 : decode cX12_told 19 = .ok (.ifCond .ne 5, 3) := by decide +kernel
theorem dX12_told_22 : decode cX12_told 22 = .ok (.iconst (-1), 1) := by decide +kernel
theorem dX12_told_23 : decode cX12_told 23 = .ok (.ireturn, 1) := by decide +kernel
theorem dX12_told_24 : decode cX12_told 24 = .ok (.aload_n 0, 1) := by decide +kernel
theorem dX12_told_25 : decode cX12_told 25 = .ok (.invokevirtual 220, 3) := by decide +kernel
theorem dX12_told_28 : decode cX12_told 28 = .ok (.istore_n 2, 1) := by decide +kernel
theorem dX12_told_29 : decode cX12_told 29 = .ok (.iload_n 1, 1) := by decide +kernel
theorem dX12_told_30 : decode cX12_told 30 = .ok (.ifCond .eq 7, 3) := by decide +kernel
theorem dX12_told_33 : decode cX12_told 33 = .ok (.iload_n 2, 1) := by decide +kernel
theorem dX12_told_34 : decode cX12_told 34 = .ok (.ifCond .ne 22, 3) := by decide +kernel
theorem dX12_told_37 : decode cX12_told 37 = .ok (.iload_n 1, 1) := by decide +kernel
theorem dX12_told_38 : decode cX12_told 38 = .ok (.ifCond .ne 15, 3) := by decide +kernel
theorem dX12_told_41 : decode cX12_told 41 = .ok (.iload_n 2, 1) := by decide +kernel
theorem dX12_told_42 : decode cX12_told 42 = .ok (.ifCond .eq 7, 3) := by decide +kernel
theorem dX12_told_45 : decode cX12_told 45 = .ok (.iconst 0, 1) := by decide +kernel
theorem dX12_told_46 : decode cX12_told 46 = .ok (.goto 9, 3) := by decide +kernel
theorem dX12_told_49 : decode cX12_told 49 = .ok (.iconst 1, 1) := by decide +kernel
theorem dX12_told_50 : decode cX12_told 50 = .ok (.goto 5, 3) := by decide +kernel
theorem dX12_told_53 : decode cX12_told 53 = .ok (.bipush (-5), 2) := by decide +kernel
theorem dX12_told_55 : decode cX12_told 55 = .ok (.ireturn, 1) := by decide +kernel
theorem dX12_told_56 : decode cX12_told 56 = .ok (.iload_n 1, 1) := by decide +kernel
theorem dX12_told_57 : decode cX12_told 57 = .ok (.iconst 1, 1) := by decide +kernel
theorem dX12_told_58 : decode cX12_told 58 = .ok (.if_icmp .ne 10, 3) := by decide +kernel
theorem dX12_told_61 : decode cX12_told 61 = .ok (.aload_n 0, 1) := by decide +kernel
theorem dX12_told_62 : decode cX12_told 62 = .ok (.invokevirtual 239, 3) := by decide +kernel
theorem dX12_told_65 : decode cX12_told 65 = .ok (.goto 33, 3) := by decide +kernel
theorem dX12_told_68 : decode cX12_told 68 = .ok (.iload_n 1, 1) := by decide +kernel
theorem dX12_told_69 : decode cX12_told 69 = .ok (.iconst 2, 1) := by decide +kernel
theorem dX12_told_70 : decode cX12_told 70 = .ok (.if_icmp .ne 12, 3) := by decide +kernel
theorem dX12_told_73 : decode cX12_told 73 = .ok (.iconst 1, 1) := by decide +kernel
theorem dX12_told_74 : decode cX12_told 74 = .ok (.aload_n 0, 1) := by decide +kernel
theorem dX12_told_75 : decode cX12_told 75 = .ok (.invokevirtual 226, 3) := by decide +kernel
theorem dX12_told_78 : decode cX12_told 78 = .ok (.isub, 1) := by decide +kernel
theorem dX12_told_79 : decode cX12_told 79 = .ok (.goto 19, 3) := by decide +kernel
theorem dX12_told_82 : decode cX12_told 82 = .ok (.iload_n 1, 1) := by decide +kernel
theorem dX12_told_83 : decode cX12_told 83 = .ok (.iconst 3, 1) := by decide +kernel
theorem dX12_told_84 : decode cX12_told 84 = .ok (.if_icmp .ne 10, 3) := by decide +kernel
theorem dX12_told_87 : decode cX12_told 87 = .ok (.aload_n 0, 1) := by decide +kernel
theorem dX12_told_88 : decode cX12_told 88 = .ok (.invokevirtual 245, 3) := by decide +kernel
theorem dX12_told_91 : decode cX12_told 91 = .ok (.goto 7, 3) := by decide +kernel
theorem dX12_told_94 : decode cX12_told 94 = .ok (.aload_n 0, 1) := by decide +kernel
theorem dX12_told_95 : decode cX12_told 95 = .ok (.invokevirtual 248, 3) := by decide +kernel
theorem dX12_told_98 : decode cX12_told 98 = .ok (.ireturn, 1) := by decide +kernel
theorem dX12_when_0 : decode cX12_when 0 = .ok (.iload_n 1, 1) := by decide +kernel
theorem dX12_when_1 : decode cX12_when 1 = .ok (.ifCond .ge 5, 3) := by decide +kernel
theorem dX12_when_4 : decode cX12_when 4 = .ok (.iconst (-1), 1) := by decide +kernel
theorem dX12_when_5 : decode cX12_when 5 = .ok (.ireturn, 1) := by decide +kernel
theorem dX12_when_6 : decode cX12_when 6 = .ok (.aload_n 0, 1) := by decide +kernel
theorem dX12_when_7 : decode cX12_when 7 = .ok (.invokevirtual 220, 3) := by decide +kernel
theorem dX12_when_10 : decode cX12_when 10 = .ok (.ifCond .ne 6, 3) := by decide +kernel
theorem dX12_when_13 : decode cX12_when 13 = .ok (.bipush (-5), 2) := by decide +kernel
theorem dX12_when_15 : decode cX12_when 15 = .ok (.ireturn, 1) := by decide +kernel
theorem dX12_when_16 : decode cX12_when 16 = .ok (.aload_n 0, 1) := by decide +kernel
theorem dX12_when_17 : decode cX12_when 17 = .ok (.iload_n 1, 1) := by decide +kernel
theorem dX12_when_18 : decode cX12_when 18 = .ok (.putfield 207, 3) := by decide +kernel
theorem dX12_when_21 : decode cX12_when 21 = .ok (.aload_n 0, 1) := by decide +kernel
theorem dX12_when_22 : decode cX12_when 22 = .ok (.invokevirtual 226, 3) := by decide +kernel
theorem dX12_when_25 : decode cX12_when 25 = .ok (.istore_n 2, 1) := by decide +kernel
theorem dX12_when_26 : decode cX12_when 26 = .ok (.aload_n 0, 1) := by decide +kernel
theorem dX12_when_27 : decode cX12_when 27 = .ok (.getfield 197, 3) := by decide +kernel
theorem dX12_when_30 : decode cX12_when 30 = .ok (.ireturn, 1) := by decide +kernel
theorem dX12_reached_0 : decode cX12_reached 0 = .ok (.iconst 0, 1) := by decide +kernel
theorem dX12_reached_1 : decode cX12_reached 1 = .ok (.istore_n 2, 1) := by decide +kernel
theorem dX12_reached_2 : decode cX12_reached 2 = .ok (.iconst 0, 1) := by decide +kernel
theorem dX12_reached_3 : decode cX12_reached 3 = .ok (.istore_n 3, 1) := by decide +kernel
theorem dX12_reached_4 : decode cX12_reached 4 = .ok (.iload_n 3, 1) := by decide +kernel
theorem dX12_reached_5 : decode cX12_reached 5 = .ok (.bipush 7, 2) := by decide +kernel
theorem dX12_reached_7 : decode cX12_reached 7 = .ok (.if_icmp .ge 89, 3) := by decide +kernel
theorem dX12_reached_10 : decode cX12_reached 10 = .ok (.iconst 0, 1) := by decide +kernel
theorem dX12_reached_11 : decode cX12_reached 11 = .ok (.istore 4, 2) := by decide +kernel
theorem dX12_reached_13 : decode cX12_reached 13 = .ok (.iload 4, 2) := by decide +kernel
theorem dX12_reached_15 : decode cX12_reached 15 = .ok (.aload_n 0, 1) := by decide +kernel
theorem dX12_reached_16 : decode cX12_reached 16 = .ok (.getfield 11, 3) := by decide +kernel
theorem dX12_reached_19 : decode cX12_reached 19 = .ok (.iconst 1, 1) := by decide +kernel
theorem dX12_reached_20 : decode cX12_reached 20 = .ok (.iaload, 1) := by decide +kernel
theorem dX12_reached_21 : decode cX12_reached 21 = .ok (.if_icmp .ge 69, 3) := by decide +kernel
theorem dX12_reached_24 : decode cX12_reached 24 = .ok (.aload_n 0, 1) := by decide +kernel
theorem dX12_reached_25 : decode cX12_reached 25 = .ok (.iload 4, 2) := by decide +kernel
theorem dX12_reached_27 : decode cX12_reached 27 = .ok (.invokevirtual 73, 3) := by decide +kernel
theorem dX12_reached_30 : decode cX12_reached 30 = .ok (.ifCond .eq 31, 3) := by decide +kernel
theorem dX12_reached_33 : decode cX12_reached 33 = .ok (.aload_n 0, 1) := by decide +kernel
theorem dX12_reached_34 : decode cX12_reached 34 = .ok (.iload 4, 2) := by decide +kernel
theorem dX12_reached_36 : decode cX12_reached 36 = .ok (.invokevirtual 127, 3) := by decide +kernel
theorem dX12_reached_39 : decode cX12_reached 39 = .ok (.iload_n 1, 1) := by decide +kernel
theorem dX12_reached_40 : decode cX12_reached 40 = .ok (.if_icmp .eq 17, 3) := by decide +kernel
theorem dX12_reached_43 : decode cX12_reached 43 = .ok (.iload_n 2, 1) := by decide +kernel
theorem dX12_reached_44 : decode cX12_reached 44 = .ok (.aload_n 0, 1) := by decide +kernel
theorem dX12_reached_45 : decode cX12_reached 45 = .ok (.iload 4, 2) := by decide +kernel
theorem dX12_reached_47 : decode cX12_reached 47 = .ok (.invokevirtual 127, 3) := by decide +kernel
theorem dX12_reached_50 : decode cX12_reached 50 = .ok (.ishr, 1) := by decide +kernel
theorem dX12_reached_51 : decode cX12_reached 51 = .ok (.iconst 1, 1) := by decide +kernel
theorem dX12_reached_52 : decode cX12_reached 52 = .ok (.iand, 1) := by decide +kernel
theorem dX12_reached_53 : decode cX12_reached 53 = .ok (.iconst 1, 1) := by decide +kernel
theorem dX12_reached_54 : decode cX12_reached 54 = .ok (.if_icmp .ne 7, 3) := by decide +kernel
theorem dX12_reached_57 : decode cX12_reached 57 = .ok (.iconst 1, 1) := by decide +kernel
theorem dX12_reached_58 : decode cX12_reached 58 = .ok (.goto 4, 3) := by decide +kernel
theorem dX12_reached_61 : decode cX12_reached 61 = .ok (.iconst 0, 1) := by decide +kernel
theorem dX12_reached_62 : decode cX12_reached 62 = .ok (.istore 5, 2) := by decide +kernel
theorem dX12_reached_64 : decode cX12_reached 64 = .ok (.iload_n 2, 1) := by decide +kernel
theorem dX12_reached_65 : decode cX12_reached 65 = .ok (.iload 5, 2) := by decide +kernel
theorem dX12_reached_67 : decode cX12_reached 67 = .ok (.ifCond .eq 14, 3) := by decide +kernel
theorem dX12_reached_70 : decode cX12_reached 70 = .ok (.iconst 1, 1) := by decide +kernel
theorem dX12_reached_71 : decode cX12_reached 71 = .ok (.aload_n 0, 1) := by decide +kernel
theorem dX12_reached_72 : decode cX12_reached 72 = .ok (.iload 4, 2) := by decide +kernel
theorem dX12_reached_74 : decode cX12_reached 74 = .ok (.invokevirtual 121, 3) := by decide +kernel
theorem dX12_reached_77 : decode cX12_reached 77 = .ok (.ishl, 1) := by decide +kernel
theorem dX12_reached_78 : decode cX12_reached 78 = .ok (.goto 4, 3) := by decide +kernel
theorem dX12_reached_81 : decode cX12_reached 81 = .ok (.iconst 0, 1) := by decide +kernel
theorem dX12_reached_82 : decode cX12_reached 82 = .ok (.ior, 1) := by decide +kernel
theorem dX12_reached_83 : decode cX12_reached 83 = .ok (.istore_n 2, 1) := by decide +kernel
theorem dX12_reached_84 : decode cX12_reached 84 = .ok (.iinc 4 1, 3) := by decide +kernel
theorem dX12_reached_87 : decode cX12_reached 87 = .ok (.goto (-74), 3) := by decide +kernel
theorem dX12_reached_90 : decode cX12_reached 90 = .ok (.iinc 3 1, 3) := by decide +kernel
theorem dX12_reached_93 : decode cX12_reached 93 = .ok (.goto (-89), 3) := by decide +kernel
theorem dX12_reached_96 : decode cX12_reached 96 = .ok (.iload_n 2, 1) := by decide +kernel
theorem dX12_reached_97 : decode cX12_reached 97 = .ok (.ireturn, 1) := by decide +kernel
theorem dX12_feedback_0 : decode cX12_feedback 0 = .ok (.iconst 0, 1) := by decide +kernel
theorem dX12_feedback_1 : decode cX12_feedback 1 = .ok (.istore_n 2, 1) := by decide +kernel
theorem dX12_feedback_2 : decode cX12_feedback 2 = .ok (.aload_n 0, 1) := by decide +kernel
theorem dX12_feedback_3 : decode cX12_feedback 3 = .ok (.iload_n 1, 1) := by decide +kernel
theorem dX12_feedback_4 : decode cX12_feedback 4 = .ok (.invokevirtual 251, 3) := by decide +kernel
theorem dX12_feedback_7 : decode cX12_feedback 7 = .ok (.istore_n 3, 1) := by decide +kernel
theorem dX12_feedback_8 : decode cX12_feedback 8 = .ok (.iconst 0, 1) := by decide +kernel
theorem dX12_feedback_9 : decode cX12_feedback 9 = .ok (.istore 4, 2) := by decide +kernel
theorem dX12_feedback_11 : decode cX12_feedback 11 = .ok (.iload 4, 2) := by decide +kernel
theorem dX12_feedback_13 : decode cX12_feedback 13 = .ok (.aload_n 0, 1) := by decide +kernel
theorem dX12_feedback_14 : decode cX12_feedback 14 = .ok (.getfield 11, 3) := by decide +kernel
theorem dX12_feedback_17 : decode cX12_feedback 17 = .ok (.iconst 0, 1) := by decide +kernel
theorem dX12_feedback_18 : decode cX12_feedback 18 = .ok (.iaload, 1) := by decide +kernel
theorem dX12_feedback_19 : decode cX12_feedback 19 = .ok (.if_icmp .ge 44, 3) := by decide +kernel
theorem dX12_feedback_22 : decode cX12_feedback 22 = .ok (.iload_n 2, 1) := by decide +kernel
theorem dX12_feedback_23 : decode cX12_feedback 23 = .ok (.iload_n 3, 1) := by decide +kernel
theorem dX12_feedback_24 : decode cX12_feedback 24 = .ok (.iload 4, 2) := by decide +kernel
theorem dX12_feedback_26 : decode cX12_feedback 26 = .ok (.ishr, 1) := by decide +kernel
theorem dX12_feedback_27 : decode cX12_feedback 27 = .ok (.iconst 1, 1) := by decide +kernel
theorem dX12_feedback_28 : decode cX12_feedback 28 = .ok (.iand, 1) := by decide +kernel
theorem dX12_feedback_29 : decode cX12_feedback 29 = .ok (.iconst 1, 1) := by decide +kernel
theorem dX12_feedback_30 : decode cX12_feedback 30 = .ok (.if_icmp .ne 24, 3) := by decide +kernel
theorem dX12_feedback_33 : decode cX12_feedback 33 = .ok (.aload_n 0, 1) := by decide +kernel
theorem dX12_feedback_34 : decode cX12_feedback 34 = .ok (.iload 4, 2) := by decide +kernel
theorem dX12_feedback_36 : decode cX12_feedback 36 = .ok (.invokevirtual 251, 3) := by decide +kernel
theorem dX12_feedback_39 : decode cX12_feedback 39 = .ok (.iload_n 1, 1) := by decide +kernel
theorem dX12_feedback_40 : decode cX12_feedback 40 = .ok (.ishr, 1) := by decide +kernel
theorem dX12_feedback_41 : decode cX12_feedback 41 = .ok (.iconst 1, 1) := by decide +kernel
theorem dX12_feedback_42 : decode cX12_feedback 42 = .ok (.iand, 1) := by decide +kernel
theorem dX12_feedback_43 : decode cX12_feedback 43 = .ok (.iconst 1, 1) := by decide +kernel
theorem dX12_feedback_44 : decode cX12_feedback 44 = .ok (.if_icmp .ne 10, 3) := by decide +kernel
theorem dX12_feedback_47 : decode cX12_feedback 47 = .ok (.iconst 1, 1) := by decide +kernel
theorem dX12_feedback_48 : decode cX12_feedback 48 = .ok (.iload 4, 2) := by decide +kernel
theorem dX12_feedback_50 : decode cX12_feedback 50 = .ok (.ishl, 1) := by decide +kernel
theorem dX12_feedback_51 : decode cX12_feedback 51 = .ok (.goto 4, 3) := by decide +kernel
theorem dX12_feedback_54 : decode cX12_feedback 54 = .ok (.iconst 0, 1) := by decide +kernel
theorem dX12_feedback_55 : decode cX12_feedback 55 = .ok (.ior, 1) := by decide +kernel
theorem dX12_feedback_56 : decode cX12_feedback 56 = .ok (.istore_n 2, 1) := by decide +kernel
theorem dX12_feedback_57 : decode cX12_feedback 57 = .ok (.iinc 4 1, 3) := by decide +kernel
theorem dX12_feedback_60 : decode cX12_feedback 60 = .ok (.goto (-49), 3) := by decide +kernel
theorem dX12_feedback_63 : decode cX12_feedback 63 = .ok (.iload_n 2, 1) := by decide +kernel
theorem dX12_feedback_64 : decode cX12_feedback 64 = .ok (.ireturn, 1) := by decide +kernel
theorem dX12_wires_0 : decode cX12_wires 0 = .ok (.iconst 0, 1) := by decide +kernel
theorem dX12_wires_1 : decode cX12_wires 1 = .ok (.istore_n 3, 1) := by decide +kernel
theorem dX12_wires_2 : decode cX12_wires 2 = .ok (.iconst 0, 1) := by decide +kernel
theorem dX12_wires_3 : decode cX12_wires 3 = .ok (.istore 4, 2) := by decide +kernel
theorem dX12_wires_5 : decode cX12_wires 5 = .ok (.iload 4, 2) := by decide +kernel
theorem dX12_wires_7 : decode cX12_wires 7 = .ok (.aload_n 0, 1) := by decide +kernel
theorem dX12_wires_8 : decode cX12_wires 8 = .ok (.getfield 11, 3) := by decide +kernel
theorem dX12_wires_11 : decode cX12_wires 11 = .ok (.iconst 1, 1) := by decide +kernel
theorem dX12_wires_12 : decode cX12_wires 12 = .ok (.iaload, 1) := by decide +kernel
theorem dX12_wires_13 : decode cX12_wires 13 = .ok (.if_icmp .ge 52, 3) := by decide +kernel
theorem dX12_wires_16 : decode cX12_wires 16 = .ok (.iload_n 3, 1) := by decide +kernel
theorem dX12_wires_17 : decode cX12_wires 17 = .ok (.aload_n 0, 1) := by decide +kernel
theorem dX12_wires_18 : decode cX12_wires 18 = .ok (.iload 4, 2) := by decide +kernel
theorem dX12_wires_20 : decode cX12_wires 20 = .ok (.invokevirtual 73, 3) := by decide +kernel
theorem dX12_wires_23 : decode cX12_wires 23 = .ok (.ifCond .eq 33, 3) := by decide +kernel
theorem dX12_wires_26 : decode cX12_wires 26 = .ok (.iload_n 2, 1) := by decide +kernel
theorem dX12_wires_27 : decode cX12_wires 27 = .ok (.ifCond .eq 12, 3) := by decide +kernel
theorem dX12_wires_30 : decode cX12_wires 30 = .ok (.aload_n 0, 1) := by decide +kernel
theorem dX12_wires_31 : decode cX12_wires 31 = .ok (.iload 4, 2) := by decide +kernel
theorem dX12_wires_33 : decode cX12_wires 33 = .ok (.invokevirtual 121, 3) := by decide +kernel
theorem dX12_wires_36 : decode cX12_wires 36 = .ok (.goto 9, 3) := by decide +kernel
theorem dX12_wires_39 : decode cX12_wires 39 = .ok (.aload_n 0, 1) := by decide +kernel
theorem dX12_wires_40 : decode cX12_wires 40 = .ok (.iload 4, 2) := by decide +kernel
theorem dX12_wires_42 : decode cX12_wires 42 = .ok (.invokevirtual 127, 3) := by decide +kernel
theorem dX12_wires_45 : decode cX12_wires 45 = .ok (.iload_n 1, 1) := by decide +kernel
theorem dX12_wires_46 : decode cX12_wires 46 = .ok (.if_icmp .ne 10, 3) := by decide +kernel
theorem dX12_wires_49 : decode cX12_wires 49 = .ok (.iconst 1, 1) := by decide +kernel
theorem dX12_wires_50 : decode cX12_wires 50 = .ok (.iload 4, 2) := by decide +kernel
theorem dX12_wires_52 : decode cX12_wires 52 = .ok (.ishl, 1) := by decide +kernel
theorem dX12_wires_53 : decode cX12_wires 53 = .ok (.goto 4, 3) := by decide +kernel
theorem dX12_wires_56 : decode cX12_wires 56 = .ok (.iconst 0, 1) := by decide +kernel
theorem dX12_wires_57 : decode cX12_wires 57 = .ok (.ior, 1) := by decide +kernel
theorem dX12_wires_58 : decode cX12_wires 58 = .ok (.istore_n 3, 1) := by decide +kernel
theorem dX12_wires_59 : decode cX12_wires 59 = .ok (.iinc 4 1, 3) := by decide +kernel
theorem dX12_wires_62 : decode cX12_wires 62 = .ok (.goto (-57), 3) := by decide +kernel
theorem dX12_wires_65 : decode cX12_wires 65 = .ok (.iload_n 3, 1) := by decide +kernel
theorem dX12_wires_66 : decode cX12_wires 66 = .ok (.ireturn, 1) := by decide +kernel
theorem dX12_of_0 : decode cX12_of 0 = .ok (.aload_n 0, 1) := by decide +kernel
theorem dX12_of_1 : decode cX12_of 1 = .ok (.iload_n 1, 1) := by decide +kernel
theorem dX12_of_2 : decode cX12_of 2 = .ok (.invokevirtual 69, 3) := by decide +kernel
theorem dX12_of_5 : decode cX12_of 5 = .ok (.ifCond .ne 5, 3) := by decide +kernel
theorem dX12_of_8 : decode cX12_of 8 = .ok (.iconst (-1), 1) := by decide +kernel
theorem dX12_of_9 : decode cX12_of 9 = .ok (.ireturn, 1) := by decide +kernel
theorem dX12_of_10 : decode cX12_of 10 = .ok (.iload_n 2, 1) := by decide +kernel
theorem dX12_of_11 : decode cX12_of 11 = .ok (.tableswitch 111 0 7 #[45, 45, 45, 58, 77, 91, 97, 104], 45) := by decide +kernel
theorem dX12_of_56 : decode cX12_of 56 = .ok (.aload_n 0, 1) := by decide +kernel
theorem dX12_of_57 : decode cX12_of 57 = .ok (.getfield 11, 3) := by decide +kernel
theorem dX12_of_60 : decode cX12_of 60 = .ok (.iconst 5, 1) := by decide +kernel
theorem dX12_of_61 : decode cX12_of 61 = .ok (.iconst 3, 1) := by decide +kernel
theorem dX12_of_62 : decode cX12_of 62 = .ok (.iload_n 1, 1) := by decide +kernel
theorem dX12_of_63 : decode cX12_of 63 = .ok (.imul, 1) := by decide +kernel
theorem dX12_of_64 : decode cX12_of 64 = .ok (.iadd, 1) := by decide +kernel
theorem dX12_of_65 : decode cX12_of 65 = .ok (.iload_n 2, 1) := by decide +kernel
theorem dX12_of_66 : decode cX12_of 66 = .ok (.iadd, 1) := by decide +kernel
theorem dX12_of_67 : decode cX12_of 67 = .ok (.iaload, 1) := by decide +kernel
theorem dX12_of_68 : decode cX12_of 68 = .ok (.ireturn, 1) := by decide +kernel
theorem dX12_of_69 : decode cX12_of 69 = .ok (.aload_n 0, 1) := by decide +kernel
theorem dX12_of_70 : decode cX12_of 70 = .ok (.invokevirtual 220, 3) := by decide +kernel
theorem dX12_of_73 : decode cX12_of 73 = .ok (.ifCond .eq 12, 3) := by decide +kernel
theorem dX12_of_76 : decode cX12_of 76 = .ok (.aload_n 0, 1) := by decide +kernel
theorem dX12_of_77 : decode cX12_of 77 = .ok (.getfield 34, 3) := by decide +kernel
theorem dX12_of_80 : decode cX12_of 80 = .ok (.iload_n 1, 1) := by decide +kernel
theorem dX12_of_81 : decode cX12_of 81 = .ok (.iaload, 1) := by decide +kernel
theorem dX12_of_82 : decode cX12_of 82 = .ok (.goto 5, 3) := by decide +kernel
theorem dX12_of_85 : decode cX12_of 85 = .ok (.bipush (-5), 2) := by decide +kernel
theorem dX12_of_87 : decode cX12_of 87 = .ok (.ireturn, 1) := by decide +kernel
theorem dX12_of_88 : decode cX12_of 88 = .ok (.aload_n 0, 1) := by decide +kernel
theorem dX12_of_89 : decode cX12_of 89 = .ok (.iload_n 1, 1) := by decide +kernel
theorem dX12_of_90 : decode cX12_of 90 = .ok (.invokevirtual 163, 3) := by decide +kernel
theorem dX12_of_93 : decode cX12_of 93 = .ok (.ifCond .eq 7, 3) := by decide +kernel
theorem dX12_of_96 : decode cX12_of 96 = .ok (.iconst 1, 1) := by decide +kernel
theorem dX12_of_97 : decode cX12_of 97 = .ok (.goto 4, 3) := by decide +kernel
theorem dX12_of_100 : decode cX12_of 100 = .ok (.iconst 0, 1) := by decide +kernel
theorem dX12_of_101 : decode cX12_of 101 = .ok (.ireturn, 1) := by decide +kernel
theorem dX12_of_102 : decode cX12_of 102 = .ok (.aload_n 0, 1) := by decide +kernel
theorem dX12_of_103 : decode cX12_of 103 = .ok (.iload_n 1, 1) := by decide +kernel
theorem dX12_of_104 : decode cX12_of 104 = .ok (.invokevirtual 254, 3) := by decide +kernel
theorem dX12_of_107 : decode cX12_of 107 = .ok (.ireturn, 1) := by decide +kernel
theorem dX12_of_108 : decode cX12_of 108 = .ok (.aload_n 0, 1) := by decide +kernel
theorem dX12_of_109 : decode cX12_of 109 = .ok (.iload_n 1, 1) := by decide +kernel
theorem dX12_of_110 : decode cX12_of 110 = .ok (.iconst 1, 1) := by decide +kernel
theorem dX12_of_111 : decode cX12_of 111 = .ok (.invokevirtual 257, 3) := by decide +kernel
theorem dX12_of_114 : decode cX12_of 114 = .ok (.ireturn, 1) := by decide +kernel
theorem dX12_of_115 : decode cX12_of 115 = .ok (.aload_n 0, 1) := by decide +kernel
theorem dX12_of_116 : decode cX12_of 116 = .ok (.iload_n 1, 1) := by decide +kernel
theorem dX12_of_117 : decode cX12_of 117 = .ok (.iconst 0, 1) := by decide +kernel
theorem dX12_of_118 : decode cX12_of 118 = .ok (.invokevirtual 257, 3) := by decide +kernel
theorem dX12_of_121 : decode cX12_of 121 = .ok (.ireturn, 1) := by decide +kernel
theorem dX12_of_122 : decode cX12_of 122 = .ok (.iconst (-1), 1) := by decide +kernel
theorem dX12_of_123 : decode cX12_of 123 = .ok (.ireturn, 1) := by decide +kernel
theorem dX12_goesWith_0 : decode cX12_goesWith 0 = .ok (.bipush 74, 2) := by decide +kernel
theorem dX12_goesWith_2 : decode cX12_goesWith 2 = .ok (.bipush 105, 2) := by decide +kernel
theorem dX12_goesWith_4 : decode cX12_goesWith 4 = .ok (.iload_n 1, 1) := by decide +kernel
theorem dX12_goesWith_5 : decode cX12_goesWith 5 = .ok (.imul, 1) := by decide +kernel
theorem dX12_goesWith_6 : decode cX12_goesWith 6 = .ok (.iadd, 1) := by decide +kernel
theorem dX12_goesWith_7 : decode cX12_goesWith 7 = .ok (.iconst 5, 1) := by decide +kernel
theorem dX12_goesWith_8 : decode cX12_goesWith 8 = .ok (.iadd, 1) := by decide +kernel
theorem dX12_goesWith_9 : decode cX12_goesWith 9 = .ok (.istore_n 3, 1) := by decide +kernel
theorem dX12_goesWith_10 : decode cX12_goesWith 10 = .ok (.aload_n 0, 1) := by decide +kernel
theorem dX12_goesWith_11 : decode cX12_goesWith 11 = .ok (.getfield 11, 3) := by decide +kernel
theorem dX12_goesWith_14 : decode cX12_goesWith 14 = .ok (.aload_n 0, 1) := by decide +kernel
theorem dX12_goesWith_15 : decode cX12_goesWith 15 = .ok (.getfield 15, 3) := by decide +kernel
theorem dX12_goesWith_18 : decode cX12_goesWith 18 = .ok (.invokestatic 213, 3) := by decide +kernel
theorem dX12_goesWith_21 : decode cX12_goesWith 21 = .ok (.aload_n 0, 1) := by decide +kernel
theorem dX12_goesWith_22 : decode cX12_goesWith 22 = .ok (.getfield 11, 3) := by decide +kernel
theorem dX12_goesWith_25 : decode cX12_goesWith 25 = .ok (.iload_n 3, 1) := by decide +kernel
theorem dX12_goesWith_26 : decode cX12_goesWith 26 = .ok (.iload_n 2, 1) := by decide +kernel
theorem dX12_goesWith_27 : decode cX12_goesWith 27 = .ok (.iastore, 1) := by decide +kernel
theorem dX12_goesWith_28 : decode cX12_goesWith 28 = .ok (.iconst 0, 1) := by decide +kernel
theorem dX12_goesWith_29 : decode cX12_goesWith 29 = .ok (.istore 4, 2) := by decide +kernel
theorem dX12_goesWith_31 : decode cX12_goesWith 31 = .ok (.iload 4, 2) := by decide +kernel
theorem dX12_goesWith_33 : decode cX12_goesWith 33 = .ok (.iload_n 2, 1) := by decide +kernel
theorem dX12_goesWith_34 : decode cX12_goesWith 34 = .ok (.if_icmp .ge 21, 3) := by decide +kernel
theorem dX12_goesWith_37 : decode cX12_goesWith 37 = .ok (.aload_n 0, 1) := by decide +kernel
theorem dX12_goesWith_38 : decode cX12_goesWith 38 = .ok (.getfield 11, 3) := by decide +kernel
theorem dX12_goesWith_41 : decode cX12_goesWith 41 = .ok (.iload_n 3, 1) := by decide +kernel
theorem dX12_goesWith_42 : decode cX12_goesWith 42 = .ok (.iconst 1, 1) := by decide +kernel
theorem dX12_goesWith_43 : decode cX12_goesWith 43 = .ok (.iadd, 1) := by decide +kernel
theorem dX12_goesWith_44 : decode cX12_goesWith 44 = .ok (.iload 4, 2) := by decide +kernel
theorem dX12_goesWith_46 : decode cX12_goesWith 46 = .ok (.iadd, 1) := by decide +kernel
theorem dX12_goesWith_47 : decode cX12_goesWith 47 = .ok (.iconst 0, 1) := by decide +kernel
theorem dX12_goesWith_48 : decode cX12_goesWith 48 = .ok (.iastore, 1) := by decide +kernel
theorem dX12_goesWith_49 : decode cX12_goesWith 49 = .ok (.iinc 4 1, 3) := by decide +kernel
theorem dX12_goesWith_52 : decode cX12_goesWith 52 = .ok (.goto (-21), 3) := by decide +kernel
theorem dX12_goesWith_55 : decode cX12_goesWith 55 = .ok (.aload_n 0, 1) := by decide +kernel
theorem dX12_goesWith_56 : decode cX12_goesWith 56 = .ok (.invokevirtual 217, 3) := by decide +kernel
theorem dX12_goesWith_59 : decode cX12_goesWith 59 = .ok (.istore 4, 2) := by decide +kernel
theorem dX12_goesWith_61 : decode cX12_goesWith 61 = .ok (.aload_n 0, 1) := by decide +kernel
theorem dX12_goesWith_62 : decode cX12_goesWith 62 = .ok (.getfield 15, 3) := by decide +kernel
theorem dX12_goesWith_65 : decode cX12_goesWith 65 = .ok (.aload_n 0, 1) := by decide +kernel
theorem dX12_goesWith_66 : decode cX12_goesWith 66 = .ok (.getfield 11, 3) := by decide +kernel
theorem dX12_goesWith_69 : decode cX12_goesWith 69 = .ok (.invokestatic 213, 3) := by decide +kernel
theorem dX12_goesWith_72 : decode cX12_goesWith 72 = .ok (.iload 4, 2) := by decide +kernel
theorem dX12_goesWith_74 : decode cX12_goesWith 74 = .ok (.ireturn, 1) := by decide +kernel
theorem dX12_need_0 : decode cX12_need 0 = .ok (.iconst 0, 1) := by decide +kernel
theorem dX12_need_1 : decode cX12_need 1 = .ok (.istore_n 2, 1) := by decide +kernel
theorem dX12_need_2 : decode cX12_need 2 = .ok (.iload_n 2, 1) := by decide +kernel
theorem dX12_need_3 : decode cX12_need 3 = .ok (.bipush 20, 2) := by decide +kernel
theorem dX12_need_5 : decode cX12_need 5 = .ok (.if_icmp .gt 20, 3) := by decide +kernel
theorem dX12_need_8 : decode cX12_need 8 = .ok (.aload_n 0, 1) := by decide +kernel
theorem dX12_need_9 : decode cX12_need 9 = .ok (.iload_n 1, 1) := by decide +kernel
theorem dX12_need_10 : decode cX12_need 10 = .ok (.iload_n 2, 1) := by decide +kernel
theorem dX12_need_11 : decode cX12_need 11 = .ok (.invokevirtual 261, 3) := by decide +kernel
theorem dX12_need_14 : decode cX12_need 14 = .ok (.ifCond .eq 5, 3) := by decide +kernel
theorem dX12_need_17 : decode cX12_need 17 = .ok (.iload_n 2, 1) := by decide +kernel
theorem dX12_need_18 : decode cX12_need 18 = .ok (.ireturn, 1) := by decide +kernel
theorem dX12_need_19 : decode cX12_need 19 = .ok (.iinc 2 1, 3) := by decide +kernel
theorem dX12_need_22 : decode cX12_need 22 = .ok (.goto (-20), 3) := by decide +kernel
theorem dX12_need_25 : decode cX12_need 25 = .ok (.bipush (-5), 2) := by decide +kernel
theorem dX12_need_27 : decode cX12_need 27 = .ok (.ireturn, 1) := by decide +kernel
theorem dX12_about_0 : decode cX12_about 0 = .ok (.aload_n 0, 1) := by decide +kernel
theorem dX12_about_1 : decode cX12_about 1 = .ok (.iload_n 1, 1) := by decide +kernel
theorem dX12_about_2 : decode cX12_about 2 = .ok (.invokevirtual 73, 3) := by decide +kernel
theorem dX12_about_5 : decode cX12_about 5 = .ok (.ifCond .ne 5, 3) := by decide +kernel
theorem dX12_about_8 : decode cX12_about 8 = .ok (.iconst (-1), 1) := by decide +kernel
theorem dX12_about_9 : decode cX12_about 9 = .ok (.ireturn, 1) := by decide +kernel
theorem dX12_about_10 : decode cX12_about 10 = .ok (.iload_n 2, 1) := by decide +kernel
theorem dX12_about_11 : decode cX12_about 11 = .ok (.i2l, 1) := by decide +kernel
theorem dX12_about_12 : decode cX12_about 12 = .ok (.lconst 0, 1) := by decide +kernel
theorem dX12_about_13 : decode cX12_about 13 = .ok (.ldc2_w 265, 3) := by decide +kernel
theorem dX12_about_16 : decode cX12_about 16 = .ok (.invokestatic 61, 3) := by decide +kernel
theorem dX12_about_19 : decode cX12_about 19 = .ok (.ifCond .eq 18, 3) := by decide +kernel
theorem dX12_about_22 : decode cX12_about 22 = .ok (.aload_n 0, 1) := by decide +kernel
theorem dX12_about_23 : decode cX12_about 23 = .ok (.getfield 11, 3) := by decide +kernel
theorem dX12_about_26 : decode cX12_about 26 = .ok (.bipush 74, 2) := by decide +kernel
theorem dX12_about_28 : decode cX12_about 28 = .ok (.bipush 105, 2) := by decide +kernel
theorem dX12_about_30 : decode cX12_about 30 = .ok (.iload_n 1, 1) := by decide +kernel
theorem dX12_about_31 : decode cX12_about 31 = .ok (.imul, 1) := by decide +kernel
theorem dX12_about_32 : decode cX12_about 32 = .ok (.iadd, 1) := by decide +kernel
theorem dX12_about_33 : decode cX12_about 33 = .ok (.iload_n 2, 1) := by decide +kernel
theorem dX12_about_34 : decode cX12_about 34 = .ok (.iadd, 1) := by decide +kernel
theorem dX12_about_35 : decode cX12_about 35 = .ok (.iaload, 1) := by decide +kernel
theorem dX12_about_36 : decode cX12_about 36 = .ok (.ireturn, 1) := by decide +kernel
theorem dX12_about_37 : decode cX12_about 37 = .ok (.iload_n 2, 1) := by decide +kernel
theorem dX12_about_38 : decode cX12_about 38 = .ok (.iconst 4, 1) := by decide +kernel
theorem dX12_about_39 : decode cX12_about 39 = .ok (.if_icmp .ne 9, 3) := by decide +kernel
theorem dX12_about_42 : decode cX12_about 42 = .ok (.aload_n 0, 1) := by decide +kernel
theorem dX12_about_43 : decode cX12_about 43 = .ok (.iload_n 1, 1) := by decide +kernel
theorem dX12_about_44 : decode cX12_about 44 = .ok (.invokevirtual 76, 3) := by decide +kernel
theorem dX12_about_47 : decode cX12_about 47 = .ok (.ireturn, 1) := by decide +kernel
theorem dX12_about_48 : decode cX12_about 48 = .ok (.iload_n 2, 1) := by decide +kernel
theorem dX12_about_49 : decode cX12_about 49 = .ok (.iconst 5, 1) := by decide +kernel
theorem dX12_about_50 : decode cX12_about 50 = .ok (.if_icmp .eq 11, 3) := by decide +kernel
theorem dX12_about_53 : decode cX12_about 53 = .ok (.iload_n 2, 1) := by decide +kernel
theorem dX12_about_54 : decode cX12_about 54 = .ok (.bipush 6, 2) := by decide +kernel
theorem dX12_about_56 : decode cX12_about 56 = .ok (.if_icmp .eq 5, 3) := by decide +kernel
theorem dX12_about_59 : decode cX12_about 59 = .ok (.iconst (-1), 1) := by decide +kernel
theorem dX12_about_60 : decode cX12_about 60 = .ok (.ireturn, 1) := by decide +kernel
theorem dX12_about_61 : decode cX12_about 61 = .ok (.aload_n 0, 1) := by decide +kernel
theorem dX12_about_62 : decode cX12_about 62 = .ok (.invokevirtual 220, 3) := by decide +kernel
theorem dX12_about_65 : decode cX12_about 65 = .ok (.ifCond .ne 6, 3) := by decide +kernel
theorem dX12_about_68 : decode cX12_about 68 = .ok (.bipush (-5), 2) := by decide +kernel
theorem dX12_about_70 : decode cX12_about 70 = .ok (.ireturn, 1) := by decide +kernel
theorem dX12_about_71 : decode cX12_about 71 = .ok (.iload_n 2, 1) := by decide +kernel
theorem dX12_about_72 : decode cX12_about 72 = .ok (.bipush 6, 2) := by decide +kernel
theorem dX12_about_74 : decode cX12_about 74 = .ok (.if_icmp .ne 9, 3) := by decide +kernel
theorem dX12_about_77 : decode cX12_about 77 = .ok (.aload_n 0, 1) := by decide +kernel
theorem dX12_about_78 : decode cX12_about 78 = .ok (.iload_n 1, 1) := by decide +kernel
theorem dX12_about_79 : decode cX12_about 79 = .ok (.invokevirtual 267, 3) := by decide +kernel
theorem dX12_about_82 : decode cX12_about 82 = .ok (.ireturn, 1) := by decide +kernel
theorem dX12_about_83 : decode cX12_about 83 = .ok (.aload_n 0, 1) := by decide +kernel
theorem dX12_about_84 : decode cX12_about 84 = .ok (.invokevirtual 226, 3) := by decide +kernel
theorem dX12_about_87 : decode cX12_about 87 = .ok (.istore_n 3, 1) := by decide +kernel
theorem dX12_about_88 : decode cX12_about 88 = .ok (.aload_n 0, 1) := by decide +kernel
theorem dX12_about_89 : decode cX12_about 89 = .ok (.getfield 40, 3) := by decide +kernel
theorem dX12_about_92 : decode cX12_about 92 = .ok (.iload_n 1, 1) := by decide +kernel
theorem dX12_about_93 : decode cX12_about 93 = .ok (.iaload, 1) := by decide +kernel
theorem dX12_about_94 : decode cX12_about 94 = .ok (.ireturn, 1) := by decide +kernel
theorem dX12_read_0 : decode cX12_read 0 = .ok (.aload_n 0, 1) := by decide +kernel
theorem dX12_read_1 : decode cX12_read 1 = .ok (.iload_n 1, 1) := by decide +kernel
theorem dX12_read_2 : decode cX12_read 2 = .ok (.invokevirtual 73, 3) := by decide +kernel
theorem dX12_read_5 : decode cX12_read 5 = .ok (.ifCond .eq 41, 3) := by decide +kernel
theorem dX12_read_8 : decode cX12_read 8 = .ok (.iload_n 2, 1) := by decide +kernel
theorem dX12_read_9 : decode cX12_read 9 = .ok (.i2l, 1) := by decide +kernel
theorem dX12_read_10 : decode cX12_read 10 = .ok (.lconst 0, 1) := by decide +kernel
theorem dX12_read_11 : decode cX12_read 11 = .ok (.aload_n 0, 1) := by decide +kernel
theorem dX12_read_12 : decode cX12_read 12 = .ok (.iload_n 1, 1) := by decide +kernel
theorem dX12_read_13 : decode cX12_read 13 = .ok (.invokevirtual 76, 3) := by decide +kernel
theorem dX12_read_16 : decode cX12_read 16 = .ok (.iconst 1, 1) := by decide +kernel
theorem dX12_read_17 : decode cX12_read 17 = .ok (.isub, 1) := by decide +kernel
theorem dX12_read_18 : decode cX12_read 18 = .ok (.i2l, 1) := by decide +kernel
theorem dX12_read_19 : decode cX12_read 19 = .ok (.invokestatic 61, 3) := by decide +kernel
theorem dX12_read_22 : decode cX12_read 22 = .ok (.ifCond .eq 24, 3) := by decide +kernel
theorem dX12_read_25 : decode cX12_read 25 = .ok (.aload_n 0, 1) := by decide +kernel
theorem dX12_read_26 : decode cX12_read 26 = .ok (.getfield 11, 3) := by decide +kernel
theorem dX12_read_29 : decode cX12_read 29 = .ok (.bipush 74, 2) := by decide +kernel
theorem dX12_read_31 : decode cX12_read 31 = .ok (.bipush 105, 2) := by decide +kernel
theorem dX12_read_33 : decode cX12_read 33 = .ok (.iload_n 1, 1) := by decide +kernel
theorem dX12_read_34 : decode cX12_read 34 = .ok (.imul, 1) := by decide +kernel
theorem dX12_read_35 : decode cX12_read 35 = .ok (.iadd, 1) := by decide +kernel
theorem dX12_read_36 : decode cX12_read 36 = .ok (.bipush 6, 2) := by decide +kernel
theorem dX12_read_38 : decode cX12_read 38 = .ok (.iadd, 1) := by decide +kernel
theorem dX12_read_39 : decode cX12_read 39 = .ok (.iload_n 2, 1) := by decide +kernel
theorem dX12_read_40 : decode cX12_read 40 = .ok (.iadd, 1) := by decide +kernel
theorem dX12_read_41 : decode cX12_read 41 = .ok (.iaload, 1) := by decide +kernel
theorem dX12_read_42 : decode cX12_read 42 = .ok (.i2l, 1) := by decide +kernel
theorem dX12_read_43 : decode cX12_read 43 = .ok (.goto 6, 3) := by decide +kernel
theorem dX12_read_46 : decode cX12_read 46 = .ok (.ldc2_w 169, 3) := by decide +kernel
theorem dX12_read_49 : decode cX12_read 49 = .ok (.lreturn, 1) := by decide +kernel
theorem dX12_goesOn_0 : decode cX12_goesOn 0 = .ok (.aload_n 0, 1) := by decide +kernel
theorem dX12_goesOn_1 : decode cX12_goesOn 1 = .ok (.getfield 11, 3) := by decide +kernel
theorem dX12_goesOn_4 : decode cX12_goesOn 4 = .ok (.aload_n 0, 1) := by decide +kernel
theorem dX12_goesOn_5 : decode cX12_goesOn 5 = .ok (.getfield 49, 3) := by decide +kernel
theorem dX12_goesOn_8 : decode cX12_goesOn 8 = .ok (.invokestatic 213, 3) := by decide +kernel
theorem dX12_goesOn_11 : decode cX12_goesOn 11 = .ok (.aload_n 0, 1) := by decide +kernel
theorem dX12_goesOn_12 : decode cX12_goesOn 12 = .ok (.invokevirtual 220, 3) := by decide +kernel
theorem dX12_goesOn_15 : decode cX12_goesOn 15 = .ok (.ifCond .eq 11, 3) := by decide +kernel
theorem dX12_goesOn_18 : decode cX12_goesOn 18 = .ok (.aload_n 0, 1) := by decide +kernel
theorem dX12_goesOn_19 : decode cX12_goesOn 19 = .ok (.iload_n 1, 1) := by decide +kernel
theorem dX12_goesOn_20 : decode cX12_goesOn 20 = .ok (.invokevirtual 223, 3) := by decide +kernel
theorem dX12_goesOn_23 : decode cX12_goesOn 23 = .ok (.goto 4, 3) := by decide +kernel
theorem dX12_goesOn_26 : decode cX12_goesOn 26 = .ok (.iconst 0, 1) := by decide +kernel
theorem dX12_goesOn_27 : decode cX12_goesOn 27 = .ok (.ireturn, 1) := by decide +kernel
theorem dX12_on_0 : decode cX12_on 0 = .ok (.aload_n 0, 1) := by decide +kernel
theorem dX12_on_1 : decode cX12_on 1 = .ok (.iload_n 2, 1) := by decide +kernel
theorem dX12_on_2 : decode cX12_on 2 = .ok (.invokevirtual 73, 3) := by decide +kernel
theorem dX12_on_5 : decode cX12_on 5 = .ok (.ifCond .ne 5, 3) := by decide +kernel
theorem dX12_on_8 : decode cX12_on 8 = .ok (.iconst (-1), 1) := by decide +kernel
theorem dX12_on_9 : decode cX12_on 9 = .ok (.ireturn, 1) := by decide +kernel
theorem dX12_on_10 : decode cX12_on 10 = .ok (.iload_n 1, 1) := by decide +kernel
theorem dX12_on_11 : decode cX12_on 11 = .ok (.i2l, 1) := by decide +kernel
theorem dX12_on_12 : decode cX12_on 12 = .ok (.lconst 0, 1) := by decide +kernel
theorem dX12_on_13 : decode cX12_on 13 = .ok (.ldc2_w 67, 3) := by decide +kernel
theorem dX12_on_16 : decode cX12_on 16 = .ok (.invokestatic 61, 3) := by decide +kernel
theorem dX12_on_19 : decode cX12_on 19 = .ok (.ifCond .ne 6, 3) := by decide +kernel
theorem dX12_on_22 : decode cX12_on 22 = .ok (.bipush (-2), 2) := by decide +kernel
theorem dX12_on_24 : decode cX12_on 24 = .ok (.ireturn, 1) := by decide +kernel
theorem dX12_on_25 : decode cX12_on 25 = .ok (.aload_n 0, 1) := by decide +kernel
theorem dX12_on_26 : decode cX12_on 26 = .ok (.iload_n 1, 1) := by decide +kernel
theorem dX12_on_27 : decode cX12_on 27 = .ok (.invokevirtual 270, 3) := by decide +kernel
theorem dX12_on_30 : decode cX12_on 30 = .ok (.istore_n 3, 1) := by decide +kernel
theorem dX12_on_31 : decode cX12_on 31 = .ok (.aload_n 0, 1) := by decide +kernel
theorem dX12_on_32 : decode cX12_on 32 = .ok (.iload_n 2, 1) := by decide +kernel
theorem dX12_on_33 : decode cX12_on 33 = .ok (.invokevirtual 76, 3) := by decide +kernel
theorem dX12_on_36 : decode cX12_on 36 = .ok (.istore 4, 2) := by decide +kernel
theorem dX12_on_38 : decode cX12_on 38 = .ok (.aload_n 0, 1) := by decide +kernel
theorem dX12_on_39 : decode cX12_on 39 = .ok (.getfield 49, 3) := by decide +kernel
theorem dX12_on_42 : decode cX12_on 42 = .ok (.aload_n 0, 1) := by decide +kernel
theorem dX12_on_43 : decode cX12_on 43 = .ok (.getfield 11, 3) := by decide +kernel
theorem dX12_on_46 : decode cX12_on 46 = .ok (.invokestatic 213, 3) := by decide +kernel
theorem dX12_on_49 : decode cX12_on 49 = .ok (.iload 4, 2) := by decide +kernel
theorem dX12_on_51 : decode cX12_on 51 = .ok (.ireturn, 1) := by decide +kernel
theorem dX12_then_0 : decode cX12_then 0 = .ok (.aload_n 0, 1) := by decide +kernel
theorem dX12_then_1 : decode cX12_then 1 = .ok (.iload_n 2, 1) := by decide +kernel
theorem dX12_then_2 : decode cX12_then 2 = .ok (.invokevirtual 73, 3) := by decide +kernel
theorem dX12_then_5 : decode cX12_then 5 = .ok (.ifCond .eq 15, 3) := by decide +kernel
theorem dX12_then_8 : decode cX12_then 8 = .ok (.iload_n 1, 1) := by decide +kernel
theorem dX12_then_9 : decode cX12_then 9 = .ok (.i2l, 1) := by decide +kernel
theorem dX12_then_10 : decode cX12_then 10 = .ok (.lconst 0, 1) := by decide +kernel
theorem dX12_then_11 : decode cX12_then 11 = .ok (.ldc2_w 67, 3) := by decide +kernel
theorem dX12_then_14 : decode cX12_then 14 = .ok (.invokestatic 61, 3) := by decide +kernel
theorem dX12_then_17 : decode cX12_then 17 = .ok (.ifCond .ne 7, 3) := by decide +kernel
theorem dX12_then_20 : decode cX12_then 20 = .ok (.ldc2_w 169, 3) := by decide +kernel
theorem dX12_then_23 : decode cX12_then 23 = .ok (.lreturn, 1) := by decide +kernel
theorem dX12_then_24 : decode cX12_then 24 = .ok (.aload_n 0, 1) := by decide +kernel
theorem dX12_then_25 : decode cX12_then 25 = .ok (.iload_n 1, 1) := by decide +kernel
theorem dX12_then_26 : decode cX12_then 26 = .ok (.invokevirtual 270, 3) := by decide +kernel
theorem dX12_then_29 : decode cX12_then 29 = .ok (.istore 4, 2) := by decide +kernel
theorem dX12_then_31 : decode cX12_then 31 = .ok (.aload_n 0, 1) := by decide +kernel
theorem dX12_then_32 : decode cX12_then 32 = .ok (.iload_n 2, 1) := by decide +kernel
theorem dX12_then_33 : decode cX12_then 33 = .ok (.iload_n 3, 1) := by decide +kernel
theorem dX12_then_34 : decode cX12_then 34 = .ok (.invokevirtual 273, 3) := by decide +kernel
theorem dX12_then_37 : decode cX12_then 37 = .ok (.lstore 5, 2) := by decide +kernel
theorem dX12_then_39 : decode cX12_then 39 = .ok (.aload_n 0, 1) := by decide +kernel
theorem dX12_then_40 : decode cX12_then 40 = .ok (.getfield 49, 3) := by decide +kernel
theorem dX12_then_43 : decode cX12_then 43 = .ok (.aload_n 0, 1) := by decide +kernel
theorem dX12_then_44 : decode cX12_then 44 = .ok (.getfield 11, 3) := by decide +kernel
theorem dX12_then_47 : decode cX12_then 47 = .ok (.invokestatic 213, 3) := by decide +kernel
theorem dX12_then_50 : decode cX12_then 50 = .ok (.lload 5, 2) := by decide +kernel
theorem dX12_then_52 : decode cX12_then 52 = .ok (.lreturn, 1) := by decide +kernel
theorem dX12_see_0 : decode cX12_see 0 = .ok (.iload_n 1, 1) := by decide +kernel
theorem dX12_see_1 : decode cX12_see 1 = .ok (.iconst (-1), 1) := by decide +kernel
theorem dX12_see_2 : decode cX12_see 2 = .ok (.if_icmp .ne 12, 3) := by decide +kernel
theorem dX12_see_5 : decode cX12_see 5 = .ok (.aload_n 0, 1) := by decide +kernel
theorem dX12_see_6 : decode cX12_see 6 = .ok (.getfield 11, 3) := by decide +kernel
theorem dX12_see_9 : decode cX12_see 9 = .ok (.iconst 2, 1) := by decide +kernel
theorem dX12_see_10 : decode cX12_see 10 = .ok (.iconst 0, 1) := by decide +kernel
theorem dX12_see_11 : decode cX12_see 11 = .ok (.iastore, 1) := by decide +kernel
theorem dX12_see_12 : decode cX12_see 12 = .ok (.iconst 0, 1) := by decide +kernel
theorem dX12_see_13 : decode cX12_see 13 = .ok (.ireturn, 1) := by decide +kernel
theorem dX12_see_14 : decode cX12_see 14 = .ok (.aload_n 0, 1) := by decide +kernel
theorem dX12_see_15 : decode cX12_see 15 = .ok (.iload_n 1, 1) := by decide +kernel
theorem dX12_see_16 : decode cX12_see 16 = .ok (.invokevirtual 73, 3) := by decide +kernel
theorem dX12_see_19 : decode cX12_see 19 = .ok (.ifCond .ne 5, 3) := by decide +kernel
theorem dX12_see_22 : decode cX12_see 22 = .ok (.iconst (-1), 1) := by decide +kernel
theorem dX12_see_23 : decode cX12_see 23 = .ok (.ireturn, 1) := by decide +kernel
theorem dX12_see_24 : decode cX12_see 24 = .ok (.iload_n 2, 1) := by decide +kernel
theorem dX12_see_25 : decode cX12_see 25 = .ok (.i2l, 1) := by decide +kernel
theorem dX12_see_26 : decode cX12_see 26 = .ok (.lconst 0, 1) := by decide +kernel
theorem dX12_see_27 : decode cX12_see 27 = .ok (.ldc2_w 65, 3) := by decide +kernel
theorem dX12_see_30 : decode cX12_see 30 = .ok (.invokestatic 61, 3) := by decide +kernel
theorem dX12_see_33 : decode cX12_see 33 = .ok (.ifCond .ne 6, 3) := by decide +kernel
theorem dX12_see_36 : decode cX12_see 36 = .ok (.bipush (-2), 2) := by decide +kernel
theorem dX12_see_38 : decode cX12_see 38 = .ok (.ireturn, 1) := by decide +kernel
theorem dX12_see_39 : decode cX12_see 39 = .ok (.aload_n 0, 1) := by decide +kernel
theorem dX12_see_40 : decode cX12_see 40 = .ok (.getfield 11, 3) := by decide +kernel
theorem dX12_see_43 : decode cX12_see 43 = .ok (.iconst 2, 1) := by decide +kernel
theorem dX12_see_44 : decode cX12_see 44 = .ok (.iaload, 1) := by decide +kernel
theorem dX12_see_45 : decode cX12_see 45 = .ok (.istore 4, 2) := by decide +kernel
theorem dX12_see_47 : decode cX12_see 47 = .ok (.iload 4, 2) := by decide +kernel
theorem dX12_see_49 : decode cX12_see 49 = .ok (.iconst 5, 1) := by decide +kernel
theorem dX12_see_50 : decode cX12_see 50 = .ok (.if_icmp .ne 6, 3) := by decide +kernel
theorem dX12_see_53 : decode cX12_see 53 = .ok (.bipush (-4), 2) := by decide +kernel
theorem dX12_see_55 : decode cX12_see 55 = .ok (.ireturn, 1) := by decide +kernel
theorem dX12_see_56 : decode cX12_see 56 = .ok (.aload_n 0, 1) := by decide +kernel
theorem dX12_see_57 : decode cX12_see 57 = .ok (.getfield 11, 3) := by decide +kernel
theorem dX12_see_60 : decode cX12_see 60 = .ok (.bipush 23, 2) := by decide +kernel
theorem dX12_see_62 : decode cX12_see 62 = .ok (.iconst 3, 1) := by decide +kernel
theorem dX12_see_63 : decode cX12_see 63 = .ok (.iload 4, 2) := by decide +kernel
theorem dX12_see_65 : decode cX12_see 65 = .ok (.imul, 1) := by decide +kernel
theorem dX12_see_66 : decode cX12_see 66 = .ok (.iadd, 1) := by decide +kernel
theorem dX12_see_67 : decode cX12_see 67 = .ok (.iload_n 1, 1) := by decide +kernel
theorem dX12_see_68 : decode cX12_see 68 = .ok (.iastore, 1) := by decide +kernel
theorem dX12_see_69 : decode cX12_see 69 = .ok (.aload_n 0, 1) := by decide +kernel
theorem dX12_see_70 : decode cX12_see 70 = .ok (.getfield 11, 3) := by decide +kernel
theorem dX12_see_73 : decode cX12_see 73 = .ok (.bipush 23, 2) := by decide +kernel
theorem dX12_see_75 : decode cX12_see 75 = .ok (.iconst 3, 1) := by decide +kernel
theorem dX12_see_76 : decode cX12_see 76 = .ok (.iload 4, 2) := by decide +kernel
theorem dX12_see_78 : decode cX12_see 78 = .ok (.imul, 1) := by decide +kernel
theorem dX12_see_79 : decode cX12_see 79 = .ok (.iadd, 1) := by decide +kernel
theorem dX12_see_80 : decode cX12_see 80 = .ok (.iconst 1, 1) := by decide +kernel
theorem dX12_see_81 : decode cX12_see 81 = .ok (.iadd, 1) := by decide +kernel
theorem dX12_see_82 : decode cX12_see 82 = .ok (.iload_n 2, 1) := by decide +kernel
theorem dX12_see_83 : decode cX12_see 83 = .ok (.iastore, 1) := by decide +kernel
theorem dX12_see_84 : decode cX12_see 84 = .ok (.aload_n 0, 1) := by decide +kernel
theorem dX12_see_85 : decode cX12_see 85 = .ok (.getfield 11, 3) := by decide +kernel
theorem dX12_see_88 : decode cX12_see 88 = .ok (.bipush 23, 2) := by decide +kernel
theorem dX12_see_90 : decode cX12_see 90 = .ok (.iconst 3, 1) := by decide +kernel
theorem dX12_see_91 : decode cX12_see 91 = .ok (.iload 4, 2) := by decide +kernel
theorem dX12_see_93 : decode cX12_see 93 = .ok (.imul, 1) := by decide +kernel
theorem dX12_see_94 : decode cX12_see 94 = .ok (.iadd, 1) := by decide +kernel
theorem dX12_see_95 : decode cX12_see 95 = .ok (.iconst 2, 1) := by decide +kernel
theorem dX12_see_96 : decode cX12_see 96 = .ok (.iadd, 1) := by decide +kernel
theorem dX12_see_97 : decode cX12_see 97 = .ok (.iload_n 3, 1) := by decide +kernel
theorem dX12_see_98 : decode cX12_see 98 = .ok (.iastore, 1) := by decide +kernel
theorem dX12_see_99 : decode cX12_see 99 = .ok (.aload_n 0, 1) := by decide +kernel
theorem dX12_see_100 : decode cX12_see 100 = .ok (.getfield 11, 3) := by decide +kernel
theorem dX12_see_103 : decode cX12_see 103 = .ok (.iconst 2, 1) := by decide +kernel
theorem dX12_see_104 : decode cX12_see 104 = .ok (.iload 4, 2) := by decide +kernel
theorem dX12_see_106 : decode cX12_see 106 = .ok (.iconst 1, 1) := by decide +kernel
theorem dX12_see_107 : decode cX12_see 107 = .ok (.iadd, 1) := by decide +kernel
theorem dX12_see_108 : decode cX12_see 108 = .ok (.iastore, 1) := by decide +kernel
theorem dX12_see_109 : decode cX12_see 109 = .ok (.iload 4, 2) := by decide +kernel
theorem dX12_see_111 : decode cX12_see 111 = .ok (.iconst 1, 1) := by decide +kernel
theorem dX12_see_112 : decode cX12_see 112 = .ok (.iadd, 1) := by decide +kernel
theorem dX12_see_113 : decode cX12_see 113 = .ok (.ireturn, 1) := by decide +kernel
theorem dX12_isSeen_0 : decode cX12_isSeen 0 = .ok (.aload_n 0, 1) := by decide +kernel
theorem dX12_isSeen_1 : decode cX12_isSeen 1 = .ok (.getfield 11, 3) := by decide +kernel
theorem dX12_isSeen_4 : decode cX12_isSeen 4 = .ok (.bipush 23, 2) := by decide +kernel
theorem dX12_isSeen_6 : decode cX12_isSeen 6 = .ok (.iconst 3, 1) := by decide +kernel
theorem dX12_isSeen_7 : decode cX12_isSeen 7 = .ok (.iload_n 1, 1) := by decide +kernel
theorem dX12_isSeen_8 : decode cX12_isSeen 8 = .ok (.imul, 1) := by decide +kernel
theorem dX12_isSeen_9 : decode cX12_isSeen 9 = .ok (.iadd, 1) := by decide +kernel
theorem dX12_isSeen_10 : decode cX12_isSeen 10 = .ok (.iaload, 1) := by decide +kernel
theorem dX12_isSeen_11 : decode cX12_isSeen 11 = .ok (.istore_n 2, 1) := by decide +kernel
theorem dX12_isSeen_12 : decode cX12_isSeen 12 = .ok (.aload_n 0, 1) := by decide +kernel
theorem dX12_isSeen_13 : decode cX12_isSeen 13 = .ok (.getfield 11, 3) := by decide +kernel
theorem dX12_isSeen_16 : decode cX12_isSeen 16 = .ok (.bipush 23, 2) := by decide +kernel
theorem dX12_isSeen_18 : decode cX12_isSeen 18 = .ok (.iconst 3, 1) := by decide +kernel
theorem dX12_isSeen_19 : decode cX12_isSeen 19 = .ok (.iload_n 1, 1) := by decide +kernel
theorem dX12_isSeen_20 : decode cX12_isSeen 20 = .ok (.imul, 1) := by decide +kernel
theorem dX12_isSeen_21 : decode cX12_isSeen 21 = .ok (.iadd, 1) := by decide +kernel
theorem dX12_isSeen_22 : decode cX12_isSeen 22 = .ok (.iconst 1, 1) := by decide +kernel
theorem dX12_isSeen_23 : decode cX12_isSeen 23 = .ok (.iadd, 1) := by decide +kernel
theorem dX12_isSeen_24 : decode cX12_isSeen 24 = .ok (.iaload, 1) := by decide +kernel
theorem dX12_isSeen_25 : decode cX12_isSeen 25 = .ok (.istore_n 3, 1) := by decide +kernel
theorem dX12_isSeen_26 : decode cX12_isSeen 26 = .ok (.aload_n 0, 1) := by decide +kernel
theorem dX12_isSeen_27 : decode cX12_isSeen 27 = .ok (.getfield 11, 3) := by decide +kernel
theorem dX12_isSeen_30 : decode cX12_isSeen 30 = .ok (.bipush 23, 2) := by decide +kernel
theorem dX12_isSeen_32 : decode cX12_isSeen 32 = .ok (.iconst 3, 1) := by decide +kernel
theorem dX12_isSeen_33 : decode cX12_isSeen 33 = .ok (.iload_n 1, 1) := by decide +kernel
theorem dX12_isSeen_34 : decode cX12_isSeen 34 = .ok (.imul, 1) := by decide +kernel
theorem dX12_isSeen_35 : decode cX12_isSeen 35 = .ok (.iadd, 1) := by decide +kernel
theorem dX12_isSeen_36 : decode cX12_isSeen 36 = .ok (.iconst 2, 1) := by decide +kernel
theorem dX12_isSeen_37 : decode cX12_isSeen 37 = .ok (.iadd, 1) := by decide +kernel
theorem dX12_isSeen_38 : decode cX12_isSeen 38 = .ok (.iaload, 1) := by decide +kernel
theorem dX12_isSeen_39 : decode cX12_isSeen 39 = .ok (.istore 4, 2) := by decide +kernel
theorem dX12_isSeen_41 : decode cX12_isSeen 41 = .ok (.aload_n 0, 1) := by decide +kernel
theorem dX12_isSeen_42 : decode cX12_isSeen 42 = .ok (.iload_n 2, 1) := by decide +kernel
theorem dX12_isSeen_43 : decode cX12_isSeen 43 = .ok (.invokevirtual 73, 3) := by decide +kernel
theorem dX12_isSeen_46 : decode cX12_isSeen 46 = .ok (.ifCond .ne 5, 3) := by decide +kernel
theorem dX12_isSeen_49 : decode cX12_isSeen 49 = .ok (.iconst 0, 1) := by decide +kernel
theorem dX12_isSeen_50 : decode cX12_isSeen 50 = .ok (.ireturn, 1) := by decide +kernel
theorem dX12_isSeen_51 : decode cX12_isSeen 51 = .ok (.aload_n 0, 1) := by decide +kernel
theorem dX12_isSeen_52 : decode cX12_isSeen 52 = .ok (.iload_n 3, 1) := by decide +kernel
theorem dX12_isSeen_53 : decode cX12_isSeen 53 = .ok (.invokevirtual 270, 3) := by decide +kernel
theorem dX12_isSeen_56 : decode cX12_isSeen 56 = .ok (.iload_n 3, 1) := by decide +kernel
theorem dX12_isSeen_57 : decode cX12_isSeen 57 = .ok (.if_icmp .ne 34, 3) := by decide +kernel
theorem dX12_isSeen_60 : decode cX12_isSeen 60 = .ok (.aload_n 0, 1) := by decide +kernel
theorem dX12_isSeen_61 : decode cX12_isSeen 61 = .ok (.iload_n 2, 1) := by decide +kernel
theorem dX12_isSeen_62 : decode cX12_isSeen 62 = .ok (.invokevirtual 76, 3) := by decide +kernel
theorem dX12_isSeen_65 : decode cX12_isSeen 65 = .ok (.ifCond .le 26, 3) := by decide +kernel
theorem dX12_isSeen_68 : decode cX12_isSeen 68 = .ok (.aload_n 0, 1) := by decide +kernel
theorem dX12_isSeen_69 : decode cX12_isSeen 69 = .ok (.iload_n 2, 1) := by decide +kernel
theorem dX12_isSeen_70 : decode cX12_isSeen 70 = .ok (.aload_n 0, 1) := by decide +kernel
theorem dX12_isSeen_71 : decode cX12_isSeen 71 = .ok (.iload_n 2, 1) := by decide +kernel
theorem dX12_isSeen_72 : decode cX12_isSeen 72 = .ok (.invokevirtual 76, 3) := by decide +kernel
theorem dX12_isSeen_75 : decode cX12_isSeen 75 = .ok (.iconst 1, 1) := by decide +kernel
theorem dX12_isSeen_76 : decode cX12_isSeen 76 = .ok (.isub, 1) := by decide +kernel
theorem dX12_isSeen_77 : decode cX12_isSeen 77 = .ok (.invokevirtual 273, 3) := by decide +kernel
theorem dX12_isSeen_80 : decode cX12_isSeen 80 = .ok (.iload 4, 2) := by decide +kernel
theorem dX12_isSeen_82 : decode cX12_isSeen 82 = .ok (.i2l, 1) := by decide +kernel
theorem dX12_isSeen_83 : decode cX12_isSeen 83 = .ok (.lcmp, 1) := by decide +kernel
theorem dX12_isSeen_84 : decode cX12_isSeen 84 = .ok (.ifCond .ne 7, 3) := by decide +kernel
theorem dX12_isSeen_87 : decode cX12_isSeen 87 = .ok (.iconst 1, 1) := by decide +kernel
theorem dX12_isSeen_88 : decode cX12_isSeen 88 = .ok (.goto 4, 3) := by decide +kernel
theorem dX12_isSeen_91 : decode cX12_isSeen 91 = .ok (.iconst 0, 1) := by decide +kernel
theorem dX12_isSeen_92 : decode cX12_isSeen 92 = .ok (.istore 5, 2) := by decide +kernel
theorem dX12_isSeen_94 : decode cX12_isSeen 94 = .ok (.aload_n 0, 1) := by decide +kernel
theorem dX12_isSeen_95 : decode cX12_isSeen 95 = .ok (.getfield 49, 3) := by decide +kernel
theorem dX12_isSeen_98 : decode cX12_isSeen 98 = .ok (.aload_n 0, 1) := by decide +kernel
theorem dX12_isSeen_99 : decode cX12_isSeen 99 = .ok (.getfield 11, 3) := by decide +kernel
theorem dX12_isSeen_102 : decode cX12_isSeen 102 = .ok (.invokestatic 213, 3) := by decide +kernel
theorem dX12_isSeen_105 : decode cX12_isSeen 105 = .ok (.iload 5, 2) := by decide +kernel
theorem dX12_isSeen_107 : decode cX12_isSeen 107 = .ok (.ireturn, 1) := by decide +kernel
theorem dX12_fits_0 : decode cX12_fits 0 = .ok (.aload_n 0, 1) := by decide +kernel
theorem dX12_fits_1 : decode cX12_fits 1 = .ok (.iload_n 1, 1) := by decide +kernel
theorem dX12_fits_2 : decode cX12_fits 2 = .ok (.invokevirtual 69, 3) := by decide +kernel
theorem dX12_fits_5 : decode cX12_fits 5 = .ok (.ifCond .eq 13, 3) := by decide +kernel
theorem dX12_fits_8 : decode cX12_fits 8 = .ok (.iload_n 2, 1) := by decide +kernel
theorem dX12_fits_9 : decode cX12_fits 9 = .ok (.i2l, 1) := by decide +kernel
theorem dX12_fits_10 : decode cX12_fits 10 = .ok (.lconst 0, 1) := by decide +kernel
theorem dX12_fits_11 : decode cX12_fits 11 = .ok (.lconst 1, 1) := by decide +kernel
theorem dX12_fits_12 : decode cX12_fits 12 = .ok (.invokestatic 61, 3) := by decide +kernel
theorem dX12_fits_15 : decode cX12_fits 15 = .ok (.ifCond .ne 5, 3) := by decide +kernel
theorem dX12_fits_18 : decode cX12_fits 18 = .ok (.iconst (-1), 1) := by decide +kernel
theorem dX12_fits_19 : decode cX12_fits 19 = .ok (.ireturn, 1) := by decide +kernel
theorem dX12_fits_20 : decode cX12_fits 20 = .ok (.aload_n 0, 1) := by decide +kernel
theorem dX12_fits_21 : decode cX12_fits 21 = .ok (.getfield 11, 3) := by decide +kernel
theorem dX12_fits_24 : decode cX12_fits 24 = .ok (.iconst 5, 1) := by decide +kernel
theorem dX12_fits_25 : decode cX12_fits 25 = .ok (.iconst 3, 1) := by decide +kernel
theorem dX12_fits_26 : decode cX12_fits 26 = .ok (.iload_n 1, 1) := by decide +kernel
theorem dX12_fits_27 : decode cX12_fits 27 = .ok (.imul, 1) := by decide +kernel
theorem dX12_fits_28 : decode cX12_fits 28 = .ok (.iadd, 1) := by decide +kernel
theorem dX12_fits_29 : decode cX12_fits 29 = .ok (.iconst 1, 1) := by decide +kernel
theorem dX12_fits_30 : decode cX12_fits 30 = .ok (.iadd, 1) := by decide +kernel
theorem dX12_fits_31 : decode cX12_fits 31 = .ok (.iaload, 1) := by decide +kernel
theorem dX12_fits_32 : decode cX12_fits 32 = .ok (.istore_n 3, 1) := by decide +kernel
theorem dX12_fits_33 : decode cX12_fits 33 = .ok (.iconst 0, 1) := by decide +kernel
theorem dX12_fits_34 : decode cX12_fits 34 = .ok (.istore 4, 2) := by decide +kernel
theorem dX12_fits_36 : decode cX12_fits 36 = .ok (.bipush (-5), 2) := by decide +kernel
theorem dX12_fits_38 : decode cX12_fits 38 = .ok (.istore 5, 2) := by decide +kernel
theorem dX12_fits_40 : decode cX12_fits 40 = .ok (.bipush 9, 2) := by decide +kernel
theorem dX12_fits_42 : decode cX12_fits 42 = .ok (.istore 6, 2) := by decide +kernel
theorem dX12_fits_44 : decode cX12_fits 44 = .ok (.iload 6, 2) := by decide +kernel
theorem dX12_fits_46 : decode cX12_fits 46 = .ok (.ifCond .lt 88, 3) := by decide +kernel
theorem dX12_fits_49 : decode cX12_fits 49 = .ok (.aload_n 0, 1) := by decide +kernel
theorem dX12_fits_50 : decode cX12_fits 50 = .ok (.getfield 11, 3) := by decide +kernel
theorem dX12_fits_53 : decode cX12_fits 53 = .ok (.iconst 5, 1) := by decide +kernel
theorem dX12_fits_54 : decode cX12_fits 54 = .ok (.iconst 3, 1) := by decide +kernel
theorem dX12_fits_55 : decode cX12_fits 55 = .ok (.iload_n 1, 1) := by decide +kernel
theorem dX12_fits_56 : decode cX12_fits 56 = .ok (.imul, 1) := by decide +kernel
theorem dX12_fits_57 : decode cX12_fits 57 = .ok (.iadd, 1) := by decide +kernel
theorem dX12_fits_58 : decode cX12_fits 58 = .ok (.iconst 1, 1) := by decide +kernel
theorem dX12_fits_59 : decode cX12_fits 59 = .ok (.iadd, 1) := by decide +kernel
theorem dX12_fits_60 : decode cX12_fits 60 = .ok (.iload 6, 2) := by decide +kernel
theorem dX12_fits_62 : decode cX12_fits 62 = .ok (.iastore, 1) := by decide +kernel
theorem dX12_fits_63 : decode cX12_fits 63 = .ok (.iconst 1, 1) := by decide +kernel
theorem dX12_fits_64 : decode cX12_fits 64 = .ok (.istore 7, 2) := by decide +kernel
theorem dX12_fits_66 : decode cX12_fits 66 = .ok (.iconst 0, 1) := by decide +kernel
theorem dX12_fits_67 : decode cX12_fits 67 = .ok (.istore 8, 2) := by decide +kernel
theorem dX12_fits_69 : decode cX12_fits 69 = .ok (.iload 8, 2) := by decide +kernel
theorem dX12_fits_71 : decode cX12_fits 71 = .ok (.aload_n 0, 1) := by decide +kernel
theorem dX12_fits_72 : decode cX12_fits 72 = .ok (.getfield 11, 3) := by decide +kernel
theorem dX12_fits_75 : decode cX12_fits 75 = .ok (.iconst 2, 1) := by decide +kernel
theorem dX12_fits_76 : decode cX12_fits 76 = .ok (.iaload, 1) := by decide +kernel
theorem dX12_fits_77 : decode cX12_fits 77 = .ok (.if_icmp .ge 22, 3) := by decide +kernel
theorem dX12_fits_80 : decode cX12_fits 80 = .ok (.iload 7, 2) := by decide +kernel
theorem dX12_fits_82 : decode cX12_fits 82 = .ok (.ifCond .eq 17, 3) := by decide +kernel
theorem dX12_fits_85 : decode cX12_fits 85 = .ok (.aload_n 0, 1) := by decide +kernel
theorem dX12_fits_86 : decode cX12_fits 86 = .ok (.iload 8, 2) := by decide +kernel
theorem dX12_fits_88 : decode cX12_fits 88 = .ok (.invokevirtual 277, 3) := by decide +kernel
theorem dX12_fits_91 : decode cX12_fits 91 = .ok (.istore 7, 2) := by decide +kernel
theorem dX12_fits_93 : decode cX12_fits 93 = .ok (.iinc 8 1, 3) := by decide +kernel
theorem dX12_fits_96 : decode cX12_fits 96 = .ok (.goto (-27), 3) := by decide +kernel
theorem dX12_fits_99 : decode cX12_fits 99 = .ok (.iload 4, 2) := by decide +kernel
theorem dX12_fits_101 : decode cX12_fits 101 = .ok (.iload 7, 2) := by decide +kernel
theorem dX12_fits_103 : decode cX12_fits 103 = .ok (.ifCond .eq 7, 3) := by decide +kernel
theorem dX12_fits_106 : decode cX12_fits 106 = .ok (.iconst 1, 1) := by decide +kernel
theorem dX12_fits_107 : decode cX12_fits 107 = .ok (.goto 4, 3) := by decide +kernel
theorem dX12_fits_110 : decode cX12_fits 110 = .ok (.iconst 0, 1) := by decide +kernel
theorem dX12_fits_111 : decode cX12_fits 111 = .ok (.iadd, 1) := by decide +kernel
theorem dX12_fits_112 : decode cX12_fits 112 = .ok (.istore 4, 2) := by decide +kernel
theorem dX12_fits_114 : decode cX12_fits 114 = .ok (.iload 7, 2) := by decide +kernel
theorem dX12_fits_116 : decode cX12_fits 116 = .ok (.ifCond .eq 8, 3) := by decide +kernel
theorem dX12_fits_119 : decode cX12_fits 119 = .ok (.iload 6, 2) := by decide +kernel
theorem dX12_fits_121 : decode cX12_fits 121 = .ok (.goto 5, 3) := by decide +kernel
theorem dX12_fits_124 : decode cX12_fits 124 = .ok (.iload 5, 2) := by decide +kernel
theorem dX12_fits_126 : decode cX12_fits 126 = .ok (.istore 5, 2) := by decide +kernel
theorem dX12_fits_128 : decode cX12_fits 128 = .ok (.iinc 6 (-1), 3) := by decide +kernel
theorem dX12_fits_131 : decode cX12_fits 131 = .ok (.goto (-87), 3) := by decide +kernel
theorem dX12_fits_134 : decode cX12_fits 134 = .ok (.aload_n 0, 1) := by decide +kernel
theorem dX12_fits_135 : decode cX12_fits 135 = .ok (.getfield 11, 3) := by decide +kernel
theorem dX12_fits_138 : decode cX12_fits 138 = .ok (.iconst 5, 1) := by decide +kernel
theorem dX12_fits_139 : decode cX12_fits 139 = .ok (.iconst 3, 1) := by decide +kernel
theorem dX12_fits_140 : decode cX12_fits 140 = .ok (.iload_n 1, 1) := by decide +kernel
theorem dX12_fits_141 : decode cX12_fits 141 = .ok (.imul, 1) := by decide +kernel
theorem dX12_fits_142 : decode cX12_fits 142 = .ok (.iadd, 1) := by decide +kernel
theorem dX12_fits_143 : decode cX12_fits 143 = .ok (.iconst 1, 1) := by decide +kernel
theorem dX12_fits_144 : decode cX12_fits 144 = .ok (.iadd, 1) := by decide +kernel
theorem dX12_fits_145 : decode cX12_fits 145 = .ok (.iload_n 3, 1) := by decide +kernel
theorem dX12_fits_146 : decode cX12_fits 146 = .ok (.iastore, 1) := by decide +kernel
theorem dX12_fits_147 : decode cX12_fits 147 = .ok (.iload_n 2, 1) := by decide +kernel
theorem dX12_fits_148 : decode cX12_fits 148 = .ok (.ifCond .ne 8, 3) := by decide +kernel
theorem dX12_fits_151 : decode cX12_fits 151 = .ok (.iload 4, 2) := by decide +kernel
theorem dX12_fits_153 : decode cX12_fits 153 = .ok (.goto 5, 3) := by decide +kernel
theorem dX12_fits_156 : decode cX12_fits 156 = .ok (.iload 5, 2) := by decide +kernel
theorem dX12_fits_158 : decode cX12_fits 158 = .ok (.ireturn, 1) := by decide +kernel
theorem dX12_lowest_0 : decode cX12_lowest 0 = .ok (.lload_n 0, 1) := by decide +kernel
theorem dX12_lowest_1 : decode cX12_lowest 1 = .ok (.lconst 0, 1) := by decide +kernel
theorem dX12_lowest_2 : decode cX12_lowest 2 = .ok (.lcmp, 1) := by decide +kernel
theorem dX12_lowest_3 : decode cX12_lowest 3 = .ok (.ifCond .ge 8, 3) := by decide +kernel
theorem dX12_lowest_6 : decode cX12_lowest 6 = .ok (.lload_n 0, 1) := by decide +kernel
theorem dX12_lowest_7 : decode cX12_lowest 7 = .ok (.lneg, 1) := by decide +kernel
theorem dX12_lowest_8 : decode cX12_lowest 8 = .ok (.goto 4, 3) := by decide +kernel
theorem dX12_lowest_11 : decode cX12_lowest 11 = .ok (.lload_n 0, 1) := by decide +kernel
theorem dX12_lowest_12 : decode cX12_lowest 12 = .ok (.lload_n 2, 1) := by decide +kernel
theorem dX12_lowest_13 : decode cX12_lowest 13 = .ok (.invokestatic 171, 3) := by decide +kernel
theorem dX12_lowest_16 : decode cX12_lowest 16 = .ok (.lstore 5, 2) := by decide +kernel
theorem dX12_lowest_18 : decode cX12_lowest 18 = .ok (.iload 4, 2) := by decide +kernel
theorem dX12_lowest_20 : decode cX12_lowest 20 = .ok (.ifCond .ne 7, 3) := by decide +kernel
theorem dX12_lowest_23 : decode cX12_lowest 23 = .ok (.lload_n 0, 1) := by decide +kernel
theorem dX12_lowest_24 : decode cX12_lowest 24 = .ok (.goto 4, 3) := by decide +kernel
theorem dX12_lowest_27 : decode cX12_lowest 27 = .ok (.lload_n 2, 1) := by decide +kernel
theorem dX12_lowest_28 : decode cX12_lowest 28 = .ok (.lload 5, 2) := by decide +kernel
theorem dX12_lowest_30 : decode cX12_lowest 30 = .ok (.ldiv, 1) := by decide +kernel
theorem dX12_lowest_31 : decode cX12_lowest 31 = .ok (.lreturn, 1) := by decide +kernel
theorem dX12_odds_0 : decode cX12_odds 0 = .ok (.aload_n 0, 1) := by decide +kernel
theorem dX12_odds_1 : decode cX12_odds 1 = .ok (.iload_n 1, 1) := by decide +kernel
theorem dX12_odds_2 : decode cX12_odds 2 = .ok (.invokevirtual 73, 3) := by decide +kernel
theorem dX12_odds_5 : decode cX12_odds 5 = .ok (.ifCond .eq 13, 3) := by decide +kernel
theorem dX12_odds_8 : decode cX12_odds 8 = .ok (.iload_n 2, 1) := by decide +kernel
theorem dX12_odds_9 : decode cX12_odds 9 = .ok (.i2l, 1) := by decide +kernel
theorem dX12_odds_10 : decode cX12_odds 10 = .ok (.lconst 0, 1) := by decide +kernel
theorem dX12_odds_11 : decode cX12_odds 11 = .ok (.lconst 1, 1) := by decide +kernel
theorem dX12_odds_12 : decode cX12_odds 12 = .ok (.invokestatic 61, 3) := by decide +kernel
theorem dX12_odds_15 : decode cX12_odds 15 = .ok (.ifCond .ne 7, 3) := by decide +kernel
theorem dX12_odds_18 : decode cX12_odds 18 = .ok (.ldc2_w 169, 3) := by decide +kernel
theorem dX12_odds_21 : decode cX12_odds 21 = .ok (.lreturn, 1) := by decide +kernel
theorem dX12_odds_22 : decode cX12_odds 22 = .ok (.lconst 0, 1) := by decide +kernel
theorem dX12_odds_23 : decode cX12_odds 23 = .ok (.lstore_n 3, 1) := by decide +kernel
theorem dX12_odds_24 : decode cX12_odds 24 = .ok (.aload_n 0, 1) := by decide +kernel
theorem dX12_odds_25 : decode cX12_odds 25 = .ok (.invokevirtual 220, 3) := by decide +kernel
theorem dX12_odds_28 : decode cX12_odds 28 = .ok (.istore 5, 2) := by decide +kernel
theorem dX12_odds_30 : decode cX12_odds 30 = .ok (.iconst 0, 1) := by decide +kernel
theorem dX12_odds_31 : decode cX12_odds 31 = .ok (.istore 6, 2) := by decide +kernel
theorem dX12_odds_33 : decode cX12_odds 33 = .ok (.iload 6, 2) := by decide +kernel
theorem dX12_odds_35 : decode cX12_odds 35 = .ok (.bipush 10, 2) := by decide +kernel
theorem dX12_odds_37 : decode cX12_odds 37 = .ok (.if_icmp .ge 32, 3) := by decide +kernel
theorem dX12_odds_40 : decode cX12_odds 40 = .ok (.iload 5, 2) := by decide +kernel
theorem dX12_odds_42 : decode cX12_odds 42 = .ok (.ifCond .eq 27, 3) := by decide +kernel
theorem dX12_odds_45 : decode cX12_odds 45 = .ok (.lload_n 3, 1) := by decide +kernel
theorem dX12_odds_46 : decode cX12_odds 46 = .ok (.aload_n 0, 1) := by decide +kernel
theorem dX12_odds_47 : decode cX12_odds 47 = .ok (.iload_n 1, 1) := by decide +kernel
theorem dX12_odds_48 : decode cX12_odds 48 = .ok (.iload 6, 2) := by decide +kernel
theorem dX12_odds_50 : decode cX12_odds 50 = .ok (.invokevirtual 261, 3) := by decide +kernel
theorem dX12_odds_53 : decode cX12_odds 53 = .ok (.ifCond .eq 7, 3) := by decide +kernel
theorem dX12_odds_56 : decode cX12_odds 56 = .ok (.lconst 1, 1) := by decide +kernel
theorem dX12_odds_57 : decode cX12_odds 57 = .ok (.goto 4, 3) := by decide +kernel
theorem dX12_odds_60 : decode cX12_odds 60 = .ok (.lconst 0, 1) := by decide +kernel
theorem dX12_odds_61 : decode cX12_odds 61 = .ok (.ladd, 1) := by decide +kernel
theorem dX12_odds_62 : decode cX12_odds 62 = .ok (.lstore_n 3, 1) := by decide +kernel
theorem dX12_odds_63 : decode cX12_odds 63 = .ok (.iinc 6 1, 3) := by decide +kernel
theorem dX12_odds_66 : decode cX12_odds 66 = .ok (.goto (-33), 3) := by decide +kernel
theorem dX12_odds_69 : decode cX12_odds 69 = .ok (.lload_n 3, 1) := by decide +kernel
theorem dX12_odds_70 : decode cX12_odds 70 = .ok (.ldc2_w 280, 3) := by decide +kernel
theorem dX12_odds_73 : decode cX12_odds 73 = .ok (.iload_n 2, 1) := by decide +kernel
theorem dX12_odds_74 : decode cX12_odds 74 = .ok (.invokestatic 282, 3) := by decide +kernel
theorem dX12_odds_77 : decode cX12_odds 77 = .ok (.lreturn, 1) := by decide +kernel
theorem dX12_mean_0 : decode cX12_mean 0 = .ok (.iload_n 1, 1) := by decide +kernel
theorem dX12_mean_1 : decode cX12_mean 1 = .ok (.i2l, 1) := by decide +kernel
theorem dX12_mean_2 : decode cX12_mean 2 = .ok (.lconst 0, 1) := by decide +kernel
theorem dX12_mean_3 : decode cX12_mean 3 = .ok (.lconst 1, 1) := by decide +kernel
theorem dX12_mean_4 : decode cX12_mean 4 = .ok (.invokestatic 61, 3) := by decide +kernel
theorem dX12_mean_7 : decode cX12_mean 7 = .ok (.ifCond .eq 10, 3) := by decide +kernel
theorem dX12_mean_10 : decode cX12_mean 10 = .ok (.aload_n 0, 1) := by decide +kernel
theorem dX12_mean_11 : decode cX12_mean 11 = .ok (.invokevirtual 242, 3) := by decide +kernel
theorem dX12_mean_14 : decode cX12_mean 14 = .ok (.ifCond .ne 7, 3) := by decide +kernel
theorem dX12_mean_17 : decode cX12_mean 17 = .ok (.ldc2_w 169, 3) := by decide +kernel
theorem dX12_mean_20 : decode cX12_mean 20 = .ok (.lreturn, 1) := by decide +kernel
theorem dX12_mean_21 : decode cX12_mean 21 = .ok (.lconst 0, 1) := by decide +kernel
theorem dX12_mean_22 : decode cX12_mean 22 = .ok (.lstore_n 2, 1) := by decide +kernel
theorem dX12_mean_23 : decode cX12_mean 23 = .ok (.iconst 0, 1) := by decide +kernel
theorem dX12_mean_24 : decode cX12_mean 24 = .ok (.istore 4, 2) := by decide +kernel
theorem dX12_mean_26 : decode cX12_mean 26 = .ok (.iload 4, 2) := by decide +kernel
theorem dX12_mean_28 : decode cX12_mean 28 = .ok (.aload_n 0, 1) := by decide +kernel
theorem dX12_mean_29 : decode cX12_mean 29 = .ok (.getfield 11, 3) := by decide +kernel
theorem dX12_mean_32 : decode cX12_mean 32 = .ok (.iconst 1, 1) := by decide +kernel
theorem dX12_mean_33 : decode cX12_mean 33 = .ok (.iaload, 1) := by decide +kernel
theorem dX12_mean_34 : decode cX12_mean 34 = .ok (.if_icmp .ge 61, 3) := by decide +kernel
theorem dX12_mean_37 : decode cX12_mean 37 = .ok (.iconst 0, 1) := by decide +kernel
theorem dX12_mean_38 : decode cX12_mean 38 = .ok (.istore 5, 2) := by decide +kernel
theorem dX12_mean_40 : decode cX12_mean 40 = .ok (.aload_n 0, 1) := by decide +kernel
theorem dX12_mean_41 : decode cX12_mean 41 = .ok (.iload 4, 2) := by decide +kernel
theorem dX12_mean_43 : decode cX12_mean 43 = .ok (.invokevirtual 73, 3) := by decide +kernel
theorem dX12_mean_46 : decode cX12_mean 46 = .ok (.ifCond .eq 43, 3) := by decide +kernel
theorem dX12_mean_49 : decode cX12_mean 49 = .ok (.iload 5, 2) := by decide +kernel
theorem dX12_mean_51 : decode cX12_mean 51 = .ok (.aload_n 0, 1) := by decide +kernel
theorem dX12_mean_52 : decode cX12_mean 52 = .ok (.iload 4, 2) := by decide +kernel
theorem dX12_mean_54 : decode cX12_mean 54 = .ok (.invokevirtual 76, 3) := by decide +kernel
theorem dX12_mean_57 : decode cX12_mean 57 = .ok (.if_icmp .ge 32, 3) := by decide +kernel
theorem dX12_mean_60 : decode cX12_mean 60 = .ok (.lload_n 2, 1) := by decide +kernel
theorem dX12_mean_61 : decode cX12_mean 61 = .ok (.aload_n 0, 1) := by decide +kernel
theorem dX12_mean_62 : decode cX12_mean 62 = .ok (.getfield 11, 3) := by decide +kernel
theorem dX12_mean_65 : decode cX12_mean 65 = .ok (.bipush 74, 2) := by decide +kernel
theorem dX12_mean_67 : decode cX12_mean 67 = .ok (.bipush 105, 2) := by decide +kernel
theorem dX12_mean_69 : decode cX12_mean 69 = .ok (.iload 4, 2) := by decide +kernel
theorem dX12_mean_71 : decode cX12_mean 71 = .ok (.imul, 1) := by decide +kernel
theorem dX12_mean_72 : decode cX12_mean 72 = .ok (.iadd, 1) := by decide +kernel
theorem dX12_mean_73 : decode cX12_mean 73 = .ok (.bipush 6, 2) := by decide +kernel
theorem dX12_mean_75 : decode cX12_mean 75 = .ok (.iadd, 1) := by decide +kernel
theorem dX12_mean_76 : decode cX12_mean 76 = .ok (.iload 5, 2) := by decide +kernel
theorem dX12_mean_78 : decode cX12_mean 78 = .ok (.iadd, 1) := by decide +kernel
theorem dX12_mean_79 : decode cX12_mean 79 = .ok (.iaload, 1) := by decide +kernel
theorem dX12_mean_80 : decode cX12_mean 80 = .ok (.i2l, 1) := by decide +kernel
theorem dX12_mean_81 : decode cX12_mean 81 = .ok (.ladd, 1) := by decide +kernel
theorem dX12_mean_82 : decode cX12_mean 82 = .ok (.lstore_n 2, 1) := by decide +kernel
theorem dX12_mean_83 : decode cX12_mean 83 = .ok (.iinc 5 1, 3) := by decide +kernel
theorem dX12_mean_86 : decode cX12_mean 86 = .ok (.goto (-46), 3) := by decide +kernel
theorem dX12_mean_89 : decode cX12_mean 89 = .ok (.iinc 4 1, 3) := by decide +kernel
theorem dX12_mean_92 : decode cX12_mean 92 = .ok (.goto (-66), 3) := by decide +kernel
theorem dX12_mean_95 : decode cX12_mean 95 = .ok (.lload_n 2, 1) := by decide +kernel
theorem dX12_mean_96 : decode cX12_mean 96 = .ok (.aload_n 0, 1) := by decide +kernel
theorem dX12_mean_97 : decode cX12_mean 97 = .ok (.invokevirtual 242, 3) := by decide +kernel
theorem dX12_mean_100 : decode cX12_mean 100 = .ok (.i2l, 1) := by decide +kernel
theorem dX12_mean_101 : decode cX12_mean 101 = .ok (.iload_n 1, 1) := by decide +kernel
theorem dX12_mean_102 : decode cX12_mean 102 = .ok (.invokestatic 282, 3) := by decide +kernel
theorem dX12_mean_105 : decode cX12_mean 105 = .ok (.lreturn, 1) := by decide +kernel
theorem dX12_plan_0 : decode cX12_plan 0 = .ok (.iload_n 1, 1) := by decide +kernel
theorem dX12_plan_1 : decode cX12_plan 1 = .ok (.iconst (-1), 1) := by decide +kernel
theorem dX12_plan_2 : decode cX12_plan 2 = .ok (.if_icmp .ne 12, 3) := by decide +kernel
theorem dX12_plan_5 : decode cX12_plan 5 = .ok (.aload_n 0, 1) := by decide +kernel
theorem dX12_plan_6 : decode cX12_plan 6 = .ok (.getfield 11, 3) := by decide +kernel
theorem dX12_plan_9 : decode cX12_plan 9 = .ok (.iconst 3, 1) := by decide +kernel
theorem dX12_plan_10 : decode cX12_plan 10 = .ok (.iconst 0, 1) := by decide +kernel
theorem dX12_plan_11 : decode cX12_plan 11 = .ok (.iastore, 1) := by decide +kernel
theorem dX12_plan_12 : decode cX12_plan 12 = .ok (.iconst 0, 1) := by decide +kernel
theorem dX12_plan_13 : decode cX12_plan 13 = .ok (.ireturn, 1) := by decide +kernel
theorem dX12_plan_14 : decode cX12_plan 14 = .ok (.iload_n 1, 1) := by decide +kernel
theorem dX12_plan_15 : decode cX12_plan 15 = .ok (.ifCond .eq 8, 3) := by decide +kernel
theorem dX12_plan_18 : decode cX12_plan 18 = .ok (.iload_n 1, 1) := by decide +kernel
theorem dX12_plan_19 : decode cX12_plan 19 = .ok (.iconst 2, 1) := by decide +kernel
theorem dX12_plan_20 : decode cX12_plan 20 = .ok (.if_icmp .ne 11, 3) := by decide +kernel
theorem dX12_plan_23 : decode cX12_plan 23 = .ok (.aload_n 0, 1) := by decide +kernel
theorem dX12_plan_24 : decode cX12_plan 24 = .ok (.iload_n 2, 1) := by decide +kernel
theorem dX12_plan_25 : decode cX12_plan 25 = .ok (.invokevirtual 69, 3) := by decide +kernel
theorem dX12_plan_28 : decode cX12_plan 28 = .ok (.ifCond .ne 21, 3) := by decide +kernel
theorem dX12_plan_31 : decode cX12_plan 31 = .ok (.iload_n 1, 1) := by decide +kernel
theorem dX12_plan_32 : decode cX12_plan 32 = .ok (.iconst 1, 1) := by decide +kernel
theorem dX12_plan_33 : decode cX12_plan 33 = .ok (.if_icmp .ne 11, 3) := by decide +kernel
theorem dX12_plan_36 : decode cX12_plan 36 = .ok (.aload_n 0, 1) := by decide +kernel
theorem dX12_plan_37 : decode cX12_plan 37 = .ok (.iload_n 2, 1) := by decide +kernel
theorem dX12_plan_38 : decode cX12_plan 38 = .ok (.invokevirtual 73, 3) := by decide +kernel
theorem dX12_plan_41 : decode cX12_plan 41 = .ok (.ifCond .ne 8, 3) := by decide +kernel
theorem dX12_plan_44 : decode cX12_plan 44 = .ok (.iload_n 1, 1) := by decide +kernel
theorem dX12_plan_45 : decode cX12_plan 45 = .ok (.iconst 3, 1) := by decide +kernel
theorem dX12_plan_46 : decode cX12_plan 46 = .ok (.if_icmp .ne 7, 3) := by decide +kernel
theorem dX12_plan_49 : decode cX12_plan 49 = .ok (.iconst 1, 1) := by decide +kernel
theorem dX12_plan_50 : decode cX12_plan 50 = .ok (.goto 4, 3) := by decide +kernel
theorem dX12_plan_53 : decode cX12_plan 53 = .ok (.iconst 0, 1) := by decide +kernel
theorem dX12_plan_54 : decode cX12_plan 54 = .ok (.istore_n 3, 1) := by decide +kernel
theorem dX12_plan_55 : decode cX12_plan 55 = .ok (.iload_n 3, 1) := by decide +kernel
theorem dX12_plan_56 : decode cX12_plan 56 = .ok (.ifCond .ne 5, 3) := by decide +kernel
theorem dX12_plan_59 : decode cX12_plan 59 = .ok (.iconst (-1), 1) := by decide +kernel
theorem dX12_plan_60 : decode cX12_plan 60 = .ok (.ireturn, 1) := by decide +kernel
theorem dX12_plan_61 : decode cX12_plan 61 = .ok (.aload_n 0, 1) := by decide +kernel
theorem dX12_plan_62 : decode cX12_plan 62 = .ok (.getfield 11, 3) := by decide +kernel
theorem dX12_plan_65 : decode cX12_plan 65 = .ok (.iconst 3, 1) := by decide +kernel
theorem dX12_plan_66 : decode cX12_plan 66 = .ok (.iaload, 1) := by decide +kernel
theorem dX12_plan_67 : decode cX12_plan 67 = .ok (.istore 4, 2) := by decide +kernel
theorem dX12_plan_69 : decode cX12_plan 69 = .ok (.iload 4, 2) := by decide +kernel
theorem dX12_plan_71 : decode cX12_plan 71 = .ok (.bipush 10, 2) := by decide +kernel
theorem dX12_plan_73 : decode cX12_plan 73 = .ok (.if_icmp .ne 6, 3) := by decide +kernel
theorem dX12_plan_76 : decode cX12_plan 76 = .ok (.bipush (-4), 2) := by decide +kernel
theorem dX12_plan_78 : decode cX12_plan 78 = .ok (.ireturn, 1) := by decide +kernel
theorem dX12_plan_79 : decode cX12_plan 79 = .ok (.aload_n 0, 1) := by decide +kernel
theorem dX12_plan_80 : decode cX12_plan 80 = .ok (.getfield 11, 3) := by decide +kernel
theorem dX12_plan_83 : decode cX12_plan 83 = .ok (.bipush 38, 2) := by decide +kernel
theorem dX12_plan_85 : decode cX12_plan 85 = .ok (.iconst 2, 1) := by decide +kernel
theorem dX12_plan_86 : decode cX12_plan 86 = .ok (.iload 4, 2) := by decide +kernel
theorem dX12_plan_88 : decode cX12_plan 88 = .ok (.imul, 1) := by decide +kernel
theorem dX12_plan_89 : decode cX12_plan 89 = .ok (.iadd, 1) := by decide +kernel
theorem dX12_plan_90 : decode cX12_plan 90 = .ok (.iload_n 1, 1) := by decide +kernel
theorem dX12_plan_91 : decode cX12_plan 91 = .ok (.iastore, 1) := by decide +kernel
theorem dX12_plan_92 : decode cX12_plan 92 = .ok (.aload_n 0, 1) := by decide +kernel
theorem dX12_plan_93 : decode cX12_plan 93 = .ok (.getfield 11, 3) := by decide +kernel
theorem dX12_plan_96 : decode cX12_plan 96 = .ok (.bipush 38, 2) := by decide +kernel
theorem dX12_plan_98 : decode cX12_plan 98 = .ok (.iconst 2, 1) := by decide +kernel
theorem dX12_plan_99 : decode cX12_plan 99 = .ok (.iload 4, 2) := by decide +kernel
theorem dX12_plan_101 : decode cX12_plan 101 = .ok (.imul, 1) := by decide +kernel
theorem dX12_plan_102 : decode cX12_plan 102 = .ok (.iadd, 1) := by decide +kernel
theorem dX12_plan_103 : decode cX12_plan 103 = .ok (.iconst 1, 1) := by decide +kernel
theorem dX12_plan_104 : decode cX12_plan 104 = .ok (.iadd, 1) := by decide +kernel
theorem dX12_plan_105 : decode cX12_plan 105 = .ok (.iload_n 2, 1) := by decide +kernel
theorem dX12_plan_106 : decode cX12_plan 106 = .ok (.iastore, 1) := by decide +kernel
theorem dX12_plan_107 : decode cX12_plan 107 = .ok (.aload_n 0, 1) := by decide +kernel
theorem dX12_plan_108 : decode cX12_plan 108 = .ok (.getfield 11, 3) := by decide +kernel
theorem dX12_plan_111 : decode cX12_plan 111 = .ok (.iconst 3, 1) := by decide +kernel
theorem dX12_plan_112 : decode cX12_plan 112 = .ok (.iload 4, 2) := by decide +kernel
theorem dX12_plan_114 : decode cX12_plan 114 = .ok (.iconst 1, 1) := by decide +kernel
theorem dX12_plan_115 : decode cX12_plan 115 = .ok (.iadd, 1) := by decide +kernel
theorem dX12_plan_116 : decode cX12_plan 116 = .ok (.iastore, 1) := by decide +kernel
theorem dX12_plan_117 : decode cX12_plan 117 = .ok (.iload 4, 2) := by decide +kernel
theorem dX12_plan_119 : decode cX12_plan 119 = .ok (.iconst 1, 1) := by decide +kernel
theorem dX12_plan_120 : decode cX12_plan 120 = .ok (.iadd, 1) := by decide +kernel
theorem dX12_plan_121 : decode cX12_plan 121 = .ok (.ireturn, 1) := by decide +kernel
theorem dX12_planGoes_0 : decode cX12_planGoes 0 = .ok (.iload_n 1, 1) := by decide +kernel
theorem dX12_planGoes_1 : decode cX12_planGoes 1 = .ok (.ifCond .ne 24, 3) := by decide +kernel
theorem dX12_planGoes_4 : decode cX12_planGoes 4 = .ok (.aload_n 0, 1) := by decide +kernel
theorem dX12_planGoes_5 : decode cX12_planGoes 5 = .ok (.iload_n 2, 1) := by decide +kernel
theorem dX12_planGoes_6 : decode cX12_planGoes 6 = .ok (.invokevirtual 163, 3) := by decide +kernel
theorem dX12_planGoes_9 : decode cX12_planGoes 9 = .ok (.ifCond .eq 11, 3) := by decide +kernel
theorem dX12_planGoes_12 : decode cX12_planGoes 12 = .ok (.aload_n 0, 1) := by decide +kernel
theorem dX12_planGoes_13 : decode cX12_planGoes 13 = .ok (.iload_n 2, 1) := by decide +kernel
theorem dX12_planGoes_14 : decode cX12_planGoes 14 = .ok (.invokevirtual 166, 3) := by decide +kernel
theorem dX12_planGoes_17 : decode cX12_planGoes 17 = .ok (.goto 4, 3) := by decide +kernel
theorem dX12_planGoes_20 : decode cX12_planGoes 20 = .ok (.iconst 0, 1) := by decide +kernel
theorem dX12_planGoes_21 : decode cX12_planGoes 21 = .ok (.istore_n 3, 1) := by decide +kernel
theorem dX12_planGoes_22 : decode cX12_planGoes 22 = .ok (.goto 73, 3) := by decide +kernel
theorem dX12_planGoes_25 : decode cX12_planGoes 25 = .ok (.iload_n 1, 1) := by decide +kernel
theorem dX12_planGoes_26 : decode cX12_planGoes 26 = .ok (.iconst 1, 1) := by decide +kernel
theorem dX12_planGoes_27 : decode cX12_planGoes 27 = .ok (.if_icmp .ne 29, 3) := by decide +kernel
theorem dX12_planGoes_30 : decode cX12_planGoes 30 = .ok (.aload_n 0, 1) := by decide +kernel
theorem dX12_planGoes_31 : decode cX12_planGoes 31 = .ok (.iload_n 2, 1) := by decide +kernel
theorem dX12_planGoes_32 : decode cX12_planGoes 32 = .ok (.invokevirtual 73, 3) := by decide +kernel
theorem dX12_planGoes_35 : decode cX12_planGoes 35 = .ok (.ifCond .eq 21, 3) := by decide +kernel
theorem dX12_planGoes_38 : decode cX12_planGoes 38 = .ok (.aload_n 0, 1) := by decide +kernel
theorem dX12_planGoes_39 : decode cX12_planGoes 39 = .ok (.getfield 11, 3) := by decide +kernel
theorem dX12_planGoes_42 : decode cX12_planGoes 42 = .ok (.bipush 74, 2) := by decide +kernel
theorem dX12_planGoes_44 : decode cX12_planGoes 44 = .ok (.bipush 105, 2) := by decide +kernel
theorem dX12_planGoes_46 : decode cX12_planGoes 46 = .ok (.iload_n 2, 1) := by decide +kernel
theorem dX12_planGoes_47 : decode cX12_planGoes 47 = .ok (.imul, 1) := by decide +kernel
theorem dX12_planGoes_48 : decode cX12_planGoes 48 = .ok (.iadd, 1) := by decide +kernel
theorem dX12_planGoes_49 : decode cX12_planGoes 49 = .ok (.iconst 5, 1) := by decide +kernel
theorem dX12_planGoes_50 : decode cX12_planGoes 50 = .ok (.iadd, 1) := by decide +kernel
theorem dX12_planGoes_51 : decode cX12_planGoes 51 = .ok (.iconst 0, 1) := by decide +kernel
theorem dX12_planGoes_52 : decode cX12_planGoes 52 = .ok (.iastore, 1) := by decide +kernel
theorem dX12_planGoes_53 : decode cX12_planGoes 53 = .ok (.goto 42, 3) := by decide +kernel
theorem dX12_planGoes_56 : decode cX12_planGoes 56 = .ok (.iload_n 1, 1) := by decide +kernel
theorem dX12_planGoes_57 : decode cX12_planGoes 57 = .ok (.iconst 2, 1) := by decide +kernel
theorem dX12_planGoes_58 : decode cX12_planGoes 58 = .ok (.if_icmp .ne 19, 3) := by decide +kernel
theorem dX12_planGoes_61 : decode cX12_planGoes 61 = .ok (.aload_n 0, 1) := by decide +kernel
theorem dX12_planGoes_62 : decode cX12_planGoes 62 = .ok (.getfield 11, 3) := by decide +kernel
theorem dX12_planGoes_65 : decode cX12_planGoes 65 = .ok (.iconst 5, 1) := by decide +kernel
theorem dX12_planGoes_66 : decode cX12_planGoes 66 = .ok (.iconst 3, 1) := by decide +kernel
theorem dX12_planGoes_67 : decode cX12_planGoes 67 = .ok (.iload_n 2, 1) := by decide +kernel
theorem dX12_planGoes_68 : decode cX12_planGoes 68 = .ok (.imul, 1) := by decide +kernel
theorem dX12_planGoes_69 : decode cX12_planGoes 69 = .ok (.iadd, 1) := by decide +kernel
theorem dX12_planGoes_70 : decode cX12_planGoes 70 = .ok (.iconst 1, 1) := by decide +kernel
theorem dX12_planGoes_71 : decode cX12_planGoes 71 = .ok (.iadd, 1) := by decide +kernel
theorem dX12_planGoes_72 : decode cX12_planGoes 72 = .ok (.iconst 0, 1) := by decide +kernel
theorem dX12_planGoes_73 : decode cX12_planGoes 73 = .ok (.iastore, 1) := by decide +kernel
theorem dX12_planGoes_74 : decode cX12_planGoes 74 = .ok (.goto 21, 3) := by decide +kernel
theorem dX12_planGoes_77 : decode cX12_planGoes 77 = .ok (.iload_n 1, 1) := by decide +kernel
theorem dX12_planGoes_78 : decode cX12_planGoes 78 = .ok (.iconst 3, 1) := by decide +kernel
theorem dX12_planGoes_79 : decode cX12_planGoes 79 = .ok (.if_icmp .ne 16, 3) := by decide +kernel
theorem dX12_planGoes_82 : decode cX12_planGoes 82 = .ok (.aload_n 0, 1) := by decide +kernel
theorem dX12_planGoes_83 : decode cX12_planGoes 83 = .ok (.invokevirtual 220, 3) := by decide +kernel
theorem dX12_planGoes_86 : decode cX12_planGoes 86 = .ok (.ifCond .eq 9, 3) := by decide +kernel
theorem dX12_planGoes_89 : decode cX12_planGoes 89 = .ok (.aload_n 0, 1) := by decide +kernel
theorem dX12_planGoes_90 : decode cX12_planGoes 90 = .ok (.iconst 1, 1) := by decide +kernel
theorem dX12_planGoes_91 : decode cX12_planGoes 91 = .ok (.invokevirtual 223, 3) := by decide +kernel
theorem dX12_planGoes_94 : decode cX12_planGoes 94 = .ok (.istore_n 3, 1) := by decide +kernel
theorem dX12_planGoes_95 : decode cX12_planGoes 95 = .ok (.return_, 1) := by decide +kernel
theorem dX12_ends_0 : decode cX12_ends 0 = .ok (.iload_n 1, 1) := by decide +kernel
theorem dX12_ends_1 : decode cX12_ends 1 = .ok (.i2l, 1) := by decide +kernel
theorem dX12_ends_2 : decode cX12_ends 2 = .ok (.lconst 0, 1) := by decide +kernel
theorem dX12_ends_3 : decode cX12_ends 3 = .ok (.lconst 1, 1) := by decide +kernel
theorem dX12_ends_4 : decode cX12_ends 4 = .ok (.invokestatic 61, 3) := by decide +kernel
theorem dX12_ends_7 : decode cX12_ends 7 = .ok (.ifCond .ne 7, 3) := by decide +kernel
theorem dX12_ends_10 : decode cX12_ends 10 = .ok (.sipush (-10001), 3) := by decide +kernel
theorem dX12_ends_13 : decode cX12_ends 13 = .ok (.ireturn, 1) := by decide +kernel
theorem dX12_ends_14 : decode cX12_ends 14 = .ok (.aload_n 0, 1) := by decide +kernel
theorem dX12_ends_15 : decode cX12_ends 15 = .ok (.getfield 11, 3) := by decide +kernel
theorem dX12_ends_18 : decode cX12_ends 18 = .ok (.aload_n 0, 1) := by decide +kernel
theorem dX12_ends_19 : decode cX12_ends 19 = .ok (.getfield 49, 3) := by decide +kernel
theorem dX12_ends_22 : decode cX12_ends 22 = .ok (.invokestatic 213, 3) := by decide +kernel
theorem dX12_ends_25 : decode cX12_ends 25 = .ok (.iconst 0, 1) := by decide +kernel
theorem dX12_ends_26 : decode cX12_ends 26 = .ok (.istore_n 2, 1) := by decide +kernel
theorem dX12_ends_27 : decode cX12_ends 27 = .ok (.iload_n 2, 1) := by decide +kernel
theorem dX12_ends_28 : decode cX12_ends 28 = .ok (.aload_n 0, 1) := by decide +kernel
theorem dX12_ends_29 : decode cX12_ends 29 = .ok (.getfield 11, 3) := by decide +kernel
theorem dX12_ends_32 : decode cX12_ends 32 = .ok (.iconst 3, 1) := by decide +kernel
theorem dX12_ends_33 : decode cX12_ends 33 = .ok (.iaload, 1) := by decide +kernel
theorem dX12_ends_34 : decode cX12_ends 34 = .ok (.if_icmp .ge 37, 3) := by decide +kernel
theorem dX12_ends_37 : decode cX12_ends 37 = .ok (.aload_n 0, 1) := by decide +kernel
theorem dX12_ends_38 : decode cX12_ends 38 = .ok (.aload_n 0, 1) := by decide +kernel
theorem dX12_ends_39 : decode cX12_ends 39 = .ok (.getfield 11, 3) := by decide +kernel
theorem dX12_ends_42 : decode cX12_ends 42 = .ok (.bipush 38, 2) := by decide +kernel
theorem dX12_ends_44 : decode cX12_ends 44 = .ok (.iconst 2, 1) := by decide +kernel
theorem dX12_ends_45 : decode cX12_ends 45 = .ok (.iload_n 2, 1) := by decide +kernel
theorem dX12_ends_46 : decode cX12_ends 46 = .ok (.imul, 1) := by decide +kernel
theorem dX12_ends_47 : decode cX12_ends 47 = .ok (.iadd, 1) := by decide +kernel
theorem dX12_ends_48 : decode cX12_ends 48 = .ok (.iaload, 1) := by decide +kernel
theorem dX12_ends_49 : decode cX12_ends 49 = .ok (.aload_n 0, 1) := by decide +kernel
theorem dX12_ends_50 : decode cX12_ends 50 = .ok (.getfield 11, 3) := by decide +kernel
theorem dX12_ends_53 : decode cX12_ends 53 = .ok (.bipush 38, 2) := by decide +kernel
theorem dX12_ends_55 : decode cX12_ends 55 = .ok (.iconst 2, 1) := by decide +kernel
theorem dX12_ends_56 : decode cX12_ends 56 = .ok (.iload_n 2, 1) := by decide +kernel
theorem dX12_ends_57 : decode cX12_ends 57 = .ok (.imul, 1) := by decide +kernel
theorem dX12_ends_58 : decode cX12_ends 58 = .ok (.iadd, 1) := by decide +kernel
theorem dX12_ends_59 : decode cX12_ends 59 = .ok (.iconst 1, 1) := by decide +kernel
theorem dX12_ends_60 : decode cX12_ends 60 = .ok (.iadd, 1) := by decide +kernel
theorem dX12_ends_61 : decode cX12_ends 61 = .ok (.iaload, 1) := by decide +kernel
theorem dX12_ends_62 : decode cX12_ends 62 = .ok (.invokevirtual 286, 3) := by decide +kernel
theorem dX12_ends_65 : decode cX12_ends 65 = .ok (.iinc 2 1, 3) := by decide +kernel
theorem dX12_ends_68 : decode cX12_ends 68 = .ok (.goto (-41), 3) := by decide +kernel
theorem dX12_ends_71 : decode cX12_ends 71 = .ok (.iconst 0, 1) := by decide +kernel
theorem dX12_ends_72 : decode cX12_ends 72 = .ok (.istore_n 2, 1) := by decide +kernel
theorem dX12_ends_73 : decode cX12_ends 73 = .ok (.iconst 0, 1) := by decide +kernel
theorem dX12_ends_74 : decode cX12_ends 74 = .ok (.istore_n 3, 1) := by decide +kernel
theorem dX12_ends_75 : decode cX12_ends 75 = .ok (.iload_n 3, 1) := by decide +kernel
theorem dX12_ends_76 : decode cX12_ends 76 = .ok (.aload_n 0, 1) := by decide +kernel
theorem dX12_ends_77 : decode cX12_ends 77 = .ok (.getfield 11, 3) := by decide +kernel
theorem dX12_ends_80 : decode cX12_ends 80 = .ok (.iconst 1, 1) := by decide +kernel
theorem dX12_ends_81 : decode cX12_ends 81 = .ok (.iaload, 1) := by decide +kernel
theorem dX12_ends_82 : decode cX12_ends 82 = .ok (.if_icmp .ge 57, 3) := by decide +kernel
theorem dX12_ends_85 : decode cX12_ends 85 = .ok (.iconst 0, 1) := by decide +kernel
theorem dX12_ends_86 : decode cX12_ends 86 = .ok (.istore 4, 2) := by decide +kernel
theorem dX12_ends_88 : decode cX12_ends 88 = .ok (.aload_n 0, 1) := by decide +kernel
theorem dX12_ends_89 : decode cX12_ends 89 = .ok (.iload_n 3, 1) := by decide +kernel
theorem dX12_ends_90 : decode cX12_ends 90 = .ok (.invokevirtual 73, 3) := by decide +kernel
theorem dX12_ends_93 : decode cX12_ends 93 = .ok (.ifCond .eq 40, 3) := by decide +kernel
theorem dX12_ends_96 : decode cX12_ends 96 = .ok (.iload 4, 2) := by decide +kernel
theorem dX12_ends_98 : decode cX12_ends 98 = .ok (.aload_n 0, 1) := by decide +kernel
theorem dX12_ends_99 : decode cX12_ends 99 = .ok (.iload_n 3, 1) := by decide +kernel
theorem dX12_ends_100 : decode cX12_ends 100 = .ok (.invokevirtual 76, 3) := by decide +kernel
theorem dX12_ends_103 : decode cX12_ends 103 = .ok (.if_icmp .ge 30, 3) := by decide +kernel
theorem dX12_ends_106 : decode cX12_ends 106 = .ok (.iload_n 2, 1) := by decide +kernel
theorem dX12_ends_107 : decode cX12_ends 107 = .ok (.aload_n 0, 1) := by decide +kernel
theorem dX12_ends_108 : decode cX12_ends 108 = .ok (.getfield 11, 3) := by decide +kernel
theorem dX12_ends_111 : decode cX12_ends 111 = .ok (.bipush 74, 2) := by decide +kernel
theorem dX12_ends_113 : decode cX12_ends 113 = .ok (.bipush 105, 2) := by decide +kernel
theorem dX12_ends_115 : decode cX12_ends 115 = .ok (.iload_n 3, 1) := by decide +kernel
theorem dX12_ends_116 : decode cX12_ends 116 = .ok (.imul, 1) := by decide +kernel
theorem dX12_ends_117 : decode cX12_ends 117 = .ok (.iadd, 1) := by decide +kernel
theorem dX12_ends_118 : decode cX12_ends 118 = .ok (.bipush 6, 2) := by decide +kernel
theorem dX12_ends_120 : decode cX12_ends 120 = .ok (.iadd, 1) := by decide +kernel
theorem dX12_ends_121 : decode cX12_ends 121 = .ok (.iload 4, 2) := by decide +kernel
theorem dX12_ends_123 : decode cX12_ends 123 = .ok (.iadd, 1) := by decide +kernel
theorem dX12_ends_124 : decode cX12_ends 124 = .ok (.iaload, 1) := by decide +kernel
theorem dX12_ends_125 : decode cX12_ends 125 = .ok (.iadd, 1) := by decide +kernel
theorem dX12_ends_126 : decode cX12_ends 126 = .ok (.istore_n 2, 1) := by decide +kernel
theorem dX12_ends_127 : decode cX12_ends 127 = .ok (.iinc 4 1, 3) := by decide +kernel
theorem dX12_ends_130 : decode cX12_ends 130 = .ok (.goto (-42), 3) := by decide +kernel
theorem dX12_ends_133 : decode cX12_ends 133 = .ok (.iinc 3 1, 3) := by decide +kernel
theorem dX12_ends_136 : decode cX12_ends 136 = .ok (.goto (-61), 3) := by decide +kernel
theorem dX12_ends_139 : decode cX12_ends 139 = .ok (.aload_n 0, 1) := by decide +kernel
theorem dX12_ends_140 : decode cX12_ends 140 = .ok (.invokevirtual 242, 3) := by decide +kernel
theorem dX12_ends_143 : decode cX12_ends 143 = .ok (.istore_n 3, 1) := by decide +kernel
theorem dX12_ends_144 : decode cX12_ends 144 = .ok (.aload_n 0, 1) := by decide +kernel
theorem dX12_ends_145 : decode cX12_ends 145 = .ok (.getfield 49, 3) := by decide +kernel
theorem dX12_ends_148 : decode cX12_ends 148 = .ok (.aload_n 0, 1) := by decide +kernel
theorem dX12_ends_149 : decode cX12_ends 149 = .ok (.getfield 11, 3) := by decide +kernel
theorem dX12_ends_152 : decode cX12_ends 152 = .ok (.invokestatic 213, 3) := by decide +kernel
theorem dX12_ends_155 : decode cX12_ends 155 = .ok (.iload_n 1, 1) := by decide +kernel
theorem dX12_ends_156 : decode cX12_ends 156 = .ok (.ifCond .ne 7, 3) := by decide +kernel
theorem dX12_ends_159 : decode cX12_ends 159 = .ok (.iload_n 3, 1) := by decide +kernel
theorem dX12_ends_160 : decode cX12_ends 160 = .ok (.goto 4, 3) := by decide +kernel
theorem dX12_ends_163 : decode cX12_ends 163 = .ok (.iload_n 2, 1) := by decide +kernel
theorem dX12_ends_164 : decode cX12_ends 164 = .ok (.ireturn, 1) := by decide +kernel
theorem dX12_book_0 : decode cX12_book 0 = .ok (.iload_n 1, 1) := by decide +kernel
theorem dX12_book_1 : decode cX12_book 1 = .ok (.iconst (-1), 1) := by decide +kernel
theorem dX12_book_2 : decode cX12_book 2 = .ok (.if_icmp .ne 12, 3) := by decide +kernel
theorem dX12_book_5 : decode cX12_book 5 = .ok (.aload_n 0, 1) := by decide +kernel
theorem dX12_book_6 : decode cX12_book 6 = .ok (.getfield 11, 3) := by decide +kernel
theorem dX12_book_9 : decode cX12_book 9 = .ok (.iconst 4, 1) := by decide +kernel
theorem dX12_book_10 : decode cX12_book 10 = .ok (.iconst 0, 1) := by decide +kernel
theorem dX12_book_11 : decode cX12_book 11 = .ok (.iastore, 1) := by decide +kernel
theorem dX12_book_12 : decode cX12_book 12 = .ok (.iconst 0, 1) := by decide +kernel
theorem dX12_book_13 : decode cX12_book 13 = .ok (.ireturn, 1) := by decide +kernel
theorem dX12_book_14 : decode cX12_book 14 = .ok (.aload_n 0, 1) := by decide +kernel
theorem dX12_book_15 : decode cX12_book 15 = .ok (.iload_n 1, 1) := by decide +kernel
theorem dX12_book_16 : decode cX12_book 16 = .ok (.invokevirtual 73, 3) := by decide +kernel
theorem dX12_book_19 : decode cX12_book 19 = .ok (.ifCond .ne 5, 3) := by decide +kernel
theorem dX12_book_22 : decode cX12_book 22 = .ok (.iconst (-1), 1) := by decide +kernel
theorem dX12_book_23 : decode cX12_book 23 = .ok (.ireturn, 1) := by decide +kernel
theorem dX12_book_24 : decode cX12_book 24 = .ok (.iload_n 2, 1) := by decide +kernel
theorem dX12_book_25 : decode cX12_book 25 = .ok (.i2l, 1) := by decide +kernel
theorem dX12_book_26 : decode cX12_book 26 = .ok (.lconst 0, 1) := by decide +kernel
theorem dX12_book_27 : decode cX12_book 27 = .ok (.ldc2_w 289, 3) := by decide +kernel
theorem dX12_book_30 : decode cX12_book 30 = .ok (.invokestatic 61, 3) := by decide +kernel
theorem dX12_book_33 : decode cX12_book 33 = .ok (.ifCond .ne 6, 3) := by decide +kernel
theorem dX12_book_36 : decode cX12_book 36 = .ok (.bipush (-2), 2) := by decide +kernel
theorem dX12_book_38 : decode cX12_book 38 = .ok (.ireturn, 1) := by decide +kernel
theorem dX12_book_39 : decode cX12_book 39 = .ok (.aload_n 0, 1) := by decide +kernel
theorem dX12_book_40 : decode cX12_book 40 = .ok (.getfield 11, 3) := by decide +kernel
theorem dX12_book_43 : decode cX12_book 43 = .ok (.iconst 4, 1) := by decide +kernel
theorem dX12_book_44 : decode cX12_book 44 = .ok (.iaload, 1) := by decide +kernel
theorem dX12_book_45 : decode cX12_book 45 = .ok (.istore_n 3, 1) := by decide +kernel
theorem dX12_book_46 : decode cX12_book 46 = .ok (.iload_n 3, 1) := by decide +kernel
theorem dX12_book_47 : decode cX12_book 47 = .ok (.bipush 8, 2) := by decide +kernel
theorem dX12_book_49 : decode cX12_book 49 = .ok (.if_icmp .ne 6, 3) := by decide +kernel
theorem dX12_book_52 : decode cX12_book 52 = .ok (.bipush (-4), 2) := by decide +kernel
theorem dX12_book_54 : decode cX12_book 54 = .ok (.ireturn, 1) := by decide +kernel
theorem dX12_book_55 : decode cX12_book 55 = .ok (.aload_n 0, 1) := by decide +kernel
theorem dX12_book_56 : decode cX12_book 56 = .ok (.getfield 11, 3) := by decide +kernel
theorem dX12_book_59 : decode cX12_book 59 = .ok (.bipush 58, 2) := by decide +kernel
theorem dX12_book_61 : decode cX12_book 61 = .ok (.iconst 2, 1) := by decide +kernel
theorem dX12_book_62 : decode cX12_book 62 = .ok (.iload_n 3, 1) := by decide +kernel
theorem dX12_book_63 : decode cX12_book 63 = .ok (.imul, 1) := by decide +kernel
theorem dX12_book_64 : decode cX12_book 64 = .ok (.iadd, 1) := by decide +kernel
theorem dX12_book_65 : decode cX12_book 65 = .ok (.iload_n 1, 1) := by decide +kernel
theorem dX12_book_66 : decode cX12_book 66 = .ok (.iastore, 1) := by decide +kernel
theorem dX12_book_67 : decode cX12_book 67 = .ok (.aload_n 0, 1) := by decide +kernel
theorem dX12_book_68 : decode cX12_book 68 = .ok (.getfield 11, 3) := by decide +kernel
theorem dX12_book_71 : decode cX12_book 71 = .ok (.bipush 58, 2) := by decide +kernel
theorem dX12_book_73 : decode cX12_book 73 = .ok (.iconst 2, 1) := by decide +kernel
theorem dX12_book_74 : decode cX12_book 74 = .ok (.iload_n 3, 1) := by decide +kernel
theorem dX12_book_75 : decode cX12_book 75 = .ok (.imul, 1) := by decide +kernel
theorem dX12_book_76 : decode cX12_book 76 = .ok (.iadd, 1) := by decide +kernel
theorem dX12_book_77 : decode cX12_book 77 = .ok (.iconst 1, 1) := by decide +kernel
theorem dX12_book_78 : decode cX12_book 78 = .ok (.iadd, 1) := by decide +kernel
theorem dX12_book_79 : decode cX12_book 79 = .ok (.iload_n 2, 1) := by decide +kernel
theorem dX12_book_80 : decode cX12_book 80 = .ok (.iastore, 1) := by decide +kernel
theorem dX12_book_81 : decode cX12_book 81 = .ok (.aload_n 0, 1) := by decide +kernel
theorem dX12_book_82 : decode cX12_book 82 = .ok (.getfield 11, 3) := by decide +kernel
theorem dX12_book_85 : decode cX12_book 85 = .ok (.iconst 4, 1) := by decide +kernel
theorem dX12_book_86 : decode cX12_book 86 = .ok (.iload_n 3, 1) := by decide +kernel
theorem dX12_book_87 : decode cX12_book 87 = .ok (.iconst 1, 1) := by decide +kernel
theorem dX12_book_88 : decode cX12_book 88 = .ok (.iadd, 1) := by decide +kernel
theorem dX12_book_89 : decode cX12_book 89 = .ok (.iastore, 1) := by decide +kernel
theorem dX12_book_90 : decode cX12_book 90 = .ok (.iload_n 3, 1) := by decide +kernel
theorem dX12_book_91 : decode cX12_book 91 = .ok (.iconst 1, 1) := by decide +kernel
theorem dX12_book_92 : decode cX12_book 92 = .ok (.iadd, 1) := by decide +kernel
theorem dX12_book_93 : decode cX12_book 93 = .ok (.ireturn, 1) := by decide +kernel
theorem dX12_looked_0 : decode cX12_looked 0 = .ok (.iconst 0, 1) := by decide +kernel
theorem dX12_looked_1 : decode cX12_looked 1 = .ok (.istore_n 1, 1) := by decide +kernel
theorem dX12_looked_2 : decode cX12_looked 2 = .ok (.iload_n 1, 1) := by decide +kernel
theorem dX12_looked_3 : decode cX12_looked 3 = .ok (.aload_n 0, 1) := by decide +kernel
theorem dX12_looked_4 : decode cX12_looked 4 = .ok (.getfield 11, 3) := by decide +kernel
theorem dX12_looked_7 : decode cX12_looked 7 = .ok (.iconst 4, 1) := by decide +kernel
theorem dX12_looked_8 : decode cX12_looked 8 = .ok (.iaload, 1) := by decide +kernel
theorem dX12_looked_9 : decode cX12_looked 9 = .ok (.if_icmp .ge 52, 3) := by decide +kernel
theorem dX12_looked_12 : decode cX12_looked 12 = .ok (.aload_n 0, 1) := by decide +kernel
theorem dX12_looked_13 : decode cX12_looked 13 = .ok (.getfield 11, 3) := by decide +kernel
theorem dX12_looked_16 : decode cX12_looked 16 = .ok (.bipush 58, 2) := by decide +kernel
theorem dX12_looked_18 : decode cX12_looked 18 = .ok (.iconst 2, 1) := by decide +kernel
theorem dX12_looked_19 : decode cX12_looked 19 = .ok (.iload_n 1, 1) := by decide +kernel
theorem dX12_looked_20 : decode cX12_looked 20 = .ok (.imul, 1) := by decide +kernel
theorem dX12_looked_21 : decode cX12_looked 21 = .ok (.iadd, 1) := by decide +kernel
theorem dX12_looked_22 : decode cX12_looked 22 = .ok (.iaload, 1) := by decide +kernel
theorem dX12_looked_23 : decode cX12_looked 23 = .ok (.istore_n 2, 1) := by decide +kernel
theorem dX12_looked_24 : decode cX12_looked 24 = .ok (.aload_n 0, 1) := by decide +kernel
theorem dX12_looked_25 : decode cX12_looked 25 = .ok (.iload_n 2, 1) := by decide +kernel
theorem dX12_looked_26 : decode cX12_looked 26 = .ok (.invokevirtual 73, 3) := by decide +kernel
theorem dX12_looked_29 : decode cX12_looked 29 = .ok (.ifCond .eq 24, 3) := by decide +kernel
theorem dX12_looked_32 : decode cX12_looked 32 = .ok (.aload_n 0, 1) := by decide +kernel
theorem dX12_looked_33 : decode cX12_looked 33 = .ok (.iload_n 2, 1) := by decide +kernel
theorem dX12_looked_34 : decode cX12_looked 34 = .ok (.invokevirtual 76, 3) := by decide +kernel
theorem dX12_looked_37 : decode cX12_looked 37 = .ok (.aload_n 0, 1) := by decide +kernel
theorem dX12_looked_38 : decode cX12_looked 38 = .ok (.getfield 11, 3) := by decide +kernel
theorem dX12_looked_41 : decode cX12_looked 41 = .ok (.bipush 58, 2) := by decide +kernel
theorem dX12_looked_43 : decode cX12_looked 43 = .ok (.iconst 2, 1) := by decide +kernel
theorem dX12_looked_44 : decode cX12_looked 44 = .ok (.iload_n 1, 1) := by decide +kernel
theorem dX12_looked_45 : decode cX12_looked 45 = .ok (.imul, 1) := by decide +kernel
theorem dX12_looked_46 : decode cX12_looked 46 = .ok (.iadd, 1) := by decide +kernel
theorem dX12_looked_47 : decode cX12_looked 47 = .ok (.iconst 1, 1) := by decide +kernel
theorem dX12_looked_48 : decode cX12_looked 48 = .ok (.iadd, 1) := by decide +kernel
theorem dX12_looked_49 : decode cX12_looked 49 = .ok (.iaload, 1) := by decide +kernel
theorem dX12_looked_50 : decode cX12_looked 50 = .ok (.if_icmp .eq 5, 3) := by decide +kernel
theorem dX12_looked_53 : decode cX12_looked 53 = .ok (.iload_n 1, 1) := by decide +kernel
theorem dX12_looked_54 : decode cX12_looked 54 = .ok (.ireturn, 1) := by decide +kernel
theorem dX12_looked_55 : decode cX12_looked 55 = .ok (.iinc 1 1, 3) := by decide +kernel
theorem dX12_looked_58 : decode cX12_looked 58 = .ok (.goto (-56), 3) := by decide +kernel
theorem dX12_looked_61 : decode cX12_looked 61 = .ok (.bipush (-5), 2) := by decide +kernel
theorem dX12_looked_63 : decode cX12_looked 63 = .ok (.ireturn, 1) := by decide +kernel
theorem dX12_image_0 : decode cX12_image 0 = .ok (.aload_n 0, 1) := by decide +kernel
theorem dX12_image_1 : decode cX12_image 1 = .ok (.getfield 11, 3) := by decide +kernel
theorem dX12_image_4 : decode cX12_image 4 = .ok (.aload_n 0, 1) := by decide +kernel
theorem dX12_image_5 : decode cX12_image 5 = .ok (.getfield 18, 3) := by decide +kernel
theorem dX12_image_8 : decode cX12_image 8 = .ok (.invokestatic 213, 3) := by decide +kernel
theorem dX12_image_11 : decode cX12_image 11 = .ok (.aload_n 0, 1) := by decide +kernel
theorem dX12_image_12 : decode cX12_image 12 = .ok (.iconst 1, 1) := by decide +kernel
theorem dX12_image_13 : decode cX12_image 13 = .ok (.putfield 291, 3) := by decide +kernel
theorem dX12_image_16 : decode cX12_image 16 = .ok (.aload_n 0, 1) := by decide +kernel
theorem dX12_image_17 : decode cX12_image 17 = .ok (.getfield 11, 3) := by decide +kernel
theorem dX12_image_20 : decode cX12_image 20 = .ok (.iconst 0, 1) := by decide +kernel
theorem dX12_image_21 : decode cX12_image 21 = .ok (.iaload, 1) := by decide +kernel
theorem dX12_image_22 : decode cX12_image 22 = .ok (.ireturn, 1) := by decide +kernel
theorem dX12_undo_0 : decode cX12_undo 0 = .ok (.aload_n 0, 1) := by decide +kernel
theorem dX12_undo_1 : decode cX12_undo 1 = .ok (.getfield 291, 3) := by decide +kernel
theorem dX12_undo_4 : decode cX12_undo 4 = .ok (.ifCond .ne 6, 3) := by decide +kernel
theorem dX12_undo_7 : decode cX12_undo 7 = .ok (.bipush (-3), 2) := by decide +kernel
theorem dX12_undo_9 : decode cX12_undo 9 = .ok (.ireturn, 1) := by decide +kernel
theorem dX12_undo_10 : decode cX12_undo 10 = .ok (.aload_n 0, 1) := by decide +kernel
theorem dX12_undo_11 : decode cX12_undo 11 = .ok (.getfield 18, 3) := by decide +kernel
theorem dX12_undo_14 : decode cX12_undo 14 = .ok (.aload_n 0, 1) := by decide +kernel
theorem dX12_undo_15 : decode cX12_undo 15 = .ok (.getfield 11, 3) := by decide +kernel
theorem dX12_undo_18 : decode cX12_undo 18 = .ok (.invokestatic 213, 3) := by decide +kernel
theorem dX12_undo_21 : decode cX12_undo 21 = .ok (.aload_n 0, 1) := by decide +kernel
theorem dX12_undo_22 : decode cX12_undo 22 = .ok (.getfield 11, 3) := by decide +kernel
theorem dX12_undo_25 : decode cX12_undo 25 = .ok (.iconst 0, 1) := by decide +kernel
theorem dX12_undo_26 : decode cX12_undo 26 = .ok (.iaload, 1) := by decide +kernel
theorem dX12_undo_27 : decode cX12_undo 27 = .ok (.ireturn, 1) := by decide +kernel
theorem dX12_there_0 : decode cX12_there 0 = .ok (.iconst 0, 1) := by decide +kernel
theorem dX12_there_1 : decode cX12_there 1 = .ok (.istore_n 1, 1) := by decide +kernel
theorem dX12_there_2 : decode cX12_there 2 = .ok (.iconst 0, 1) := by decide +kernel
theorem dX12_there_3 : decode cX12_there 3 = .ok (.istore_n 2, 1) := by decide +kernel
theorem dX12_there_4 : decode cX12_there 4 = .ok (.iload_n 2, 1) := by decide +kernel
theorem dX12_there_5 : decode cX12_there 5 = .ok (.aload_n 0, 1) := by decide +kernel
theorem dX12_there_6 : decode cX12_there 6 = .ok (.getfield 11, 3) := by decide +kernel
theorem dX12_there_9 : decode cX12_there 9 = .ok (.iconst 1, 1) := by decide +kernel
theorem dX12_there_10 : decode cX12_there 10 = .ok (.iaload, 1) := by decide +kernel
theorem dX12_there_11 : decode cX12_there 11 = .ok (.if_icmp .ge 25, 3) := by decide +kernel
theorem dX12_there_14 : decode cX12_there 14 = .ok (.iload_n 1, 1) := by decide +kernel
theorem dX12_there_15 : decode cX12_there 15 = .ok (.aload_n 0, 1) := by decide +kernel
theorem dX12_there_16 : decode cX12_there 16 = .ok (.iload_n 2, 1) := by decide +kernel
theorem dX12_there_17 : decode cX12_there 17 = .ok (.invokevirtual 73, 3) := by decide +kernel
theorem dX12_there_20 : decode cX12_there 20 = .ok (.ifCond .eq 7, 3) := by decide +kernel
theorem dX12_there_23 : decode cX12_there 23 = .ok (.iconst 1, 1) := by decide +kernel
theorem dX12_there_24 : decode cX12_there 24 = .ok (.goto 4, 3) := by decide +kernel
theorem dX12_there_27 : decode cX12_there 27 = .ok (.iconst 0, 1) := by decide +kernel
theorem dX12_there_28 : decode cX12_there 28 = .ok (.iadd, 1) := by decide +kernel
theorem dX12_there_29 : decode cX12_there 29 = .ok (.istore_n 1, 1) := by decide +kernel
theorem dX12_there_30 : decode cX12_there 30 = .ok (.iinc 2 1, 3) := by decide +kernel
theorem dX12_there_33 : decode cX12_there 33 = .ok (.goto (-29), 3) := by decide +kernel
theorem dX12_there_36 : decode cX12_there 36 = .ok (.iload_n 1, 1) := by decide +kernel
theorem dX12_there_37 : decode cX12_there 37 = .ok (.ireturn, 1) := by decide +kernel
theorem dX12_count_0 : decode cX12_count 0 = .ok (.iload_n 1, 1) := by decide +kernel
theorem dX12_count_1 : decode cX12_count 1 = .ok (.tableswitch 88 0 6 #[43, 50, 57, 62, 69, 76, 83], 43) := by decide +kernel
theorem dX12_count_44 : decode cX12_count 44 = .ok (.aload_n 0, 1) := by decide +kernel
theorem dX12_count_45 : decode cX12_count 45 = .ok (.getfield 11, 3) := by decide +kernel
theorem dX12_count_48 : decode cX12_count 48 = .ok (.iconst 0, 1) := by decide +kernel
theorem dX12_count_49 : decode cX12_count 49 = .ok (.iaload, 1) := by decide +kernel
theorem dX12_count_50 : decode cX12_count 50 = .ok (.ireturn, 1) := by decide +kernel
theorem dX12_count_51 : decode cX12_count 51 = .ok (.aload_n 0, 1) := by decide +kernel
theorem dX12_count_52 : decode cX12_count 52 = .ok (.getfield 11, 3) := by decide +kernel
theorem dX12_count_55 : decode cX12_count 55 = .ok (.iconst 1, 1) := by decide +kernel
theorem dX12_count_56 : decode cX12_count 56 = .ok (.iaload, 1) := by decide +kernel
theorem dX12_count_57 : decode cX12_count 57 = .ok (.ireturn, 1) := by decide +kernel
theorem dX12_count_58 : decode cX12_count 58 = .ok (.aload_n 0, 1) := by decide +kernel
theorem dX12_count_59 : decode cX12_count 59 = .ok (.invokevirtual 295, 3) := by decide +kernel
theorem dX12_count_62 : decode cX12_count 62 = .ok (.ireturn, 1) := by decide +kernel
theorem dX12_count_63 : decode cX12_count 63 = .ok (.aload_n 0, 1) := by decide +kernel
theorem dX12_count_64 : decode cX12_count 64 = .ok (.getfield 11, 3) := by decide +kernel
theorem dX12_count_67 : decode cX12_count 67 = .ok (.iconst 2, 1) := by decide +kernel
theorem dX12_count_68 : decode cX12_count 68 = .ok (.iaload, 1) := by decide +kernel
theorem dX12_count_69 : decode cX12_count 69 = .ok (.ireturn, 1) := by decide +kernel
theorem dX12_count_70 : decode cX12_count 70 = .ok (.aload_n 0, 1) := by decide +kernel
theorem dX12_count_71 : decode cX12_count 71 = .ok (.getfield 11, 3) := by decide +kernel
theorem dX12_count_74 : decode cX12_count 74 = .ok (.iconst 3, 1) := by decide +kernel
theorem dX12_count_75 : decode cX12_count 75 = .ok (.iaload, 1) := by decide +kernel
theorem dX12_count_76 : decode cX12_count 76 = .ok (.ireturn, 1) := by decide +kernel
theorem dX12_count_77 : decode cX12_count 77 = .ok (.aload_n 0, 1) := by decide +kernel
theorem dX12_count_78 : decode cX12_count 78 = .ok (.getfield 11, 3) := by decide +kernel
theorem dX12_count_81 : decode cX12_count 81 = .ok (.iconst 4, 1) := by decide +kernel
theorem dX12_count_82 : decode cX12_count 82 = .ok (.iaload, 1) := by decide +kernel
theorem dX12_count_83 : decode cX12_count 83 = .ok (.ireturn, 1) := by decide +kernel
theorem dX12_count_84 : decode cX12_count 84 = .ok (.aload_n 0, 1) := by decide +kernel
theorem dX12_count_85 : decode cX12_count 85 = .ok (.getfield 86, 3) := by decide +kernel
theorem dX12_count_88 : decode cX12_count 88 = .ok (.ireturn, 1) := by decide +kernel
theorem dX12_count_89 : decode cX12_count 89 = .ok (.bipush (-2), 2) := by decide +kernel
theorem dX12_count_91 : decode cX12_count 91 = .ok (.ireturn, 1) := by decide +kernel
theorem dX12_judge_0 : decode cX12_judge 0 = .ok (.aload_n 0, 1) := by decide +kernel
theorem dX12_judge_1 : decode cX12_judge 1 = .ok (.iload_n 1, 1) := by decide +kernel
theorem dX12_judge_2 : decode cX12_judge 2 = .ok (.invokevirtual 73, 3) := by decide +kernel
theorem dX12_judge_5 : decode cX12_judge 5 = .ok (.ifCond .eq 15, 3) := by decide +kernel
theorem dX12_judge_8 : decode cX12_judge 8 = .ok (.iload_n 2, 1) := by decide +kernel
theorem dX12_judge_9 : decode cX12_judge 9 = .ok (.i2l, 1) := by decide +kernel
theorem dX12_judge_10 : decode cX12_judge 10 = .ok (.lconst 0, 1) := by decide +kernel
theorem dX12_judge_11 : decode cX12_judge 11 = .ok (.ldc2_w 298, 3) := by decide +kernel
theorem dX12_judge_14 : decode cX12_judge 14 = .ok (.invokestatic 61, 3) := by decide +kernel
theorem dX12_judge_17 : decode cX12_judge 17 = .ok (.ifCond .ne 5, 3) := by decide +kernel
theorem dX12_judge_20 : decode cX12_judge 20 = .ok (.iconst (-1), 1) := by decide +kernel
theorem dX12_judge_21 : decode cX12_judge 21 = .ok (.ireturn, 1) := by decide +kernel
theorem dX12_judge_22 : decode cX12_judge 22 = .ok (.aload_n 0, 1) := by decide +kernel
theorem dX12_judge_23 : decode cX12_judge 23 = .ok (.getfield 52, 3) := by decide +kernel
theorem dX12_judge_26 : decode cX12_judge 26 = .ok (.iload_n 2, 1) := by decide +kernel
theorem dX12_judge_27 : decode cX12_judge 27 = .ok (.iaload, 1) := by decide +kernel
theorem dX12_judge_28 : decode cX12_judge 28 = .ok (.iconst (-1), 1) := by decide +kernel
theorem dX12_judge_29 : decode cX12_judge 29 = .ok (.if_icmp .eq 16, 3) := by decide +kernel
theorem dX12_judge_32 : decode cX12_judge 32 = .ok (.aload_n 0, 1) := by decide +kernel
theorem dX12_judge_33 : decode cX12_judge 33 = .ok (.getfield 52, 3) := by decide +kernel
theorem dX12_judge_36 : decode cX12_judge 36 = .ok (.iload_n 2, 1) := by decide +kernel
theorem dX12_judge_37 : decode cX12_judge 37 = .ok (.iaload, 1) := by decide +kernel
theorem dX12_judge_38 : decode cX12_judge 38 = .ok (.iconst 2, 1) := by decide +kernel
theorem dX12_judge_39 : decode cX12_judge 39 = .ok (.if_icmp .eq 6, 3) := by decide +kernel
theorem dX12_judge_42 : decode cX12_judge 42 = .ok (.bipush (-12), 2) := by decide +kernel
theorem dX12_judge_44 : decode cX12_judge 44 = .ok (.ireturn, 1) := by decide +kernel
theorem dX12_judge_45 : decode cX12_judge 45 = .ok (.iconst 0, 1) := by decide +kernel
theorem dX12_judge_46 : decode cX12_judge 46 = .ok (.istore 4, 2) := by decide +kernel
theorem dX12_judge_48 : decode cX12_judge 48 = .ok (.iload 4, 2) := by decide +kernel
theorem dX12_judge_50 : decode cX12_judge 50 = .ok (.aload_n 0, 1) := by decide +kernel
theorem dX12_judge_51 : decode cX12_judge 51 = .ok (.iload_n 1, 1) := by decide +kernel
theorem dX12_judge_52 : decode cX12_judge 52 = .ok (.invokevirtual 76, 3) := by decide +kernel
theorem dX12_judge_55 : decode cX12_judge 55 = .ok (.if_icmp .ge 82, 3) := by decide +kernel
theorem dX12_judge_58 : decode cX12_judge 58 = .ok (.aload_n 0, 1) := by decide +kernel
theorem dX12_judge_59 : decode cX12_judge 59 = .ok (.getfield 52, 3) := by decide +kernel
theorem dX12_judge_62 : decode cX12_judge 62 = .ok (.iload_n 2, 1) := by decide +kernel
theorem dX12_judge_63 : decode cX12_judge 63 = .ok (.iaload, 1) := by decide +kernel
theorem dX12_judge_64 : decode cX12_judge 64 = .ok (.iconst (-1), 1) := by decide +kernel
theorem dX12_judge_65 : decode cX12_judge 65 = .ok (.if_icmp .eq 20, 3) := by decide +kernel
theorem dX12_judge_68 : decode cX12_judge 68 = .ok (.iload_n 3, 1) := by decide +kernel
theorem dX12_judge_69 : decode cX12_judge 69 = .ok (.ifCond .lt 16, 3) := by decide +kernel
theorem dX12_judge_72 : decode cX12_judge 72 = .ok (.iload 4, 2) := by decide +kernel
theorem dX12_judge_74 : decode cX12_judge 74 = .ok (.aload_n 0, 1) := by decide +kernel
theorem dX12_judge_75 : decode cX12_judge 75 = .ok (.getfield 55, 3) := by decide +kernel
theorem dX12_judge_78 : decode cX12_judge 78 = .ok (.iload_n 2, 1) := by decide +kernel
theorem dX12_judge_79 : decode cX12_judge 79 = .ok (.iaload, 1) := by decide +kernel
theorem dX12_judge_80 : decode cX12_judge 80 = .ok (.iload_n 3, 1) := by decide +kernel
theorem dX12_judge_81 : decode cX12_judge 81 = .ok (.isub, 1) := by decide +kernel
theorem dX12_judge_82 : decode cX12_judge 82 = .ok (.if_icmp .lt 9, 3) := by decide +kernel
theorem dX12_judge_85 : decode cX12_judge 85 = .ok (.bipush 100, 2) := by decide +kernel
theorem dX12_judge_87 : decode cX12_judge 87 = .ok (.iload 4, 2) := by decide +kernel
theorem dX12_judge_89 : decode cX12_judge 89 = .ok (.iadd, 1) := by decide +kernel
theorem dX12_judge_90 : decode cX12_judge 90 = .ok (.ireturn, 1) := by decide +kernel
theorem dX12_judge_91 : decode cX12_judge 91 = .ok (.aload_n 0, 1) := by decide +kernel
theorem dX12_judge_92 : decode cX12_judge 92 = .ok (.getfield 58, 3) := by decide +kernel
theorem dX12_judge_95 : decode cX12_judge 95 = .ok (.bipush 60, 2) := by decide +kernel
theorem dX12_judge_97 : decode cX12_judge 97 = .ok (.iload_n 2, 1) := by decide +kernel
theorem dX12_judge_98 : decode cX12_judge 98 = .ok (.imul, 1) := by decide +kernel
theorem dX12_judge_99 : decode cX12_judge 99 = .ok (.iload_n 3, 1) := by decide +kernel
theorem dX12_judge_100 : decode cX12_judge 100 = .ok (.iadd, 1) := by decide +kernel
theorem dX12_judge_101 : decode cX12_judge 101 = .ok (.iload 4, 2) := by decide +kernel
theorem dX12_judge_103 : decode cX12_judge 103 = .ok (.iadd, 1) := by decide +kernel
theorem dX12_judge_104 : decode cX12_judge 104 = .ok (.laload, 1) := by decide +kernel
theorem dX12_judge_105 : decode cX12_judge 105 = .ok (.aload_n 0, 1) := by decide +kernel
theorem dX12_judge_106 : decode cX12_judge 106 = .ok (.getfield 11, 3) := by decide +kernel
theorem dX12_judge_109 : decode cX12_judge 109 = .ok (.bipush 74, 2) := by decide +kernel
theorem dX12_judge_111 : decode cX12_judge 111 = .ok (.bipush 105, 2) := by decide +kernel
theorem dX12_judge_113 : decode cX12_judge 113 = .ok (.iload_n 1, 1) := by decide +kernel
theorem dX12_judge_114 : decode cX12_judge 114 = .ok (.imul, 1) := by decide +kernel
theorem dX12_judge_115 : decode cX12_judge 115 = .ok (.iadd, 1) := by decide +kernel
theorem dX12_judge_116 : decode cX12_judge 116 = .ok (.bipush 6, 2) := by decide +kernel
theorem dX12_judge_118 : decode cX12_judge 118 = .ok (.iadd, 1) := by decide +kernel
theorem dX12_judge_119 : decode cX12_judge 119 = .ok (.iload 4, 2) := by decide +kernel
theorem dX12_judge_121 : decode cX12_judge 121 = .ok (.iadd, 1) := by decide +kernel
theorem dX12_judge_122 : decode cX12_judge 122 = .ok (.iaload, 1) := by decide +kernel
theorem dX12_judge_123 : decode cX12_judge 123 = .ok (.i2l, 1) := by decide +kernel
theorem dX12_judge_124 : decode cX12_judge 124 = .ok (.lcmp, 1) := by decide +kernel
theorem dX12_judge_125 : decode cX12_judge 125 = .ok (.ifCond .eq 6, 3) := by decide +kernel
theorem dX12_judge_128 : decode cX12_judge 128 = .ok (.iload 4, 2) := by decide +kernel
theorem dX12_judge_130 : decode cX12_judge 130 = .ok (.ireturn, 1) := by decide +kernel
theorem dX12_judge_131 : decode cX12_judge 131 = .ok (.iinc 4 1, 3) := by decide +kernel
theorem dX12_judge_134 : decode cX12_judge 134 = .ok (.goto (-86), 3) := by decide +kernel
theorem dX12_judge_137 : decode cX12_judge 137 = .ok (.bipush (-5), 2) := by decide +kernel
theorem dX12_judge_139 : decode cX12_judge 139 = .ok (.ireturn, 1) := by decide +kernel
theorem dX12_tape_0 : decode cX12_tape 0 = .ok (.iload_n 1, 1) := by decide +kernel
theorem dX12_tape_1 : decode cX12_tape 1 = .ok (.i2l, 1) := by decide +kernel
theorem dX12_tape_2 : decode cX12_tape 2 = .ok (.lconst 0, 1) := by decide +kernel
theorem dX12_tape_3 : decode cX12_tape 3 = .ok (.ldc2_w 298, 3) := by decide +kernel
theorem dX12_tape_6 : decode cX12_tape 6 = .ok (.invokestatic 61, 3) := by decide +kernel
theorem dX12_tape_9 : decode cX12_tape 9 = .ok (.ifCond .ne 5, 3) := by decide +kernel
theorem dX12_tape_12 : decode cX12_tape 12 = .ok (.iconst (-1), 1) := by decide +kernel
theorem dX12_tape_13 : decode cX12_tape 13 = .ok (.ireturn, 1) := by decide +kernel
theorem dX12_tape_14 : decode cX12_tape 14 = .ok (.iload_n 2, 1) := by decide +kernel
theorem dX12_tape_15 : decode cX12_tape 15 = .ok (.i2l, 1) := by decide +kernel
theorem dX12_tape_16 : decode cX12_tape 16 = .ok (.ldc2_w 300, 3) := by decide +kernel
theorem dX12_tape_19 : decode cX12_tape 19 = .ok (.ldc2_w 65, 3) := by decide +kernel
theorem dX12_tape_22 : decode cX12_tape 22 = .ok (.invokestatic 61, 3) := by decide +kernel
theorem dX12_tape_25 : decode cX12_tape 25 = .ok (.ifCond .eq 14, 3) := by decide +kernel
theorem dX12_tape_28 : decode cX12_tape 28 = .ok (.iload_n 2, 1) := by decide +kernel
theorem dX12_tape_29 : decode cX12_tape 29 = .ok (.iconst (-1), 1) := by decide +kernel
theorem dX12_tape_30 : decode cX12_tape 30 = .ok (.if_icmp .eq 12, 3) := by decide +kernel
theorem dX12_tape_33 : decode cX12_tape 33 = .ok (.iload_n 3, 1) := by decide +kernel
theorem dX12_tape_34 : decode cX12_tape 34 = .ok (.bipush 60, 2) := by decide +kernel
theorem dX12_tape_36 : decode cX12_tape 36 = .ok (.if_icmp .le 6, 3) := by decide +kernel
theorem dX12_tape_39 : decode cX12_tape 39 = .ok (.bipush (-2), 2) := by decide +kernel
theorem dX12_tape_41 : decode cX12_tape 41 = .ok (.ireturn, 1) := by decide +kernel
theorem dX12_tape_42 : decode cX12_tape 42 = .ok (.iload_n 2, 1) := by decide +kernel
theorem dX12_tape_43 : decode cX12_tape 43 = .ok (.iconst (-1), 1) := by decide +kernel
theorem dX12_tape_44 : decode cX12_tape 44 = .ok (.if_icmp .eq 10, 3) := by decide +kernel
theorem dX12_tape_47 : decode cX12_tape 47 = .ok (.iload_n 3, 1) := by decide +kernel
theorem dX12_tape_48 : decode cX12_tape 48 = .ok (.ifCond .ge 6, 3) := by decide +kernel
theorem dX12_tape_51 : decode cX12_tape 51 = .ok (.bipush (-14), 2) := by decide +kernel
theorem dX12_tape_53 : decode cX12_tape 53 = .ok (.ireturn, 1) := by decide +kernel
theorem dX12_tape_54 : decode cX12_tape 54 = .ok (.aload_n 0, 1) := by decide +kernel
theorem dX12_tape_55 : decode cX12_tape 55 = .ok (.getfield 52, 3) := by decide +kernel
theorem dX12_tape_58 : decode cX12_tape 58 = .ok (.iload_n 1, 1) := by decide +kernel
theorem dX12_tape_59 : decode cX12_tape 59 = .ok (.iload_n 2, 1) := by decide +kernel
theorem dX12_tape_60 : decode cX12_tape 60 = .ok (.iastore, 1) := by decide +kernel
theorem dX12_tape_61 : decode cX12_tape 61 = .ok (.aload_n 0, 1) := by decide +kernel
theorem dX12_tape_62 : decode cX12_tape 62 = .ok (.getfield 55, 3) := by decide +kernel
theorem dX12_tape_65 : decode cX12_tape 65 = .ok (.iload_n 1, 1) := by decide +kernel
theorem dX12_tape_66 : decode cX12_tape 66 = .ok (.iload_n 2, 1) := by decide +kernel
theorem dX12_tape_67 : decode cX12_tape 67 = .ok (.iconst (-1), 1) := by decide +kernel
theorem dX12_tape_68 : decode cX12_tape 68 = .ok (.if_icmp .ne 7, 3) := by decide +kernel
theorem dX12_tape_71 : decode cX12_tape 71 = .ok (.iconst 0, 1) := by decide +kernel
theorem dX12_tape_72 : decode cX12_tape 72 = .ok (.goto 4, 3) := by decide +kernel
theorem dX12_tape_75 : decode cX12_tape 75 = .ok (.iload_n 3, 1) := by decide +kernel
theorem dX12_tape_76 : decode cX12_tape 76 = .ok (.iastore, 1) := by decide +kernel
theorem dX12_tape_77 : decode cX12_tape 77 = .ok (.iconst 0, 1) := by decide +kernel
theorem dX12_tape_78 : decode cX12_tape 78 = .ok (.istore 4, 2) := by decide +kernel
theorem dX12_tape_80 : decode cX12_tape 80 = .ok (.iload 4, 2) := by decide +kernel
theorem dX12_tape_82 : decode cX12_tape 82 = .ok (.bipush 60, 2) := by decide +kernel
theorem dX12_tape_84 : decode cX12_tape 84 = .ok (.if_icmp .ge 22, 3) := by decide +kernel
theorem dX12_tape_87 : decode cX12_tape 87 = .ok (.aload_n 0, 1) := by decide +kernel
theorem dX12_tape_88 : decode cX12_tape 88 = .ok (.getfield 58, 3) := by decide +kernel
theorem dX12_tape_91 : decode cX12_tape 91 = .ok (.bipush 60, 2) := by decide +kernel
theorem dX12_tape_93 : decode cX12_tape 93 = .ok (.iload_n 1, 1) := by decide +kernel
theorem dX12_tape_94 : decode cX12_tape 94 = .ok (.imul, 1) := by decide +kernel
theorem dX12_tape_95 : decode cX12_tape 95 = .ok (.iload 4, 2) := by decide +kernel
theorem dX12_tape_97 : decode cX12_tape 97 = .ok (.iadd, 1) := by decide +kernel
theorem dX12_tape_98 : decode cX12_tape 98 = .ok (.lconst 0, 1) := by decide +kernel
theorem dX12_tape_99 : decode cX12_tape 99 = .ok (.lastore, 1) := by decide +kernel
theorem dX12_tape_100 : decode cX12_tape 100 = .ok (.iinc 4 1, 3) := by decide +kernel
theorem dX12_tape_103 : decode cX12_tape 103 = .ok (.goto (-23), 3) := by decide +kernel
theorem dX12_tape_106 : decode cX12_tape 106 = .ok (.iconst 1, 1) := by decide +kernel
theorem dX12_tape_107 : decode cX12_tape 107 = .ok (.ireturn, 1) := by decide +kernel
theorem dX12_lowestBits_0 : decode cX12_lowestBits 0 = .ok (.iload_n 0, 1) := by decide +kernel
theorem dX12_lowestBits_1 : decode cX12_lowestBits 1 = .ok (.tableswitch 47 0 3 #[31, 36, 41, 45], 31) := by decide +kernel
theorem dX12_lowestBits_32 : decode cX12_lowestBits 32 = .ok (.lload_n 1, 1) := by decide +kernel
theorem dX12_lowestBits_33 : decode cX12_lowestBits 33 = .ok (.l2i, 1) := by decide +kernel
theorem dX12_lowestBits_34 : decode cX12_lowestBits 34 = .ok (.i2b, 1) := by decide +kernel
theorem dX12_lowestBits_35 : decode cX12_lowestBits 35 = .ok (.i2l, 1) := by decide +kernel
theorem dX12_lowestBits_36 : decode cX12_lowestBits 36 = .ok (.lreturn, 1) := by decide +kernel
theorem dX12_lowestBits_37 : decode cX12_lowestBits 37 = .ok (.lload_n 1, 1) := by decide +kernel
theorem dX12_lowestBits_38 : decode cX12_lowestBits 38 = .ok (.l2i, 1) := by decide +kernel
theorem dX12_lowestBits_39 : decode cX12_lowestBits 39 = .ok (.i2s, 1) := by decide +kernel
theorem dX12_lowestBits_40 : decode cX12_lowestBits 40 = .ok (.i2l, 1) := by decide +kernel
theorem dX12_lowestBits_41 : decode cX12_lowestBits 41 = .ok (.lreturn, 1) := by decide +kernel
theorem dX12_lowestBits_42 : decode cX12_lowestBits 42 = .ok (.lload_n 1, 1) := by decide +kernel
theorem dX12_lowestBits_43 : decode cX12_lowestBits 43 = .ok (.l2i, 1) := by decide +kernel
theorem dX12_lowestBits_44 : decode cX12_lowestBits 44 = .ok (.i2l, 1) := by decide +kernel
theorem dX12_lowestBits_45 : decode cX12_lowestBits 45 = .ok (.lreturn, 1) := by decide +kernel
theorem dX12_lowestBits_46 : decode cX12_lowestBits 46 = .ok (.lload_n 1, 1) := by decide +kernel
theorem dX12_lowestBits_47 : decode cX12_lowestBits 47 = .ok (.lreturn, 1) := by decide +kernel
theorem dX12_lowestBits_48 : decode cX12_lowestBits 48 = .ok (.lload_n 1, 1) := by decide +kernel
theorem dX12_lowestBits_49 : decode cX12_lowestBits 49 = .ok (.lconst 0, 1) := by decide +kernel
theorem dX12_lowestBits_50 : decode cX12_lowestBits 50 = .ok (.lcmp, 1) := by decide +kernel
theorem dX12_lowestBits_51 : decode cX12_lowestBits 51 = .ok (.ifCond .ne 7, 3) := by decide +kernel
theorem dX12_lowestBits_54 : decode cX12_lowestBits 54 = .ok (.lconst 0, 1) := by decide +kernel
theorem dX12_lowestBits_55 : decode cX12_lowestBits 55 = .ok (.goto 4, 3) := by decide +kernel
theorem dX12_lowestBits_58 : decode cX12_lowestBits 58 = .ok (.lconst 1, 1) := by decide +kernel
theorem dX12_lowestBits_59 : decode cX12_lowestBits 59 = .ok (.lreturn, 1) := by decide +kernel
theorem dX12_item_0 : decode cX12_item 0 = .ok (.iload_n 1, 1) := by decide +kernel
theorem dX12_item_1 : decode cX12_item 1 = .ok (.i2l, 1) := by decide +kernel
theorem dX12_item_2 : decode cX12_item 2 = .ok (.lconst 0, 1) := by decide +kernel
theorem dX12_item_3 : decode cX12_item 3 = .ok (.ldc2_w 298, 3) := by decide +kernel
theorem dX12_item_6 : decode cX12_item 6 = .ok (.invokestatic 61, 3) := by decide +kernel
theorem dX12_item_9 : decode cX12_item 9 = .ok (.ifCond .ne 5, 3) := by decide +kernel
theorem dX12_item_12 : decode cX12_item 12 = .ok (.iconst (-1), 1) := by decide +kernel
theorem dX12_item_13 : decode cX12_item 13 = .ok (.ireturn, 1) := by decide +kernel
theorem dX12_item_14 : decode cX12_item 14 = .ok (.aload_n 0, 1) := by decide +kernel
theorem dX12_item_15 : decode cX12_item 15 = .ok (.getfield 52, 3) := by decide +kernel
theorem dX12_item_18 : decode cX12_item 18 = .ok (.iload_n 1, 1) := by decide +kernel
theorem dX12_item_19 : decode cX12_item 19 = .ok (.iaload, 1) := by decide +kernel
theorem dX12_item_20 : decode cX12_item 20 = .ok (.iconst (-1), 1) := by decide +kernel
theorem dX12_item_21 : decode cX12_item 21 = .ok (.if_icmp .ne 6, 3) := by decide +kernel
theorem dX12_item_24 : decode cX12_item 24 = .ok (.bipush (-11), 2) := by decide +kernel
theorem dX12_item_26 : decode cX12_item 26 = .ok (.ireturn, 1) := by decide +kernel
theorem dX12_item_27 : decode cX12_item 27 = .ok (.iload_n 2, 1) := by decide +kernel
theorem dX12_item_28 : decode cX12_item 28 = .ok (.i2l, 1) := by decide +kernel
theorem dX12_item_29 : decode cX12_item 29 = .ok (.lconst 0, 1) := by decide +kernel
theorem dX12_item_30 : decode cX12_item 30 = .ok (.aload_n 0, 1) := by decide +kernel
theorem dX12_item_31 : decode cX12_item 31 = .ok (.getfield 55, 3) := by decide +kernel
theorem dX12_item_34 : decode cX12_item 34 = .ok (.iload_n 1, 1) := by decide +kernel
theorem dX12_item_35 : decode cX12_item 35 = .ok (.iaload, 1) := by decide +kernel
theorem dX12_item_36 : decode cX12_item 36 = .ok (.iconst 1, 1) := by decide +kernel
theorem dX12_item_37 : decode cX12_item 37 = .ok (.isub, 1) := by decide +kernel
theorem dX12_item_38 : decode cX12_item 38 = .ok (.i2l, 1) := by decide +kernel
theorem dX12_item_39 : decode cX12_item 39 = .ok (.invokestatic 61, 3) := by decide +kernel
theorem dX12_item_42 : decode cX12_item 42 = .ok (.ifCond .ne 6, 3) := by decide +kernel
theorem dX12_item_45 : decode cX12_item 45 = .ok (.bipush (-13), 2) := by decide +kernel
theorem dX12_item_47 : decode cX12_item 47 = .ok (.ireturn, 1) := by decide +kernel
theorem dX12_item_48 : decode cX12_item 48 = .ok (.aload_n 0, 1) := by decide +kernel
theorem dX12_item_49 : decode cX12_item 49 = .ok (.getfield 58, 3) := by decide +kernel
theorem dX12_item_52 : decode cX12_item 52 = .ok (.bipush 60, 2) := by decide +kernel
theorem dX12_item_54 : decode cX12_item 54 = .ok (.iload_n 1, 1) := by decide +kernel
theorem dX12_item_55 : decode cX12_item 55 = .ok (.imul, 1) := by decide +kernel
theorem dX12_item_56 : decode cX12_item 56 = .ok (.iload_n 2, 1) := by decide +kernel
theorem dX12_item_57 : decode cX12_item 57 = .ok (.iadd, 1) := by decide +kernel
theorem dX12_item_58 : decode cX12_item 58 = .ok (.aload_n 0, 1) := by decide +kernel
theorem dX12_item_59 : decode cX12_item 59 = .ok (.getfield 52, 3) := by decide +kernel
theorem dX12_item_62 : decode cX12_item 62 = .ok (.iload_n 1, 1) := by decide +kernel
theorem dX12_item_63 : decode cX12_item 63 = .ok (.iaload, 1) := by decide +kernel
theorem dX12_item_64 : decode cX12_item 64 = .ok (.lload_n 3, 1) := by decide +kernel
theorem dX12_item_65 : decode cX12_item 65 = .ok (.invokestatic 302, 3) := by decide +kernel
theorem dX12_item_68 : decode cX12_item 68 = .ok (.lastore, 1) := by decide +kernel
theorem dX12_item_69 : decode cX12_item 69 = .ok (.iconst 1, 1) := by decide +kernel
theorem dX12_item_70 : decode cX12_item 70 = .ok (.ireturn, 1) := by decide +kernel
theorem dX12_peek_0 : decode cX12_peek 0 = .ok (.iload_n 1, 1) := by decide +kernel
theorem dX12_peek_1 : decode cX12_peek 1 = .ok (.i2l, 1) := by decide +kernel
theorem dX12_peek_2 : decode cX12_peek 2 = .ok (.lconst 0, 1) := by decide +kernel
theorem dX12_peek_3 : decode cX12_peek 3 = .ok (.ldc2_w 298, 3) := by decide +kernel
theorem dX12_peek_6 : decode cX12_peek 6 = .ok (.invokestatic 61, 3) := by decide +kernel
theorem dX12_peek_9 : decode cX12_peek 9 = .ok (.ifCond .eq 35, 3) := by decide +kernel
theorem dX12_peek_12 : decode cX12_peek 12 = .ok (.iload_n 2, 1) := by decide +kernel
theorem dX12_peek_13 : decode cX12_peek 13 = .ok (.i2l, 1) := by decide +kernel
theorem dX12_peek_14 : decode cX12_peek 14 = .ok (.lconst 0, 1) := by decide +kernel
theorem dX12_peek_15 : decode cX12_peek 15 = .ok (.aload_n 0, 1) := by decide +kernel
theorem dX12_peek_16 : decode cX12_peek 16 = .ok (.getfield 55, 3) := by decide +kernel
theorem dX12_peek_19 : decode cX12_peek 19 = .ok (.iload_n 1, 1) := by decide +kernel
theorem dX12_peek_20 : decode cX12_peek 20 = .ok (.iaload, 1) := by decide +kernel
theorem dX12_peek_21 : decode cX12_peek 21 = .ok (.iconst 1, 1) := by decide +kernel
theorem dX12_peek_22 : decode cX12_peek 22 = .ok (.isub, 1) := by decide +kernel
theorem dX12_peek_23 : decode cX12_peek 23 = .ok (.i2l, 1) := by decide +kernel
theorem dX12_peek_24 : decode cX12_peek 24 = .ok (.invokestatic 61, 3) := by decide +kernel
theorem dX12_peek_27 : decode cX12_peek 27 = .ok (.ifCond .eq 17, 3) := by decide +kernel
theorem dX12_peek_30 : decode cX12_peek 30 = .ok (.aload_n 0, 1) := by decide +kernel
theorem dX12_peek_31 : decode cX12_peek 31 = .ok (.getfield 58, 3) := by decide +kernel
theorem dX12_peek_34 : decode cX12_peek 34 = .ok (.bipush 60, 2) := by decide +kernel
theorem dX12_peek_36 : decode cX12_peek 36 = .ok (.iload_n 1, 1) := by decide +kernel
theorem dX12_peek_37 : decode cX12_peek 37 = .ok (.imul, 1) := by decide +kernel
theorem dX12_peek_38 : decode cX12_peek 38 = .ok (.iload_n 2, 1) := by decide +kernel
theorem dX12_peek_39 : decode cX12_peek 39 = .ok (.iadd, 1) := by decide +kernel
theorem dX12_peek_40 : decode cX12_peek 40 = .ok (.laload, 1) := by decide +kernel
theorem dX12_peek_41 : decode cX12_peek 41 = .ok (.goto 6, 3) := by decide +kernel
theorem dX12_peek_44 : decode cX12_peek 44 = .ok (.ldc2_w 169, 3) := by decide +kernel
theorem dX12_peek_47 : decode cX12_peek 47 = .ok (.lreturn, 1) := by decide +kernel
theorem dX12_shift_0 : decode cX12_shift 0 = .ok (.iload_n 1, 1) := by decide +kernel
theorem dX12_shift_1 : decode cX12_shift 1 = .ok (.i2l, 1) := by decide +kernel
theorem dX12_shift_2 : decode cX12_shift 2 = .ok (.lconst 0, 1) := by decide +kernel
theorem dX12_shift_3 : decode cX12_shift 3 = .ok (.ldc2_w 298, 3) := by decide +kernel
theorem dX12_shift_6 : decode cX12_shift 6 = .ok (.invokestatic 61, 3) := by decide +kernel
theorem dX12_shift_9 : decode cX12_shift 9 = .ok (.ifCond .eq 15, 3) := by decide +kernel
theorem dX12_shift_12 : decode cX12_shift 12 = .ok (.iload_n 3, 1) := by decide +kernel
theorem dX12_shift_13 : decode cX12_shift 13 = .ok (.i2l, 1) := by decide +kernel
theorem dX12_shift_14 : decode cX12_shift 14 = .ok (.lconst 0, 1) := by decide +kernel
theorem dX12_shift_15 : decode cX12_shift 15 = .ok (.ldc2_w 298, 3) := by decide +kernel
theorem dX12_shift_18 : decode cX12_shift 18 = .ok (.invokestatic 61, 3) := by decide +kernel
theorem dX12_shift_21 : decode cX12_shift 21 = .ok (.ifCond .ne 5, 3) := by decide +kernel
theorem dX12_shift_24 : decode cX12_shift 24 = .ok (.iconst (-1), 1) := by decide +kernel
theorem dX12_shift_25 : decode cX12_shift 25 = .ok (.ireturn, 1) := by decide +kernel
theorem dX12_shift_26 : decode cX12_shift 26 = .ok (.aload_n 0, 1) := by decide +kernel
theorem dX12_shift_27 : decode cX12_shift 27 = .ok (.getfield 52, 3) := by decide +kernel
theorem dX12_shift_30 : decode cX12_shift 30 = .ok (.iload_n 1, 1) := by decide +kernel
theorem dX12_shift_31 : decode cX12_shift 31 = .ok (.iaload, 1) := by decide +kernel
theorem dX12_shift_32 : decode cX12_shift 32 = .ok (.iconst (-1), 1) := by decide +kernel
theorem dX12_shift_33 : decode cX12_shift 33 = .ok (.if_icmp .eq 13, 3) := by decide +kernel
theorem dX12_shift_36 : decode cX12_shift 36 = .ok (.aload_n 0, 1) := by decide +kernel
theorem dX12_shift_37 : decode cX12_shift 37 = .ok (.getfield 52, 3) := by decide +kernel
theorem dX12_shift_40 : decode cX12_shift 40 = .ok (.iload_n 3, 1) := by decide +kernel
theorem dX12_shift_41 : decode cX12_shift 41 = .ok (.iaload, 1) := by decide +kernel
theorem dX12_shift_42 : decode cX12_shift 42 = .ok (.iconst (-1), 1) := by decide +kernel
theorem dX12_shift_43 : decode cX12_shift 43 = .ok (.if_icmp .ne 6, 3) := by decide +kernel
theorem dX12_shift_46 : decode cX12_shift 46 = .ok (.bipush (-11), 2) := by decide +kernel
theorem dX12_shift_48 : decode cX12_shift 48 = .ok (.ireturn, 1) := by decide +kernel
theorem dX12_shift_49 : decode cX12_shift 49 = .ok (.aload_n 0, 1) := by decide +kernel
theorem dX12_shift_50 : decode cX12_shift 50 = .ok (.getfield 52, 3) := by decide +kernel
theorem dX12_shift_53 : decode cX12_shift 53 = .ok (.iload_n 1, 1) := by decide +kernel
theorem dX12_shift_54 : decode cX12_shift 54 = .ok (.iaload, 1) := by decide +kernel
theorem dX12_shift_55 : decode cX12_shift 55 = .ok (.aload_n 0, 1) := by decide +kernel
theorem dX12_shift_56 : decode cX12_shift 56 = .ok (.getfield 52, 3) := by decide +kernel
theorem dX12_shift_59 : decode cX12_shift 59 = .ok (.iload_n 3, 1) := by decide +kernel
theorem dX12_shift_60 : decode cX12_shift 60 = .ok (.iaload, 1) := by decide +kernel
theorem dX12_shift_61 : decode cX12_shift 61 = .ok (.if_icmp .eq 6, 3) := by decide +kernel
theorem dX12_shift_64 : decode cX12_shift 64 = .ok (.bipush (-12), 2) := by decide +kernel
theorem dX12_shift_66 : decode cX12_shift 66 = .ok (.ireturn, 1) := by decide +kernel
theorem dX12_shift_67 : decode cX12_shift 67 = .ok (.iload 5, 2) := by decide +kernel
theorem dX12_shift_69 : decode cX12_shift 69 = .ok (.ifCond .lt 60, 3) := by decide +kernel
theorem dX12_shift_72 : decode cX12_shift 72 = .ok (.iload_n 2, 1) := by decide +kernel
theorem dX12_shift_73 : decode cX12_shift 73 = .ok (.ifCond .lt 56, 3) := by decide +kernel
theorem dX12_shift_76 : decode cX12_shift 76 = .ok (.iload 4, 2) := by decide +kernel
theorem dX12_shift_78 : decode cX12_shift 78 = .ok (.ifCond .lt 51, 3) := by decide +kernel
theorem dX12_shift_81 : decode cX12_shift 81 = .ok (.iload_n 2, 1) := by decide +kernel
theorem dX12_shift_82 : decode cX12_shift 82 = .ok (.aload_n 0, 1) := by decide +kernel
theorem dX12_shift_83 : decode cX12_shift 83 = .ok (.getfield 55, 3) := by decide +kernel
theorem dX12_shift_86 : decode cX12_shift 86 = .ok (.iload_n 1, 1) := by decide +kernel
theorem dX12_shift_87 : decode cX12_shift 87 = .ok (.iaload, 1) := by decide +kernel
theorem dX12_shift_88 : decode cX12_shift 88 = .ok (.if_icmp .gt 41, 3) := by decide +kernel
theorem dX12_shift_91 : decode cX12_shift 91 = .ok (.iload 4, 2) := by decide +kernel
theorem dX12_shift_93 : decode cX12_shift 93 = .ok (.aload_n 0, 1) := by decide +kernel
theorem dX12_shift_94 : decode cX12_shift 94 = .ok (.getfield 55, 3) := by decide +kernel
theorem dX12_shift_97 : decode cX12_shift 97 = .ok (.iload_n 3, 1) := by decide +kernel
theorem dX12_shift_98 : decode cX12_shift 98 = .ok (.iaload, 1) := by decide +kernel
theorem dX12_shift_99 : decode cX12_shift 99 = .ok (.if_icmp .gt 30, 3) := by decide +kernel
theorem dX12_shift_102 : decode cX12_shift 102 = .ok (.iload 5, 2) := by decide +kernel
theorem dX12_shift_104 : decode cX12_shift 104 = .ok (.aload_n 0, 1) := by decide +kernel
theorem dX12_shift_105 : decode cX12_shift 105 = .ok (.getfield 55, 3) := by decide +kernel
theorem dX12_shift_108 : decode cX12_shift 108 = .ok (.iload_n 1, 1) := by decide +kernel
theorem dX12_shift_109 : decode cX12_shift 109 = .ok (.iaload, 1) := by decide +kernel
theorem dX12_shift_110 : decode cX12_shift 110 = .ok (.iload_n 2, 1) := by decide +kernel
theorem dX12_shift_111 : decode cX12_shift 111 = .ok (.isub, 1) := by decide +kernel
theorem dX12_shift_112 : decode cX12_shift 112 = .ok (.if_icmp .gt 17, 3) := by decide +kernel
theorem dX12_shift_115 : decode cX12_shift 115 = .ok (.iload 5, 2) := by decide +kernel
theorem dX12_shift_117 : decode cX12_shift 117 = .ok (.aload_n 0, 1) := by decide +kernel
theorem dX12_shift_118 : decode cX12_shift 118 = .ok (.getfield 55, 3) := by decide +kernel
theorem dX12_shift_121 : decode cX12_shift 121 = .ok (.iload_n 3, 1) := by decide +kernel
theorem dX12_shift_122 : decode cX12_shift 122 = .ok (.iaload, 1) := by decide +kernel
theorem dX12_shift_123 : decode cX12_shift 123 = .ok (.iload 4, 2) := by decide +kernel
theorem dX12_shift_125 : decode cX12_shift 125 = .ok (.isub, 1) := by decide +kernel
theorem dX12_shift_126 : decode cX12_shift 126 = .ok (.if_icmp .le 6, 3) := by decide +kernel
theorem dX12_shift_129 : decode cX12_shift 129 = .ok (.bipush (-13), 2) := by decide +kernel
theorem dX12_shift_131 : decode cX12_shift 131 = .ok (.ireturn, 1) := by decide +kernel
theorem dX12_shift_132 : decode cX12_shift 132 = .ok (.iconst 0, 1) := by decide +kernel
theorem dX12_shift_133 : decode cX12_shift 133 = .ok (.istore 6, 2) := by decide +kernel
theorem dX12_shift_135 : decode cX12_shift 135 = .ok (.iload 6, 2) := by decide +kernel
theorem dX12_shift_137 : decode cX12_shift 137 = .ok (.iload 5, 2) := by decide +kernel
theorem dX12_shift_139 : decode cX12_shift 139 = .ok (.if_icmp .ge 58, 3) := by decide +kernel
theorem dX12_shift_142 : decode cX12_shift 142 = .ok (.iload_n 2, 1) := by decide +kernel
theorem dX12_shift_143 : decode cX12_shift 143 = .ok (.iload 4, 2) := by decide +kernel
theorem dX12_shift_145 : decode cX12_shift 145 = .ok (.if_icmp .ge 13, 3) := by decide +kernel
theorem dX12_shift_148 : decode cX12_shift 148 = .ok (.iload 5, 2) := by decide +kernel
theorem dX12_shift_150 : decode cX12_shift 150 = .ok (.iconst 1, 1) := by decide +kernel
theorem dX12_shift_151 : decode cX12_shift 151 = .ok (.isub, 1) := by decide +kernel
theorem dX12_shift_152 : decode cX12_shift 152 = .ok (.iload 6, 2) := by decide +kernel
theorem dX12_shift_154 : decode cX12_shift 154 = .ok (.isub, 1) := by decide +kernel
theorem dX12_shift_155 : decode cX12_shift 155 = .ok (.goto 5, 3) := by decide +kernel
theorem dX12_shift_158 : decode cX12_shift 158 = .ok (.iload 6, 2) := by decide +kernel
theorem dX12_shift_160 : decode cX12_shift 160 = .ok (.istore 7, 2) := by decide +kernel
theorem dX12_shift_162 : decode cX12_shift 162 = .ok (.aload_n 0, 1) := by decide +kernel
theorem dX12_shift_163 : decode cX12_shift 163 = .ok (.getfield 58, 3) := by decide +kernel
theorem dX12_shift_166 : decode cX12_shift 166 = .ok (.bipush 60, 2) := by decide +kernel
theorem dX12_shift_168 : decode cX12_shift 168 = .ok (.iload_n 3, 1) := by decide +kernel
theorem dX12_shift_169 : decode cX12_shift 169 = .ok (.imul, 1) := by decide +kernel
theorem dX12_shift_170 : decode cX12_shift 170 = .ok (.iload 4, 2) := by decide +kernel
theorem dX12_shift_172 : decode cX12_shift 172 = .ok (.iadd, 1) := by decide +kernel
theorem dX12_shift_173 : decode cX12_shift 173 = .ok (.iload 7, 2) := by decide +kernel
theorem dX12_shift_175 : decode cX12_shift 175 = .ok (.iadd, 1) := by decide +kernel
theorem dX12_shift_176 : decode cX12_shift 176 = .ok (.aload_n 0, 1) := by decide +kernel
theorem dX12_shift_177 : decode cX12_shift 177 = .ok (.getfield 58, 3) := by decide +kernel
theorem dX12_shift_180 : decode cX12_shift 180 = .ok (.bipush 60, 2) := by decide +kernel
theorem dX12_shift_182 : decode cX12_shift 182 = .ok (.iload_n 1, 1) := by decide +kernel
theorem dX12_shift_183 : decode cX12_shift 183 = .ok (.imul, 1) := by decide +kernel
theorem dX12_shift_184 : decode cX12_shift 184 = .ok (.iload_n 2, 1) := by decide +kernel
theorem dX12_shift_185 : decode cX12_shift 185 = .ok (.iadd, 1) := by decide +kernel
theorem dX12_shift_186 : decode cX12_shift 186 = .ok (.iload 7, 2) := by decide +kernel
theorem dX12_shift_188 : decode cX12_shift 188 = .ok (.iadd, 1) := by decide +kernel
theorem dX12_shift_189 : decode cX12_shift 189 = .ok (.laload, 1) := by decide +kernel
theorem dX12_shift_190 : decode cX12_shift 190 = .ok (.lastore, 1) := by decide +kernel
theorem dX12_shift_191 : decode cX12_shift 191 = .ok (.iinc 6 1, 3) := by decide +kernel
theorem dX12_shift_194 : decode cX12_shift 194 = .ok (.goto (-59), 3) := by decide +kernel
theorem dX12_shift_197 : decode cX12_shift 197 = .ok (.iload 5, 2) := by decide +kernel
theorem dX12_shift_199 : decode cX12_shift 199 = .ok (.ireturn, 1) := by decide +kernel
theorem dJ9_abs_067f4_0 : decode cJ9_abs_067f4 0 = .ok (.lload_n 0, 1) := by decide +kernel
theorem dJ9_abs_067f4_1 : decode cJ9_abs_067f4 1 = .ok (.lconst 0, 1) := by decide +kernel
theorem dJ9_abs_067f4_2 : decode cJ9_abs_067f4 2 = .ok (.lcmp, 1) := by decide +kernel
theorem dJ9_abs_067f4_3 : decode cJ9_abs_067f4 3 = .ok (.ifCond .ge 8, 3) := by decide +kernel
theorem dJ9_abs_067f4_6 : decode cJ9_abs_067f4 6 = .ok (.lload_n 0, 1) := by decide +kernel
theorem dJ9_abs_067f4_7 : decode cJ9_abs_067f4 7 = .ok (.lneg, 1) := by decide +kernel
theorem dJ9_abs_067f4_8 : decode cJ9_abs_067f4 8 = .ok (.goto 4, 3) := by decide +kernel
theorem dJ9_abs_067f4_11 : decode cJ9_abs_067f4 11 = .ok (.lload_n 0, 1) := by decide +kernel
theorem dJ9_abs_067f4_12 : decode cJ9_abs_067f4 12 = .ok (.lreturn, 1) := by decide +kernel
theorem dJ9_max_7cf53_0 : decode cJ9_max_7cf53 0 = .ok (.iload_n 0, 1) := by decide +kernel
theorem dJ9_max_7cf53_1 : decode cJ9_max_7cf53 1 = .ok (.iload_n 1, 1) := by decide +kernel
theorem dJ9_max_7cf53_2 : decode cJ9_max_7cf53 2 = .ok (.if_icmp .lt 7, 3) := by decide +kernel
theorem dJ9_max_7cf53_5 : decode cJ9_max_7cf53 5 = .ok (.iload_n 0, 1) := by decide +kernel
theorem dJ9_max_7cf53_6 : decode cJ9_max_7cf53 6 = .ok (.goto 4, 3) := by decide +kernel
theorem dJ9_max_7cf53_9 : decode cJ9_max_7cf53 9 = .ok (.iload_n 1, 1) := by decide +kernel
theorem dJ9_max_7cf53_10 : decode cJ9_max_7cf53 10 = .ok (.ireturn, 1) := by decide +kernel
theorem dJ9_min_7cf53_0 : decode cJ9_min_7cf53 0 = .ok (.iload_n 0, 1) := by decide +kernel
theorem dJ9_min_7cf53_1 : decode cJ9_min_7cf53 1 = .ok (.iload_n 1, 1) := by decide +kernel
theorem dJ9_min_7cf53_2 : decode cJ9_min_7cf53 2 = .ok (.if_icmp .gt 7, 3) := by decide +kernel
theorem dJ9_min_7cf53_5 : decode cJ9_min_7cf53 5 = .ok (.iload_n 0, 1) := by decide +kernel
theorem dJ9_min_7cf53_6 : decode cJ9_min_7cf53 6 = .ok (.goto 4, 3) := by decide +kernel
theorem dJ9_min_7cf53_9 : decode cJ9_min_7cf53 9 = .ok (.iload_n 1, 1) := by decide +kernel
theorem dJ9_min_7cf53_10 : decode cJ9_min_7cf53 10 = .ok (.ireturn, 1) := by decide +kernel
theorem dJ9_min_f86c9_0 : decode cJ9_min_f86c9 0 = .ok (.lload_n 0, 1) := by decide +kernel
theorem dJ9_min_f86c9_1 : decode cJ9_min_f86c9 1 = .ok (.lload_n 2, 1) := by decide +kernel
theorem dJ9_min_f86c9_2 : decode cJ9_min_f86c9 2 = .ok (.lcmp, 1) := by decide +kernel
theorem dJ9_min_f86c9_3 : decode cJ9_min_f86c9 3 = .ok (.ifCond .gt 7, 3) := by decide +kernel
theorem dJ9_min_f86c9_6 : decode cJ9_min_f86c9 6 = .ok (.lload_n 0, 1) := by decide +kernel
theorem dJ9_min_f86c9_7 : decode cJ9_min_f86c9 7 = .ok (.goto 4, 3) := by decide +kernel
theorem dJ9_min_f86c9_10 : decode cJ9_min_f86c9 10 = .ok (.lload_n 2, 1) := by decide +kernel
theorem dJ9_min_f86c9_11 : decode cJ9_min_f86c9 11 = .ok (.lreturn, 1) := by decide +kernel
theorem dJ7_fill_d0a16_0 : decode cJ7_fill_d0a16 0 = .ok (.iconst 0, 1) := by decide +kernel
theorem dJ7_fill_d0a16_1 : decode cJ7_fill_d0a16 1 = .ok (.istore_n 3, 1) := by decide +kernel
theorem dJ7_fill_d0a16_2 : decode cJ7_fill_d0a16 2 = .ok (.aload_n 0, 1) := by decide +kernel
theorem dJ7_fill_d0a16_3 : decode cJ7_fill_d0a16 3 = .ok (.arraylength, 1) := by decide +kernel
theorem dJ7_fill_d0a16_4 : decode cJ7_fill_d0a16 4 = .ok (.istore 4, 2) := by decide +kernel
theorem dJ7_fill_d0a16_6 : decode cJ7_fill_d0a16 6 = .ok (.iload_n 3, 1) := by decide +kernel
theorem dJ7_fill_d0a16_7 : decode cJ7_fill_d0a16 7 = .ok (.iload 4, 2) := by decide +kernel
theorem dJ7_fill_d0a16_9 : decode cJ7_fill_d0a16 9 = .ok (.if_icmp .ge 13, 3) := by decide +kernel
theorem dJ7_fill_d0a16_12 : decode cJ7_fill_d0a16 12 = .ok (.aload_n 0, 1) := by decide +kernel
theorem dJ7_fill_d0a16_13 : decode cJ7_fill_d0a16 13 = .ok (.iload_n 3, 1) := by decide +kernel
theorem dJ7_fill_d0a16_14 : decode cJ7_fill_d0a16 14 = .ok (.lload_n 1, 1) := by decide +kernel
theorem dJ7_fill_d0a16_15 : decode cJ7_fill_d0a16 15 = .ok (.lastore, 1) := by decide +kernel
theorem dJ7_fill_d0a16_16 : decode cJ7_fill_d0a16 16 = .ok (.iinc 3 1, 3) := by decide +kernel
theorem dJ7_fill_d0a16_19 : decode cJ7_fill_d0a16 19 = .ok (.goto (-13), 3) := by decide +kernel
theorem dJ7_fill_d0a16_22 : decode cJ7_fill_d0a16 22 = .ok (.return_, 1) := by decide +kernel
theorem dL_law_0 : decode cL_law 0 = .ok (.new 7, 3) := by decide +kernel
theorem dL_law_3 : decode cL_law 3 = .ok (.dup, 1) := by decide +kernel
theorem dL_law_4 : decode cL_law 4 = .ok (.invokespecial 9, 3) := by decide +kernel
theorem dL_law_7 : decode cL_law 7 = .ok (.astore_n 1, 1) := by decide +kernel
theorem dL_law_8 : decode cL_law 8 = .ok (.new 10, 3) := by decide +kernel
theorem dL_law_11 : decode cL_law 11 = .ok (.dup, 1) := by decide +kernel
theorem dL_law_12 : decode cL_law 12 = .ok (.invokespecial 12, 3) := by decide +kernel
theorem dL_law_15 : decode cL_law 15 = .ok (.astore_n 2, 1) := by decide +kernel
theorem dL_law_16 : decode cL_law 16 = .ok (.iconst 0, 1) := by decide +kernel
theorem dL_law_17 : decode cL_law 17 = .ok (.istore_n 3, 1) := by decide +kernel
theorem dL_law_18 : decode cL_law 18 = .ok (.iload_n 3, 1) := by decide +kernel
theorem dL_law_19 : decode cL_law 19 = .ok (.aload_n 0, 1) := by decide +kernel
theorem dL_law_20 : decode cL_law 20 = .ok (.arraylength, 1) := by decide +kernel
theorem dL_law_21 : decode cL_law 21 = .ok (.bipush 6, 2) := by decide +kernel
theorem dL_law_23 : decode cL_law 23 = .ok (.isub, 1) := by decide +kernel
theorem dL_law_24 : decode cL_law 24 = .ok (.if_icmp .gt 1143, 3) := by decide +kernel
theorem dL_law_27 : decode cL_law 27 = .ok (.aload_n 0, 1) := by decide +kernel
theorem dL_law_28 : decode cL_law 28 = .ok (.iload_n 3, 1) := by decide +kernel
theorem dL_law_29 : decode cL_law 29 = .ok (.iaload, 1) := by decide +kernel
theorem dL_law_30 : decode cL_law 30 = .ok (.bipush 31, 2) := by decide +kernel
theorem dL_law_32 : decode cL_law 32 = .ok (.iand, 1) := by decide +kernel
theorem dL_law_33 : decode cL_law 33 = .ok (.tableswitch 1128 0 30 #[139, 172, 225, 258, 281, 304, 317, 350, 383, 417, 441, 464, 487, 510, 543, 587, 630, 663, 697, 721, 754, 777, 810, 823, 866, 879, 892, 915, 958, 1031, 1065], 139) := by decide +kernel
theorem dL_law_172 : decode cL_law 172 = .ok (.aload_n 1, 1) := by decide +kernel
theorem dL_law_173 : decode cL_law 173 = .ok (.aload_n 0, 1) := by decide +kernel
theorem dL_law_174 : decode cL_law 174 = .ok (.iload_n 3, 1) := by decide +kernel
theorem dL_law_175 : decode cL_law 175 = .ok (.iconst 1, 1) := by decide +kernel
theorem dL_law_176 : decode cL_law 176 = .ok (.iadd, 1) := by decide +kernel
theorem dL_law_177 : decode cL_law 177 = .ok (.iaload, 1) := by decide +kernel
theorem dL_law_178 : decode cL_law 178 = .ok (.aload_n 0, 1) := by decide +kernel
theorem dL_law_179 : decode cL_law 179 = .ok (.iload_n 3, 1) := by decide +kernel
theorem dL_law_180 : decode cL_law 180 = .ok (.iconst 2, 1) := by decide +kernel
theorem dL_law_181 : decode cL_law 181 = .ok (.iadd, 1) := by decide +kernel
theorem dL_law_182 : decode cL_law 182 = .ok (.iaload, 1) := by decide +kernel
theorem dL_law_183 : decode cL_law 183 = .ok (.invokevirtual 13, 3) := by decide +kernel
theorem dL_law_186 : decode cL_law 186 = .ok (.aload_n 2, 1) := by decide +kernel
theorem dL_law_187 : decode cL_law 187 = .ok (.aload_n 0, 1) := by decide +kernel
theorem dL_law_188 : decode cL_law 188 = .ok (.iload_n 3, 1) := by decide +kernel
theorem dL_law_189 : decode cL_law 189 = .ok (.iconst 1, 1) := by decide +kernel
theorem dL_law_190 : decode cL_law 190 = .ok (.iadd, 1) := by decide +kernel
theorem dL_law_191 : decode cL_law 191 = .ok (.iaload, 1) := by decide +kernel
theorem dL_law_192 : decode cL_law 192 = .ok (.aload_n 0, 1) := by decide +kernel
theorem dL_law_193 : decode cL_law 193 = .ok (.iload_n 3, 1) := by decide +kernel
theorem dL_law_194 : decode cL_law 194 = .ok (.iconst 2, 1) := by decide +kernel
theorem dL_law_195 : decode cL_law 195 = .ok (.iadd, 1) := by decide +kernel
theorem dL_law_196 : decode cL_law 196 = .ok (.iaload, 1) := by decide +kernel
theorem dL_law_197 : decode cL_law 197 = .ok (.invokevirtual 17, 3) := by decide +kernel
theorem dL_law_200 : decode cL_law 200 = .ok (.if_icmp .eq 961, 3) := by decide +kernel
theorem dL_law_203 : decode cL_law 203 = .ok (.iconst 0, 1) := by decide +kernel
theorem dL_law_204 : decode cL_law 204 = .ok (.ireturn, 1) := by decide +kernel
theorem dL_law_205 : decode cL_law 205 = .ok (.aload_n 1, 1) := by decide +kernel
theorem dL_law_206 : decode cL_law 206 = .ok (.aload_n 0, 1) := by decide +kernel
theorem dL_law_207 : decode cL_law 207 = .ok (.iload_n 3, 1) := by decide +kernel
theorem dL_law_208 : decode cL_law 208 = .ok (.iconst 1, 1) := by decide +kernel
theorem dL_law_209 : decode cL_law 209 = .ok (.iadd, 1) := by decide +kernel
theorem dL_law_210 : decode cL_law 210 = .ok (.iaload, 1) := by decide +kernel
theorem dL_law_211 : decode cL_law 211 = .ok (.aload_n 0, 1) := by decide +kernel
theorem dL_law_212 : decode cL_law 212 = .ok (.iload_n 3, 1) := by decide +kernel
theorem dL_law_213 : decode cL_law 213 = .ok (.iconst 2, 1) := by decide +kernel
theorem dL_law_214 : decode cL_law 214 = .ok (.iadd, 1) := by decide +kernel
theorem dL_law_215 : decode cL_law 215 = .ok (.iaload, 1) := by decide +kernel
theorem dL_law_216 : decode cL_law 216 = .ok (.aload_n 0, 1) := by decide +kernel
theorem dL_law_217 : decode cL_law 217 = .ok (.iload_n 3, 1) := by decide +kernel
theorem dL_law_218 : decode cL_law 218 = .ok (.iconst 3, 1) := by decide +kernel
theorem dL_law_219 : decode cL_law 219 = .ok (.iadd, 1) := by decide +kernel
theorem dL_law_220 : decode cL_law 220 = .ok (.iaload, 1) := by decide +kernel
theorem dL_law_221 : decode cL_law 221 = .ok (.aload_n 0, 1) := by decide +kernel
theorem dL_law_222 : decode cL_law 222 = .ok (.iload_n 3, 1) := by decide +kernel
theorem dL_law_223 : decode cL_law 223 = .ok (.iconst 4, 1) := by decide +kernel
theorem dL_law_224 : decode cL_law 224 = .ok (.iadd, 1) := by decide +kernel
theorem dL_law_225 : decode cL_law 225 = .ok (.iaload, 1) := by decide +kernel
theorem dL_law_226 : decode cL_law 226 = .ok (.invokevirtual 18, 3) := by decide +kernel
theorem dL_law_229 : decode cL_law 229 = .ok (.aload_n 2, 1) := by decide +kernel
theorem dL_law_230 : decode cL_law 230 = .ok (.aload_n 0, 1) := by decide +kernel
theorem dL_law_231 : decode cL_law 231 = .ok (.iload_n 3, 1) := by decide +kernel
theorem dL_law_232 : decode cL_law 232 = .ok (.iconst 1, 1) := by decide +kernel
theorem dL_law_233 : decode cL_law 233 = .ok (.iadd, 1) := by decide +kernel
theorem dL_law_234 : decode cL_law 234 = .ok (.iaload, 1) := by decide +kernel
theorem dL_law_235 : decode cL_law 235 = .ok (.aload_n 0, 1) := by decide +kernel
theorem dL_law_236 : decode cL_law 236 = .ok (.iload_n 3, 1) := by decide +kernel
theorem dL_law_237 : decode cL_law 237 = .ok (.iconst 2, 1) := by decide +kernel
theorem dL_law_238 : decode cL_law 238 = .ok (.iadd, 1) := by decide +kernel
theorem dL_law_239 : decode cL_law 239 = .ok (.iaload, 1) := by decide +kernel
theorem dL_law_240 : decode cL_law 240 = .ok (.aload_n 0, 1) := by decide +kernel
theorem dL_law_241 : decode cL_law 241 = .ok (.iload_n 3, 1) := by decide +kernel
theorem dL_law_242 : decode cL_law 242 = .ok (.iconst 3, 1) := by decide +kernel
theorem dL_law_243 : decode cL_law 243 = .ok (.iadd, 1) := by decide +kernel
theorem dL_law_244 : decode cL_law 244 = .ok (.iaload, 1) := by decide +kernel
theorem dL_law_245 : decode cL_law 245 = .ok (.aload_n 0, 1) := by decide +kernel
theorem dL_law_246 : decode cL_law 246 = .ok (.iload_n 3, 1) := by decide +kernel
theorem dL_law_247 : decode cL_law 247 = .ok (.iconst 4, 1) := by decide +kernel
theorem dL_law_248 : decode cL_law 248 = .ok (.iadd, 1) := by decide +kernel
theorem dL_law_249 : decode cL_law 249 = .ok (.iaload, 1) := by decide +kernel
theorem dL_law_250 : decode cL_law 250 = .ok (.invokevirtual 22, 3) := by decide +kernel
theorem dL_law_253 : decode cL_law 253 = .ok (.if_icmp .eq 908, 3) := by decide +kernel
theorem dL_law_256 : decode cL_law 256 = .ok (.iconst 0, 1) := by decide +kernel
theorem dL_law_257 : decode cL_law 257 = .ok (.ireturn, 1) := by decide +kernel
theorem dL_law_258 : decode cL_law 258 = .ok (.aload_n 1, 1) := by decide +kernel
theorem dL_law_259 : decode cL_law 259 = .ok (.aload_n 0, 1) := by decide +kernel
theorem dL_law_260 : decode cL_law 260 = .ok (.iload_n 3, 1) := by decide +kernel
theorem dL_law_261 : decode cL_law 261 = .ok (.iconst 1, 1) := by decide +kernel
theorem dL_law_262 : decode cL_law 262 = .ok (.iadd, 1) := by decide +kernel
theorem dL_law_263 : decode cL_law 263 = .ok (.iaload, 1) := by decide +kernel
theorem dL_law_264 : decode cL_law 264 = .ok (.aload_n 0, 1) := by decide +kernel
theorem dL_law_265 : decode cL_law 265 = .ok (.iload_n 3, 1) := by decide +kernel
theorem dL_law_266 : decode cL_law 266 = .ok (.iconst 2, 1) := by decide +kernel
theorem dL_law_267 : decode cL_law 267 = .ok (.iadd, 1) := by decide +kernel
theorem dL_law_268 : decode cL_law 268 = .ok (.iaload, 1) := by decide +kernel
theorem dL_law_269 : decode cL_law 269 = .ok (.invokevirtual 23, 3) := by decide +kernel
theorem dL_law_272 : decode cL_law 272 = .ok (.aload_n 2, 1) := by decide +kernel
theorem dL_law_273 : decode cL_law 273 = .ok (.aload_n 0, 1) := by decide +kernel
theorem dL_law_274 : decode cL_law 274 = .ok (.iload_n 3, 1) := by decide +kernel
theorem dL_law_275 : decode cL_law 275 = .ok (.iconst 1, 1) := by decide +kernel
theorem dL_law_276 : decode cL_law 276 = .ok (.iadd, 1) := by decide +kernel
theorem dL_law_277 : decode cL_law 277 = .ok (.iaload, 1) := by decide +kernel
theorem dL_law_278 : decode cL_law 278 = .ok (.aload_n 0, 1) := by decide +kernel
theorem dL_law_279 : decode cL_law 279 = .ok (.iload_n 3, 1) := by decide +kernel
theorem dL_law_280 : decode cL_law 280 = .ok (.iconst 2, 1) := by decide +kernel
theorem dL_law_281 : decode cL_law 281 = .ok (.iadd, 1) := by decide +kernel
theorem dL_law_282 : decode cL_law 282 = .ok (.iaload, 1) := by decide +kernel
theorem dL_law_283 : decode cL_law 283 = .ok (.invokevirtual 26, 3) := by decide +kernel
theorem dL_law_286 : decode cL_law 286 = .ok (.if_icmp .eq 875, 3) := by decide +kernel
theorem dL_law_289 : decode cL_law 289 = .ok (.iconst 0, 1) := by decide +kernel
theorem dL_law_290 : decode cL_law 290 = .ok (.ireturn, 1) := by decide +kernel
theorem dL_law_291 : decode cL_law 291 = .ok (.aload_n 1, 1) := by decide +kernel
theorem dL_law_292 : decode cL_law 292 = .ok (.aload_n 0, 1) := by decide +kernel
theorem dL_law_293 : decode cL_law 293 = .ok (.iload_n 3, 1) := by decide +kernel
theorem dL_law_294 : decode cL_law 294 = .ok (.iconst 1, 1) := by decide +kernel
theorem dL_law_295 : decode cL_law 295 = .ok (.iadd, 1) := by decide +kernel
theorem dL_law_296 : decode cL_law 296 = .ok (.iaload, 1) := by decide +kernel
theorem dL_law_297 : decode cL_law 297 = .ok (.invokevirtual 27, 3) := by decide +kernel
theorem dL_law_300 : decode cL_law 300 = .ok (.aload_n 2, 1) := by decide +kernel
theorem dL_law_301 : decode cL_law 301 = .ok (.aload_n 0, 1) := by decide +kernel
theorem dL_law_302 : decode cL_law 302 = .ok (.iload_n 3, 1) := by decide +kernel
theorem dL_law_303 : decode cL_law 303 = .ok (.iconst 1, 1) := by decide +kernel
theorem dL_law_304 : decode cL_law 304 = .ok (.iadd, 1) := by decide +kernel
theorem dL_law_305 : decode cL_law 305 = .ok (.iaload, 1) := by decide +kernel
theorem dL_law_306 : decode cL_law 306 = .ok (.invokevirtual 31, 3) := by decide +kernel
theorem dL_law_309 : decode cL_law 309 = .ok (.if_icmp .eq 852, 3) := by decide +kernel
theorem dL_law_312 : decode cL_law 312 = .ok (.iconst 0, 1) := by decide +kernel
theorem dL_law_313 : decode cL_law 313 = .ok (.ireturn, 1) := by decide +kernel
theorem dL_law_314 : decode cL_law 314 = .ok (.aload_n 1, 1) := by decide +kernel
theorem dL_law_315 : decode cL_law 315 = .ok (.aload_n 0, 1) := by decide +kernel
theorem dL_law_316 : decode cL_law 316 = .ok (.iload_n 3, 1) := by decide +kernel
theorem dL_law_317 : decode cL_law 317 = .ok (.iconst 1, 1) := by decide +kernel
theorem dL_law_318 : decode cL_law 318 = .ok (.iadd, 1) := by decide +kernel
theorem dL_law_319 : decode cL_law 319 = .ok (.iaload, 1) := by decide +kernel
theorem dL_law_320 : decode cL_law 320 = .ok (.invokevirtual 32, 3) := by decide +kernel
theorem dL_law_323 : decode cL_law 323 = .ok (.aload_n 2, 1) := by decide +kernel
theorem dL_law_324 : decode cL_law 324 = .ok (.aload_n 0, 1) := by decide +kernel
theorem dL_law_325 : decode cL_law 325 = .ok (.iload_n 3, 1) := by decide +kernel
theorem dL_law_326 : decode cL_law 326 = .ok (.iconst 1, 1) := by decide +kernel
theorem dL_law_327 : decode cL_law 327 = .ok (.iadd, 1) := by decide +kernel
theorem dL_law_328 : decode cL_law 328 = .ok (.iaload, 1) := by decide +kernel
theorem dL_law_329 : decode cL_law 329 = .ok (.invokevirtual 35, 3) := by decide +kernel
theorem dL_law_332 : decode cL_law 332 = .ok (.if_icmp .eq 829, 3) := by decide +kernel
theorem dL_law_335 : decode cL_law 335 = .ok (.iconst 0, 1) := by decide +kernel
theorem dL_law_336 : decode cL_law 336 = .ok (.ireturn, 1) := by decide +kernel
theorem dL_law_337 : decode cL_law 337 = .ok (.aload_n 1, 1) := by decide +kernel
theorem dL_law_338 : decode cL_law 338 = .ok (.invokevirtual 36, 3) := by decide +kernel
theorem dL_law_341 : decode cL_law 341 = .ok (.aload_n 2, 1) := by decide +kernel
theorem dL_law_342 : decode cL_law 342 = .ok (.invokevirtual 40, 3) := by decide +kernel
theorem dL_law_345 : decode cL_law 345 = .ok (.if_icmp .eq 816, 3) := by decide +kernel
theorem dL_law_348 : decode cL_law 348 = .ok (.iconst 0, 1) := by decide +kernel
theorem dL_law_349 : decode cL_law 349 = .ok (.ireturn, 1) := by decide +kernel
theorem dL_law_350 : decode cL_law 350 = .ok (.aload_n 1, 1) := by decide +kernel
theorem dL_law_351 : decode cL_law 351 = .ok (.aload_n 0, 1) := by decide +kernel
theorem dL_law_352 : decode cL_law 352 = .ok (.iload_n 3, 1) := by decide +kernel
theorem dL_law_353 : decode cL_law 353 = .ok (.iconst 1, 1) := by decide +kernel
theorem dL_law_354 : decode cL_law 354 = .ok (.iadd, 1) := by decide +kernel
theorem dL_law_355 : decode cL_law 355 = .ok (.iaload, 1) := by decide +kernel
theorem dL_law_356 : decode cL_law 356 = .ok (.aload_n 0, 1) := by decide +kernel
theorem dL_law_357 : decode cL_law 357 = .ok (.iload_n 3, 1) := by decide +kernel
theorem dL_law_358 : decode cL_law 358 = .ok (.iconst 2, 1) := by decide +kernel
theorem dL_law_359 : decode cL_law 359 = .ok (.iadd, 1) := by decide +kernel
theorem dL_law_360 : decode cL_law 360 = .ok (.iaload, 1) := by decide +kernel
theorem dL_law_361 : decode cL_law 361 = .ok (.invokevirtual 41, 3) := by decide +kernel
theorem dL_law_364 : decode cL_law 364 = .ok (.aload_n 2, 1) := by decide +kernel
theorem dL_law_365 : decode cL_law 365 = .ok (.aload_n 0, 1) := by decide +kernel
theorem dL_law_366 : decode cL_law 366 = .ok (.iload_n 3, 1) := by decide +kernel
theorem dL_law_367 : decode cL_law 367 = .ok (.iconst 1, 1) := by decide +kernel
theorem dL_law_368 : decode cL_law 368 = .ok (.iadd, 1) := by decide +kernel
theorem dL_law_369 : decode cL_law 369 = .ok (.iaload, 1) := by decide +kernel
theorem dL_law_370 : decode cL_law 370 = .ok (.aload_n 0, 1) := by decide +kernel
theorem dL_law_371 : decode cL_law 371 = .ok (.iload_n 3, 1) := by decide +kernel
theorem dL_law_372 : decode cL_law 372 = .ok (.iconst 2, 1) := by decide +kernel
theorem dL_law_373 : decode cL_law 373 = .ok (.iadd, 1) := by decide +kernel
theorem dL_law_374 : decode cL_law 374 = .ok (.iaload, 1) := by decide +kernel
theorem dL_law_375 : decode cL_law 375 = .ok (.invokevirtual 44, 3) := by decide +kernel
theorem dL_law_378 : decode cL_law 378 = .ok (.if_icmp .eq 783, 3) := by decide +kernel
theorem dL_law_381 : decode cL_law 381 = .ok (.iconst 0, 1) := by decide +kernel
theorem dL_law_382 : decode cL_law 382 = .ok (.ireturn, 1) := by decide +kernel
theorem dL_law_383 : decode cL_law 383 = .ok (.aload_n 1, 1) := by decide +kernel
theorem dL_law_384 : decode cL_law 384 = .ok (.aload_n 0, 1) := by decide +kernel
theorem dL_law_385 : decode cL_law 385 = .ok (.iload_n 3, 1) := by decide +kernel
theorem dL_law_386 : decode cL_law 386 = .ok (.iconst 1, 1) := by decide +kernel
theorem dL_law_387 : decode cL_law 387 = .ok (.iadd, 1) := by decide +kernel
theorem dL_law_388 : decode cL_law 388 = .ok (.iaload, 1) := by decide +kernel
theorem dL_law_389 : decode cL_law 389 = .ok (.aload_n 0, 1) := by decide +kernel
theorem dL_law_390 : decode cL_law 390 = .ok (.iload_n 3, 1) := by decide +kernel
theorem dL_law_391 : decode cL_law 391 = .ok (.iconst 2, 1) := by decide +kernel
theorem dL_law_392 : decode cL_law 392 = .ok (.iadd, 1) := by decide +kernel
theorem dL_law_393 : decode cL_law 393 = .ok (.iaload, 1) := by decide +kernel
theorem dL_law_394 : decode cL_law 394 = .ok (.invokevirtual 45, 3) := by decide +kernel
theorem dL_law_397 : decode cL_law 397 = .ok (.aload_n 2, 1) := by decide +kernel
theorem dL_law_398 : decode cL_law 398 = .ok (.aload_n 0, 1) := by decide +kernel
theorem dL_law_399 : decode cL_law 399 = .ok (.iload_n 3, 1) := by decide +kernel
theorem dL_law_400 : decode cL_law 400 = .ok (.iconst 1, 1) := by decide +kernel
theorem dL_law_401 : decode cL_law 401 = .ok (.iadd, 1) := by decide +kernel
theorem dL_law_402 : decode cL_law 402 = .ok (.iaload, 1) := by decide +kernel
theorem dL_law_403 : decode cL_law 403 = .ok (.aload_n 0, 1) := by decide +kernel
theorem dL_law_404 : decode cL_law 404 = .ok (.iload_n 3, 1) := by decide +kernel
theorem dL_law_405 : decode cL_law 405 = .ok (.iconst 2, 1) := by decide +kernel
theorem dL_law_406 : decode cL_law 406 = .ok (.iadd, 1) := by decide +kernel
theorem dL_law_407 : decode cL_law 407 = .ok (.iaload, 1) := by decide +kernel
theorem dL_law_408 : decode cL_law 408 = .ok (.invokevirtual 48, 3) := by decide +kernel
theorem dL_law_411 : decode cL_law 411 = .ok (.if_icmp .eq 750, 3) := by decide +kernel
theorem dL_law_414 : decode cL_law 414 = .ok (.iconst 0, 1) := by decide +kernel
theorem dL_law_415 : decode cL_law 415 = .ok (.ireturn, 1) := by decide +kernel
theorem dL_law_416 : decode cL_law 416 = .ok (.aload_n 1, 1) := by decide +kernel
theorem dL_law_417 : decode cL_law 417 = .ok (.aload_n 0, 1) := by decide +kernel
theorem dL_law_418 : decode cL_law 418 = .ok (.iload_n 3, 1) := by decide +kernel
theorem dL_law_419 : decode cL_law 419 = .ok (.iconst 1, 1) := by decide +kernel
theorem dL_law_420 : decode cL_law 420 = .ok (.iadd, 1) := by decide +kernel
theorem dL_law_421 : decode cL_law 421 = .ok (.iaload, 1) := by decide +kernel
theorem dL_law_422 : decode cL_law 422 = .ok (.aload_n 0, 1) := by decide +kernel
theorem dL_law_423 : decode cL_law 423 = .ok (.iload_n 3, 1) := by decide +kernel
theorem dL_law_424 : decode cL_law 424 = .ok (.iconst 2, 1) := by decide +kernel
theorem dL_law_425 : decode cL_law 425 = .ok (.iadd, 1) := by decide +kernel
theorem dL_law_426 : decode cL_law 426 = .ok (.iaload, 1) := by decide +kernel
theorem dL_law_427 : decode cL_law 427 = .ok (.invokevirtual 49, 3) := by decide +kernel
theorem dL_law_430 : decode cL_law 430 = .ok (.aload_n 2, 1) := by decide +kernel
theorem dL_law_431 : decode cL_law 431 = .ok (.aload_n 0, 1) := by decide +kernel
theorem dL_law_432 : decode cL_law 432 = .ok (.iload_n 3, 1) := by decide +kernel
theorem dL_law_433 : decode cL_law 433 = .ok (.iconst 1, 1) := by decide +kernel
theorem dL_law_434 : decode cL_law 434 = .ok (.iadd, 1) := by decide +kernel
theorem dL_law_435 : decode cL_law 435 = .ok (.iaload, 1) := by decide +kernel
theorem dL_law_436 : decode cL_law 436 = .ok (.aload_n 0, 1) := by decide +kernel
theorem dL_law_437 : decode cL_law 437 = .ok (.iload_n 3, 1) := by decide +kernel
theorem dL_law_438 : decode cL_law 438 = .ok (.iconst 2, 1) := by decide +kernel
theorem dL_law_439 : decode cL_law 439 = .ok (.iadd, 1) := by decide +kernel
theorem dL_law_440 : decode cL_law 440 = .ok (.iaload, 1) := by decide +kernel
theorem dL_law_441 : decode cL_law 441 = .ok (.invokevirtual 53, 3) := by decide +kernel
theorem dL_law_444 : decode cL_law 444 = .ok (.lcmp, 1) := by decide +kernel
theorem dL_law_445 : decode cL_law 445 = .ok (.ifCond .eq 716, 3) := by decide +kernel
theorem dL_law_448 : decode cL_law 448 = .ok (.iconst 0, 1) := by decide +kernel
theorem dL_law_449 : decode cL_law 449 = .ok (.ireturn, 1) := by decide +kernel
theorem dL_law_450 : decode cL_law 450 = .ok (.aload_n 1, 1) := by decide +kernel
theorem dL_law_451 : decode cL_law 451 = .ok (.aload_n 0, 1) := by decide +kernel
theorem dL_law_452 : decode cL_law 452 = .ok (.iload_n 3, 1) := by decide +kernel
theorem dL_law_453 : decode cL_law 453 = .ok (.iconst 1, 1) := by decide +kernel
theorem dL_law_454 : decode cL_law 454 = .ok (.iadd, 1) := by decide +kernel
theorem dL_law_455 : decode cL_law 455 = .ok (.iaload, 1) := by decide +kernel
theorem dL_law_456 : decode cL_law 456 = .ok (.invokevirtual 54, 3) := by decide +kernel
theorem dL_law_459 : decode cL_law 459 = .ok (.aload_n 2, 1) := by decide +kernel
theorem dL_law_460 : decode cL_law 460 = .ok (.aload_n 0, 1) := by decide +kernel
theorem dL_law_461 : decode cL_law 461 = .ok (.iload_n 3, 1) := by decide +kernel
theorem dL_law_462 : decode cL_law 462 = .ok (.iconst 1, 1) := by decide +kernel
theorem dL_law_463 : decode cL_law 463 = .ok (.iadd, 1) := by decide +kernel
theorem dL_law_464 : decode cL_law 464 = .ok (.iaload, 1) := by decide +kernel
theorem dL_law_465 : decode cL_law 465 = .ok (.invokevirtual 58, 3) := by decide +kernel
theorem dL_law_468 : decode cL_law 468 = .ok (.lcmp, 1) := by decide +kernel
theorem dL_law_469 : decode cL_law 469 = .ok (.ifCond .eq 692, 3) := by decide +kernel
theorem dL_law_472 : decode cL_law 472 = .ok (.iconst 0, 1) := by decide +kernel
theorem dL_law_473 : decode cL_law 473 = .ok (.ireturn, 1) := by decide +kernel
theorem dL_law_474 : decode cL_law 474 = .ok (.aload_n 1, 1) := by decide +kernel
theorem dL_law_475 : decode cL_law 475 = .ok (.aload_n 0, 1) := by decide +kernel
theorem dL_law_476 : decode cL_law 476 = .ok (.iload_n 3, 1) := by decide +kernel
theorem dL_law_477 : decode cL_law 477 = .ok (.iconst 1, 1) := by decide +kernel
theorem dL_law_478 : decode cL_law 478 = .ok (.iadd, 1) := by decide +kernel
theorem dL_law_479 : decode cL_law 479 = .ok (.iaload, 1) := by decide +kernel
theorem dL_law_480 : decode cL_law 480 = .ok (.invokevirtual 59, 3) := by decide +kernel
theorem dL_law_483 : decode cL_law 483 = .ok (.aload_n 2, 1) := by decide +kernel
theorem dL_law_484 : decode cL_law 484 = .ok (.aload_n 0, 1) := by decide +kernel
theorem dL_law_485 : decode cL_law 485 = .ok (.iload_n 3, 1) := by decide +kernel
theorem dL_law_486 : decode cL_law 486 = .ok (.iconst 1, 1) := by decide +kernel
theorem dL_law_487 : decode cL_law 487 = .ok (.iadd, 1) := by decide +kernel
theorem dL_law_488 : decode cL_law 488 = .ok (.iaload, 1) := by decide +kernel
theorem dL_law_489 : decode cL_law 489 = .ok (.invokevirtual 62, 3) := by decide +kernel
theorem dL_law_492 : decode cL_law 492 = .ok (.if_icmp .eq 669, 3) := by decide +kernel
theorem dL_law_495 : decode cL_law 495 = .ok (.iconst 0, 1) := by decide +kernel
theorem dL_law_496 : decode cL_law 496 = .ok (.ireturn, 1) := by decide +kernel
theorem dL_law_497 : decode cL_law 497 = .ok (.aload_n 1, 1) := by decide +kernel
theorem dL_law_498 : decode cL_law 498 = .ok (.aload_n 0, 1) := by decide +kernel
theorem dL_law_499 : decode cL_law 499 = .ok (.iload_n 3, 1) := by decide +kernel
theorem dL_law_500 : decode cL_law 500 = .ok (.iconst 1, 1) := by decide +kernel
theorem dL_law_501 : decode cL_law 501 = .ok (.iadd, 1) := by decide +kernel
theorem dL_law_502 : decode cL_law 502 = .ok (.iaload, 1) := by decide +kernel
theorem dL_law_503 : decode cL_law 503 = .ok (.invokevirtual 63, 3) := by decide +kernel
theorem dL_law_506 : decode cL_law 506 = .ok (.aload_n 2, 1) := by decide +kernel
theorem dL_law_507 : decode cL_law 507 = .ok (.aload_n 0, 1) := by decide +kernel
theorem dL_law_508 : decode cL_law 508 = .ok (.iload_n 3, 1) := by decide +kernel
theorem dL_law_509 : decode cL_law 509 = .ok (.iconst 1, 1) := by decide +kernel
theorem dL_law_510 : decode cL_law 510 = .ok (.iadd, 1) := by decide +kernel
theorem dL_law_511 : decode cL_law 511 = .ok (.iaload, 1) := by decide +kernel
theorem dL_law_512 : decode cL_law 512 = .ok (.invokevirtual 66, 3) := by decide +kernel
theorem dL_law_515 : decode cL_law 515 = .ok (.if_icmp .eq 646, 3) := by decide +kernel
theorem dL_law_518 : decode cL_law 518 = .ok (.iconst 0, 1) := by decide +kernel
theorem dL_law_519 : decode cL_law 519 = .ok (.ireturn, 1) := by decide +kernel
theorem dL_law_520 : decode cL_law 520 = .ok (.aload_n 1, 1) := by decide +kernel
theorem dL_law_521 : decode cL_law 521 = .ok (.aload_n 0, 1) := by decide +kernel
theorem dL_law_522 : decode cL_law 522 = .ok (.iload_n 3, 1) := by decide +kernel
theorem dL_law_523 : decode cL_law 523 = .ok (.iconst 1, 1) := by decide +kernel
theorem dL_law_524 : decode cL_law 524 = .ok (.iadd, 1) := by decide +kernel
theorem dL_law_525 : decode cL_law 525 = .ok (.iaload, 1) := by decide +kernel
theorem dL_law_526 : decode cL_law 526 = .ok (.invokevirtual 67, 3) := by decide +kernel
theorem dL_law_529 : decode cL_law 529 = .ok (.aload_n 2, 1) := by decide +kernel
theorem dL_law_530 : decode cL_law 530 = .ok (.aload_n 0, 1) := by decide +kernel
theorem dL_law_531 : decode cL_law 531 = .ok (.iload_n 3, 1) := by decide +kernel
theorem dL_law_532 : decode cL_law 532 = .ok (.iconst 1, 1) := by decide +kernel
theorem dL_law_533 : decode cL_law 533 = .ok (.iadd, 1) := by decide +kernel
theorem dL_law_534 : decode cL_law 534 = .ok (.iaload, 1) := by decide +kernel
theorem dL_law_535 : decode cL_law 535 = .ok (.invokevirtual 70, 3) := by decide +kernel
theorem dL_law_538 : decode cL_law 538 = .ok (.if_icmp .eq 623, 3) := by decide +kernel
theorem dL_law_541 : decode cL_law 541 = .ok (.iconst 0, 1) := by decide +kernel
theorem dL_law_542 : decode cL_law 542 = .ok (.ireturn, 1) := by decide +kernel
theorem dL_law_543 : decode cL_law 543 = .ok (.aload_n 1, 1) := by decide +kernel
theorem dL_law_544 : decode cL_law 544 = .ok (.aload_n 0, 1) := by decide +kernel
theorem dL_law_545 : decode cL_law 545 = .ok (.iload_n 3, 1) := by decide +kernel
theorem dL_law_546 : decode cL_law 546 = .ok (.iconst 1, 1) := by decide +kernel
theorem dL_law_547 : decode cL_law 547 = .ok (.iadd, 1) := by decide +kernel
theorem dL_law_548 : decode cL_law 548 = .ok (.iaload, 1) := by decide +kernel
theorem dL_law_549 : decode cL_law 549 = .ok (.aload_n 0, 1) := by decide +kernel
theorem dL_law_550 : decode cL_law 550 = .ok (.iload_n 3, 1) := by decide +kernel
theorem dL_law_551 : decode cL_law 551 = .ok (.iconst 2, 1) := by decide +kernel
theorem dL_law_552 : decode cL_law 552 = .ok (.iadd, 1) := by decide +kernel
theorem dL_law_553 : decode cL_law 553 = .ok (.iaload, 1) := by decide +kernel
theorem dL_law_554 : decode cL_law 554 = .ok (.invokevirtual 71, 3) := by decide +kernel
theorem dL_law_557 : decode cL_law 557 = .ok (.aload_n 2, 1) := by decide +kernel
theorem dL_law_558 : decode cL_law 558 = .ok (.aload_n 0, 1) := by decide +kernel
theorem dL_law_559 : decode cL_law 559 = .ok (.iload_n 3, 1) := by decide +kernel
theorem dL_law_560 : decode cL_law 560 = .ok (.iconst 1, 1) := by decide +kernel
theorem dL_law_561 : decode cL_law 561 = .ok (.iadd, 1) := by decide +kernel
theorem dL_law_562 : decode cL_law 562 = .ok (.iaload, 1) := by decide +kernel
theorem dL_law_563 : decode cL_law 563 = .ok (.aload_n 0, 1) := by decide +kernel
theorem dL_law_564 : decode cL_law 564 = .ok (.iload_n 3, 1) := by decide +kernel
theorem dL_law_565 : decode cL_law 565 = .ok (.iconst 2, 1) := by decide +kernel
theorem dL_law_566 : decode cL_law 566 = .ok (.iadd, 1) := by decide +kernel
theorem dL_law_567 : decode cL_law 567 = .ok (.iaload, 1) := by decide +kernel
theorem dL_law_568 : decode cL_law 568 = .ok (.invokevirtual 74, 3) := by decide +kernel
theorem dL_law_571 : decode cL_law 571 = .ok (.if_icmp .eq 590, 3) := by decide +kernel
theorem dL_law_574 : decode cL_law 574 = .ok (.iconst 0, 1) := by decide +kernel
theorem dL_law_575 : decode cL_law 575 = .ok (.ireturn, 1) := by decide +kernel
theorem dL_law_576 : decode cL_law 576 = .ok (.aload_n 1, 1) := by decide +kernel
theorem dL_law_577 : decode cL_law 577 = .ok (.aload_n 0, 1) := by decide +kernel
theorem dL_law_578 : decode cL_law 578 = .ok (.iload_n 3, 1) := by decide +kernel
theorem dL_law_579 : decode cL_law 579 = .ok (.iconst 1, 1) := by decide +kernel
theorem dL_law_580 : decode cL_law 580 = .ok (.iadd, 1) := by decide +kernel
theorem dL_law_581 : decode cL_law 581 = .ok (.iaload, 1) := by decide +kernel
theorem dL_law_582 : decode cL_law 582 = .ok (.aload_n 0, 1) := by decide +kernel
theorem dL_law_583 : decode cL_law 583 = .ok (.iload_n 3, 1) := by decide +kernel
theorem dL_law_584 : decode cL_law 584 = .ok (.iconst 2, 1) := by decide +kernel
theorem dL_law_585 : decode cL_law 585 = .ok (.iadd, 1) := by decide +kernel
theorem dL_law_586 : decode cL_law 586 = .ok (.iaload, 1) := by decide +kernel
theorem dL_law_587 : decode cL_law 587 = .ok (.aload_n 0, 1) := by decide +kernel
theorem dL_law_588 : decode cL_law 588 = .ok (.iload_n 3, 1) := by decide +kernel
theorem dL_law_589 : decode cL_law 589 = .ok (.iconst 3, 1) := by decide +kernel
theorem dL_law_590 : decode cL_law 590 = .ok (.iadd, 1) := by decide +kernel
theorem dL_law_591 : decode cL_law 591 = .ok (.iaload, 1) := by decide +kernel
theorem dL_law_592 : decode cL_law 592 = .ok (.invokevirtual 75, 3) := by decide +kernel
theorem dL_law_595 : decode cL_law 595 = .ok (.aload_n 2, 1) := by decide +kernel
theorem dL_law_596 : decode cL_law 596 = .ok (.aload_n 0, 1) := by decide +kernel
theorem dL_law_597 : decode cL_law 597 = .ok (.iload_n 3, 1) := by decide +kernel
theorem dL_law_598 : decode cL_law 598 = .ok (.iconst 1, 1) := by decide +kernel
theorem dL_law_599 : decode cL_law 599 = .ok (.iadd, 1) := by decide +kernel
theorem dL_law_600 : decode cL_law 600 = .ok (.iaload, 1) := by decide +kernel
theorem dL_law_601 : decode cL_law 601 = .ok (.aload_n 0, 1) := by decide +kernel
theorem dL_law_602 : decode cL_law 602 = .ok (.iload_n 3, 1) := by decide +kernel
theorem dL_law_603 : decode cL_law 603 = .ok (.iconst 2, 1) := by decide +kernel
theorem dL_law_604 : decode cL_law 604 = .ok (.iadd, 1) := by decide +kernel
theorem dL_law_605 : decode cL_law 605 = .ok (.iaload, 1) := by decide +kernel
theorem dL_law_606 : decode cL_law 606 = .ok (.aload_n 0, 1) := by decide +kernel
theorem dL_law_607 : decode cL_law 607 = .ok (.iload_n 3, 1) := by decide +kernel
theorem dL_law_608 : decode cL_law 608 = .ok (.iconst 3, 1) := by decide +kernel
theorem dL_law_609 : decode cL_law 609 = .ok (.iadd, 1) := by decide +kernel
theorem dL_law_610 : decode cL_law 610 = .ok (.iaload, 1) := by decide +kernel
theorem dL_law_611 : decode cL_law 611 = .ok (.invokevirtual 79, 3) := by decide +kernel
theorem dL_law_614 : decode cL_law 614 = .ok (.lcmp, 1) := by decide +kernel
theorem dL_law_615 : decode cL_law 615 = .ok (.ifCond .eq 546, 3) := by decide +kernel
theorem dL_law_618 : decode cL_law 618 = .ok (.iconst 0, 1) := by decide +kernel
theorem dL_law_619 : decode cL_law 619 = .ok (.ireturn, 1) := by decide +kernel
theorem dL_law_620 : decode cL_law 620 = .ok (.aload_n 1, 1) := by decide +kernel
theorem dL_law_621 : decode cL_law 621 = .ok (.aload_n 0, 1) := by decide +kernel
theorem dL_law_622 : decode cL_law 622 = .ok (.iload_n 3, 1) := by decide +kernel
theorem dL_law_623 : decode cL_law 623 = .ok (.iconst 1, 1) := by decide +kernel
theorem dL_law_624 : decode cL_law 624 = .ok (.iadd, 1) := by decide +kernel
theorem dL_law_625 : decode cL_law 625 = .ok (.iaload, 1) := by decide +kernel
theorem dL_law_626 : decode cL_law 626 = .ok (.aload_n 0, 1) := by decide +kernel
theorem dL_law_627 : decode cL_law 627 = .ok (.iload_n 3, 1) := by decide +kernel
theorem dL_law_628 : decode cL_law 628 = .ok (.iconst 2, 1) := by decide +kernel
theorem dL_law_629 : decode cL_law 629 = .ok (.iadd, 1) := by decide +kernel
theorem dL_law_630 : decode cL_law 630 = .ok (.iaload, 1) := by decide +kernel
theorem dL_law_631 : decode cL_law 631 = .ok (.aload_n 0, 1) := by decide +kernel
theorem dL_law_632 : decode cL_law 632 = .ok (.iload_n 3, 1) := by decide +kernel
theorem dL_law_633 : decode cL_law 633 = .ok (.iconst 3, 1) := by decide +kernel
theorem dL_law_634 : decode cL_law 634 = .ok (.iadd, 1) := by decide +kernel
theorem dL_law_635 : decode cL_law 635 = .ok (.iaload, 1) := by decide +kernel
theorem dL_law_636 : decode cL_law 636 = .ok (.invokevirtual 80, 3) := by decide +kernel
theorem dL_law_639 : decode cL_law 639 = .ok (.aload_n 2, 1) := by decide +kernel
theorem dL_law_640 : decode cL_law 640 = .ok (.aload_n 0, 1) := by decide +kernel
theorem dL_law_641 : decode cL_law 641 = .ok (.iload_n 3, 1) := by decide +kernel
theorem dL_law_642 : decode cL_law 642 = .ok (.iconst 1, 1) := by decide +kernel
theorem dL_law_643 : decode cL_law 643 = .ok (.iadd, 1) := by decide +kernel
theorem dL_law_644 : decode cL_law 644 = .ok (.iaload, 1) := by decide +kernel
theorem dL_law_645 : decode cL_law 645 = .ok (.aload_n 0, 1) := by decide +kernel
theorem dL_law_646 : decode cL_law 646 = .ok (.iload_n 3, 1) := by decide +kernel
theorem dL_law_647 : decode cL_law 647 = .ok (.iconst 2, 1) := by decide +kernel
theorem dL_law_648 : decode cL_law 648 = .ok (.iadd, 1) := by decide +kernel
theorem dL_law_649 : decode cL_law 649 = .ok (.iaload, 1) := by decide +kernel
theorem dL_law_650 : decode cL_law 650 = .ok (.aload_n 0, 1) := by decide +kernel
theorem dL_law_651 : decode cL_law 651 = .ok (.iload_n 3, 1) := by decide +kernel
theorem dL_law_652 : decode cL_law 652 = .ok (.iconst 3, 1) := by decide +kernel
theorem dL_law_653 : decode cL_law 653 = .ok (.iadd, 1) := by decide +kernel
theorem dL_law_654 : decode cL_law 654 = .ok (.iaload, 1) := by decide +kernel
theorem dL_law_655 : decode cL_law 655 = .ok (.invokevirtual 84, 3) := by decide +kernel
theorem dL_law_658 : decode cL_law 658 = .ok (.if_icmp .eq 503, 3) := by decide +kernel
theorem dL_law_661 : decode cL_law 661 = .ok (.iconst 0, 1) := by decide +kernel
theorem dL_law_662 : decode cL_law 662 = .ok (.ireturn, 1) := by decide +kernel
theorem dL_law_663 : decode cL_law 663 = .ok (.aload_n 1, 1) := by decide +kernel
theorem dL_law_664 : decode cL_law 664 = .ok (.aload_n 0, 1) := by decide +kernel
theorem dL_law_665 : decode cL_law 665 = .ok (.iload_n 3, 1) := by decide +kernel
theorem dL_law_666 : decode cL_law 666 = .ok (.iconst 1, 1) := by decide +kernel
theorem dL_law_667 : decode cL_law 667 = .ok (.iadd, 1) := by decide +kernel
theorem dL_law_668 : decode cL_law 668 = .ok (.iaload, 1) := by decide +kernel
theorem dL_law_669 : decode cL_law 669 = .ok (.aload_n 0, 1) := by decide +kernel
theorem dL_law_670 : decode cL_law 670 = .ok (.iload_n 3, 1) := by decide +kernel
theorem dL_law_671 : decode cL_law 671 = .ok (.iconst 2, 1) := by decide +kernel
theorem dL_law_672 : decode cL_law 672 = .ok (.iadd, 1) := by decide +kernel
theorem dL_law_673 : decode cL_law 673 = .ok (.iaload, 1) := by decide +kernel
theorem dL_law_674 : decode cL_law 674 = .ok (.invokevirtual 85, 3) := by decide +kernel
theorem dL_law_677 : decode cL_law 677 = .ok (.aload_n 2, 1) := by decide +kernel
theorem dL_law_678 : decode cL_law 678 = .ok (.aload_n 0, 1) := by decide +kernel
theorem dL_law_679 : decode cL_law 679 = .ok (.iload_n 3, 1) := by decide +kernel
theorem dL_law_680 : decode cL_law 680 = .ok (.iconst 1, 1) := by decide +kernel
theorem dL_law_681 : decode cL_law 681 = .ok (.iadd, 1) := by decide +kernel
theorem dL_law_682 : decode cL_law 682 = .ok (.iaload, 1) := by decide +kernel
theorem dL_law_683 : decode cL_law 683 = .ok (.aload_n 0, 1) := by decide +kernel
theorem dL_law_684 : decode cL_law 684 = .ok (.iload_n 3, 1) := by decide +kernel
theorem dL_law_685 : decode cL_law 685 = .ok (.iconst 2, 1) := by decide +kernel
theorem dL_law_686 : decode cL_law 686 = .ok (.iadd, 1) := by decide +kernel
theorem dL_law_687 : decode cL_law 687 = .ok (.iaload, 1) := by decide +kernel
theorem dL_law_688 : decode cL_law 688 = .ok (.invokevirtual 88, 3) := by decide +kernel
theorem dL_law_691 : decode cL_law 691 = .ok (.if_icmp .eq 470, 3) := by decide +kernel
theorem dL_law_694 : decode cL_law 694 = .ok (.iconst 0, 1) := by decide +kernel
theorem dL_law_695 : decode cL_law 695 = .ok (.ireturn, 1) := by decide +kernel
theorem dL_law_696 : decode cL_law 696 = .ok (.aload_n 1, 1) := by decide +kernel
theorem dL_law_697 : decode cL_law 697 = .ok (.aload_n 0, 1) := by decide +kernel
theorem dL_law_698 : decode cL_law 698 = .ok (.iload_n 3, 1) := by decide +kernel
theorem dL_law_699 : decode cL_law 699 = .ok (.iconst 1, 1) := by decide +kernel
theorem dL_law_700 : decode cL_law 700 = .ok (.iadd, 1) := by decide +kernel
theorem dL_law_701 : decode cL_law 701 = .ok (.iaload, 1) := by decide +kernel
theorem dL_law_702 : decode cL_law 702 = .ok (.aload_n 0, 1) := by decide +kernel
theorem dL_law_703 : decode cL_law 703 = .ok (.iload_n 3, 1) := by decide +kernel
theorem dL_law_704 : decode cL_law 704 = .ok (.iconst 2, 1) := by decide +kernel
theorem dL_law_705 : decode cL_law 705 = .ok (.iadd, 1) := by decide +kernel
theorem dL_law_706 : decode cL_law 706 = .ok (.iaload, 1) := by decide +kernel
theorem dL_law_707 : decode cL_law 707 = .ok (.invokevirtual 89, 3) := by decide +kernel
theorem dL_law_710 : decode cL_law 710 = .ok (.aload_n 2, 1) := by decide +kernel
theorem dL_law_711 : decode cL_law 711 = .ok (.aload_n 0, 1) := by decide +kernel
theorem dL_law_712 : decode cL_law 712 = .ok (.iload_n 3, 1) := by decide +kernel
theorem dL_law_713 : decode cL_law 713 = .ok (.iconst 1, 1) := by decide +kernel
theorem dL_law_714 : decode cL_law 714 = .ok (.iadd, 1) := by decide +kernel
theorem dL_law_715 : decode cL_law 715 = .ok (.iaload, 1) := by decide +kernel
theorem dL_law_716 : decode cL_law 716 = .ok (.aload_n 0, 1) := by decide +kernel
theorem dL_law_717 : decode cL_law 717 = .ok (.iload_n 3, 1) := by decide +kernel
theorem dL_law_718 : decode cL_law 718 = .ok (.iconst 2, 1) := by decide +kernel
theorem dL_law_719 : decode cL_law 719 = .ok (.iadd, 1) := by decide +kernel
theorem dL_law_720 : decode cL_law 720 = .ok (.iaload, 1) := by decide +kernel
theorem dL_law_721 : decode cL_law 721 = .ok (.invokevirtual 92, 3) := by decide +kernel
theorem dL_law_724 : decode cL_law 724 = .ok (.lcmp, 1) := by decide +kernel
theorem dL_law_725 : decode cL_law 725 = .ok (.ifCond .eq 436, 3) := by decide +kernel
theorem dL_law_728 : decode cL_law 728 = .ok (.iconst 0, 1) := by decide +kernel
theorem dL_law_729 : decode cL_law 729 = .ok (.ireturn, 1) := by decide +kernel
theorem dL_law_730 : decode cL_law 730 = .ok (.aload_n 1, 1) := by decide +kernel
theorem dL_law_731 : decode cL_law 731 = .ok (.aload_n 0, 1) := by decide +kernel
theorem dL_law_732 : decode cL_law 732 = .ok (.iload_n 3, 1) := by decide +kernel
theorem dL_law_733 : decode cL_law 733 = .ok (.iconst 1, 1) := by decide +kernel
theorem dL_law_734 : decode cL_law 734 = .ok (.iadd, 1) := by decide +kernel
theorem dL_law_735 : decode cL_law 735 = .ok (.iaload, 1) := by decide +kernel
theorem dL_law_736 : decode cL_law 736 = .ok (.invokevirtual 93, 3) := by decide +kernel
theorem dL_law_739 : decode cL_law 739 = .ok (.aload_n 2, 1) := by decide +kernel
theorem dL_law_740 : decode cL_law 740 = .ok (.aload_n 0, 1) := by decide +kernel
theorem dL_law_741 : decode cL_law 741 = .ok (.iload_n 3, 1) := by decide +kernel
theorem dL_law_742 : decode cL_law 742 = .ok (.iconst 1, 1) := by decide +kernel
theorem dL_law_743 : decode cL_law 743 = .ok (.iadd, 1) := by decide +kernel
theorem dL_law_744 : decode cL_law 744 = .ok (.iaload, 1) := by decide +kernel
theorem dL_law_745 : decode cL_law 745 = .ok (.invokevirtual 96, 3) := by decide +kernel
theorem dL_law_748 : decode cL_law 748 = .ok (.lcmp, 1) := by decide +kernel
theorem dL_law_749 : decode cL_law 749 = .ok (.ifCond .eq 412, 3) := by decide +kernel
theorem dL_law_752 : decode cL_law 752 = .ok (.iconst 0, 1) := by decide +kernel
theorem dL_law_753 : decode cL_law 753 = .ok (.ireturn, 1) := by decide +kernel
theorem dL_law_754 : decode cL_law 754 = .ok (.aload_n 1, 1) := by decide +kernel
theorem dL_law_755 : decode cL_law 755 = .ok (.aload_n 0, 1) := by decide +kernel
theorem dL_law_756 : decode cL_law 756 = .ok (.iload_n 3, 1) := by decide +kernel
theorem dL_law_757 : decode cL_law 757 = .ok (.iconst 1, 1) := by decide +kernel
theorem dL_law_758 : decode cL_law 758 = .ok (.iadd, 1) := by decide +kernel
theorem dL_law_759 : decode cL_law 759 = .ok (.iaload, 1) := by decide +kernel
theorem dL_law_760 : decode cL_law 760 = .ok (.aload_n 0, 1) := by decide +kernel
theorem dL_law_761 : decode cL_law 761 = .ok (.iload_n 3, 1) := by decide +kernel
theorem dL_law_762 : decode cL_law 762 = .ok (.iconst 2, 1) := by decide +kernel
theorem dL_law_763 : decode cL_law 763 = .ok (.iadd, 1) := by decide +kernel
theorem dL_law_764 : decode cL_law 764 = .ok (.iaload, 1) := by decide +kernel
theorem dL_law_765 : decode cL_law 765 = .ok (.invokevirtual 97, 3) := by decide +kernel
theorem dL_law_768 : decode cL_law 768 = .ok (.aload_n 2, 1) := by decide +kernel
theorem dL_law_769 : decode cL_law 769 = .ok (.aload_n 0, 1) := by decide +kernel
theorem dL_law_770 : decode cL_law 770 = .ok (.iload_n 3, 1) := by decide +kernel
theorem dL_law_771 : decode cL_law 771 = .ok (.iconst 1, 1) := by decide +kernel
theorem dL_law_772 : decode cL_law 772 = .ok (.iadd, 1) := by decide +kernel
theorem dL_law_773 : decode cL_law 773 = .ok (.iaload, 1) := by decide +kernel
theorem dL_law_774 : decode cL_law 774 = .ok (.aload_n 0, 1) := by decide +kernel
theorem dL_law_775 : decode cL_law 775 = .ok (.iload_n 3, 1) := by decide +kernel
theorem dL_law_776 : decode cL_law 776 = .ok (.iconst 2, 1) := by decide +kernel
theorem dL_law_777 : decode cL_law 777 = .ok (.iadd, 1) := by decide +kernel
theorem dL_law_778 : decode cL_law 778 = .ok (.iaload, 1) := by decide +kernel
theorem dL_law_779 : decode cL_law 779 = .ok (.invokevirtual 100, 3) := by decide +kernel
theorem dL_law_782 : decode cL_law 782 = .ok (.if_icmp .eq 379, 3) := by decide +kernel
theorem dL_law_785 : decode cL_law 785 = .ok (.iconst 0, 1) := by decide +kernel
theorem dL_law_786 : decode cL_law 786 = .ok (.ireturn, 1) := by decide +kernel
theorem dL_law_787 : decode cL_law 787 = .ok (.aload_n 1, 1) := by decide +kernel
theorem dL_law_788 : decode cL_law 788 = .ok (.aload_n 0, 1) := by decide +kernel
theorem dL_law_789 : decode cL_law 789 = .ok (.iload_n 3, 1) := by decide +kernel
theorem dL_law_790 : decode cL_law 790 = .ok (.iconst 1, 1) := by decide +kernel
theorem dL_law_791 : decode cL_law 791 = .ok (.iadd, 1) := by decide +kernel
theorem dL_law_792 : decode cL_law 792 = .ok (.iaload, 1) := by decide +kernel
theorem dL_law_793 : decode cL_law 793 = .ok (.invokevirtual 101, 3) := by decide +kernel
theorem dL_law_796 : decode cL_law 796 = .ok (.aload_n 2, 1) := by decide +kernel
theorem dL_law_797 : decode cL_law 797 = .ok (.aload_n 0, 1) := by decide +kernel
theorem dL_law_798 : decode cL_law 798 = .ok (.iload_n 3, 1) := by decide +kernel
theorem dL_law_799 : decode cL_law 799 = .ok (.iconst 1, 1) := by decide +kernel
theorem dL_law_800 : decode cL_law 800 = .ok (.iadd, 1) := by decide +kernel
theorem dL_law_801 : decode cL_law 801 = .ok (.iaload, 1) := by decide +kernel
theorem dL_law_802 : decode cL_law 802 = .ok (.invokevirtual 104, 3) := by decide +kernel
theorem dL_law_805 : decode cL_law 805 = .ok (.if_icmp .eq 356, 3) := by decide +kernel
theorem dL_law_808 : decode cL_law 808 = .ok (.iconst 0, 1) := by decide +kernel
theorem dL_law_809 : decode cL_law 809 = .ok (.ireturn, 1) := by decide +kernel
theorem dL_law_810 : decode cL_law 810 = .ok (.aload_n 1, 1) := by decide +kernel
theorem dL_law_811 : decode cL_law 811 = .ok (.aload_n 0, 1) := by decide +kernel
theorem dL_law_812 : decode cL_law 812 = .ok (.iload_n 3, 1) := by decide +kernel
theorem dL_law_813 : decode cL_law 813 = .ok (.iconst 1, 1) := by decide +kernel
theorem dL_law_814 : decode cL_law 814 = .ok (.iadd, 1) := by decide +kernel
theorem dL_law_815 : decode cL_law 815 = .ok (.iaload, 1) := by decide +kernel
theorem dL_law_816 : decode cL_law 816 = .ok (.aload_n 0, 1) := by decide +kernel
theorem dL_law_817 : decode cL_law 817 = .ok (.iload_n 3, 1) := by decide +kernel
theorem dL_law_818 : decode cL_law 818 = .ok (.iconst 2, 1) := by decide +kernel
theorem dL_law_819 : decode cL_law 819 = .ok (.iadd, 1) := by decide +kernel
theorem dL_law_820 : decode cL_law 820 = .ok (.iaload, 1) := by decide +kernel
theorem dL_law_821 : decode cL_law 821 = .ok (.invokevirtual 105, 3) := by decide +kernel
theorem dL_law_824 : decode cL_law 824 = .ok (.aload_n 2, 1) := by decide +kernel
theorem dL_law_825 : decode cL_law 825 = .ok (.aload_n 0, 1) := by decide +kernel
theorem dL_law_826 : decode cL_law 826 = .ok (.iload_n 3, 1) := by decide +kernel
theorem dL_law_827 : decode cL_law 827 = .ok (.iconst 1, 1) := by decide +kernel
theorem dL_law_828 : decode cL_law 828 = .ok (.iadd, 1) := by decide +kernel
theorem dL_law_829 : decode cL_law 829 = .ok (.iaload, 1) := by decide +kernel
theorem dL_law_830 : decode cL_law 830 = .ok (.aload_n 0, 1) := by decide +kernel
theorem dL_law_831 : decode cL_law 831 = .ok (.iload_n 3, 1) := by decide +kernel
theorem dL_law_832 : decode cL_law 832 = .ok (.iconst 2, 1) := by decide +kernel
theorem dL_law_833 : decode cL_law 833 = .ok (.iadd, 1) := by decide +kernel
theorem dL_law_834 : decode cL_law 834 = .ok (.iaload, 1) := by decide +kernel
theorem dL_law_835 : decode cL_law 835 = .ok (.invokevirtual 108, 3) := by decide +kernel
theorem dL_law_838 : decode cL_law 838 = .ok (.if_icmp .eq 323, 3) := by decide +kernel
theorem dL_law_841 : decode cL_law 841 = .ok (.iconst 0, 1) := by decide +kernel
theorem dL_law_842 : decode cL_law 842 = .ok (.ireturn, 1) := by decide +kernel
theorem dL_law_843 : decode cL_law 843 = .ok (.aload_n 1, 1) := by decide +kernel
theorem dL_law_844 : decode cL_law 844 = .ok (.invokevirtual 109, 3) := by decide +kernel
theorem dL_law_847 : decode cL_law 847 = .ok (.aload_n 2, 1) := by decide +kernel
theorem dL_law_848 : decode cL_law 848 = .ok (.invokevirtual 112, 3) := by decide +kernel
theorem dL_law_851 : decode cL_law 851 = .ok (.if_icmp .eq 310, 3) := by decide +kernel
theorem dL_law_854 : decode cL_law 854 = .ok (.iconst 0, 1) := by decide +kernel
theorem dL_law_855 : decode cL_law 855 = .ok (.ireturn, 1) := by decide +kernel
theorem dL_law_856 : decode cL_law 856 = .ok (.aload_n 1, 1) := by decide +kernel
theorem dL_law_857 : decode cL_law 857 = .ok (.aload_n 0, 1) := by decide +kernel
theorem dL_law_858 : decode cL_law 858 = .ok (.iload_n 3, 1) := by decide +kernel
theorem dL_law_859 : decode cL_law 859 = .ok (.iconst 1, 1) := by decide +kernel
theorem dL_law_860 : decode cL_law 860 = .ok (.iadd, 1) := by decide +kernel
theorem dL_law_861 : decode cL_law 861 = .ok (.iaload, 1) := by decide +kernel
theorem dL_law_862 : decode cL_law 862 = .ok (.aload_n 0, 1) := by decide +kernel
theorem dL_law_863 : decode cL_law 863 = .ok (.iload_n 3, 1) := by decide +kernel
theorem dL_law_864 : decode cL_law 864 = .ok (.iconst 2, 1) := by decide +kernel
theorem dL_law_865 : decode cL_law 865 = .ok (.iadd, 1) := by decide +kernel
theorem dL_law_866 : decode cL_law 866 = .ok (.iaload, 1) := by decide +kernel
theorem dL_law_867 : decode cL_law 867 = .ok (.aload_n 0, 1) := by decide +kernel
theorem dL_law_868 : decode cL_law 868 = .ok (.iload_n 3, 1) := by decide +kernel
theorem dL_law_869 : decode cL_law 869 = .ok (.iconst 3, 1) := by decide +kernel
theorem dL_law_870 : decode cL_law 870 = .ok (.iadd, 1) := by decide +kernel
theorem dL_law_871 : decode cL_law 871 = .ok (.iaload, 1) := by decide +kernel
theorem dL_law_872 : decode cL_law 872 = .ok (.invokevirtual 113, 3) := by decide +kernel
theorem dL_law_875 : decode cL_law 875 = .ok (.aload_n 2, 1) := by decide +kernel
theorem dL_law_876 : decode cL_law 876 = .ok (.aload_n 0, 1) := by decide +kernel
theorem dL_law_877 : decode cL_law 877 = .ok (.iload_n 3, 1) := by decide +kernel
theorem dL_law_878 : decode cL_law 878 = .ok (.iconst 1, 1) := by decide +kernel
theorem dL_law_879 : decode cL_law 879 = .ok (.iadd, 1) := by decide +kernel
theorem dL_law_880 : decode cL_law 880 = .ok (.iaload, 1) := by decide +kernel
theorem dL_law_881 : decode cL_law 881 = .ok (.aload_n 0, 1) := by decide +kernel
theorem dL_law_882 : decode cL_law 882 = .ok (.iload_n 3, 1) := by decide +kernel
theorem dL_law_883 : decode cL_law 883 = .ok (.iconst 2, 1) := by decide +kernel
theorem dL_law_884 : decode cL_law 884 = .ok (.iadd, 1) := by decide +kernel
theorem dL_law_885 : decode cL_law 885 = .ok (.iaload, 1) := by decide +kernel
theorem dL_law_886 : decode cL_law 886 = .ok (.aload_n 0, 1) := by decide +kernel
theorem dL_law_887 : decode cL_law 887 = .ok (.iload_n 3, 1) := by decide +kernel
theorem dL_law_888 : decode cL_law 888 = .ok (.iconst 3, 1) := by decide +kernel
theorem dL_law_889 : decode cL_law 889 = .ok (.iadd, 1) := by decide +kernel
theorem dL_law_890 : decode cL_law 890 = .ok (.iaload, 1) := by decide +kernel
theorem dL_law_891 : decode cL_law 891 = .ok (.invokevirtual 116, 3) := by decide +kernel
theorem dL_law_894 : decode cL_law 894 = .ok (.if_icmp .eq 267, 3) := by decide +kernel
theorem dL_law_897 : decode cL_law 897 = .ok (.iconst 0, 1) := by decide +kernel
theorem dL_law_898 : decode cL_law 898 = .ok (.ireturn, 1) := by decide +kernel
theorem dL_law_899 : decode cL_law 899 = .ok (.aload_n 1, 1) := by decide +kernel
theorem dL_law_900 : decode cL_law 900 = .ok (.invokevirtual 117, 3) := by decide +kernel
theorem dL_law_903 : decode cL_law 903 = .ok (.aload_n 2, 1) := by decide +kernel
theorem dL_law_904 : decode cL_law 904 = .ok (.invokevirtual 120, 3) := by decide +kernel
theorem dL_law_907 : decode cL_law 907 = .ok (.if_icmp .eq 254, 3) := by decide +kernel
theorem dL_law_910 : decode cL_law 910 = .ok (.iconst 0, 1) := by decide +kernel
theorem dL_law_911 : decode cL_law 911 = .ok (.ireturn, 1) := by decide +kernel
theorem dL_law_912 : decode cL_law 912 = .ok (.aload_n 1, 1) := by decide +kernel
theorem dL_law_913 : decode cL_law 913 = .ok (.invokevirtual 121, 3) := by decide +kernel
theorem dL_law_916 : decode cL_law 916 = .ok (.aload_n 2, 1) := by decide +kernel
theorem dL_law_917 : decode cL_law 917 = .ok (.invokevirtual 124, 3) := by decide +kernel
theorem dL_law_920 : decode cL_law 920 = .ok (.if_icmp .eq 241, 3) := by decide +kernel
theorem dL_law_923 : decode cL_law 923 = .ok (.iconst 0, 1) := by decide +kernel
theorem dL_law_924 : decode cL_law 924 = .ok (.ireturn, 1) := by decide +kernel
theorem dL_law_925 : decode cL_law 925 = .ok (.aload_n 1, 1) := by decide +kernel
theorem dL_law_926 : decode cL_law 926 = .ok (.aload_n 0, 1) := by decide +kernel
theorem dL_law_927 : decode cL_law 927 = .ok (.iload_n 3, 1) := by decide +kernel
theorem dL_law_928 : decode cL_law 928 = .ok (.iconst 1, 1) := by decide +kernel
theorem dL_law_929 : decode cL_law 929 = .ok (.iadd, 1) := by decide +kernel
theorem dL_law_930 : decode cL_law 930 = .ok (.iaload, 1) := by decide +kernel
theorem dL_law_931 : decode cL_law 931 = .ok (.invokevirtual 125, 3) := by decide +kernel
theorem dL_law_934 : decode cL_law 934 = .ok (.aload_n 2, 1) := by decide +kernel
theorem dL_law_935 : decode cL_law 935 = .ok (.aload_n 0, 1) := by decide +kernel
theorem dL_law_936 : decode cL_law 936 = .ok (.iload_n 3, 1) := by decide +kernel
theorem dL_law_937 : decode cL_law 937 = .ok (.iconst 1, 1) := by decide +kernel
theorem dL_law_938 : decode cL_law 938 = .ok (.iadd, 1) := by decide +kernel
theorem dL_law_939 : decode cL_law 939 = .ok (.iaload, 1) := by decide +kernel
theorem dL_law_940 : decode cL_law 940 = .ok (.invokevirtual 128, 3) := by decide +kernel
theorem dL_law_943 : decode cL_law 943 = .ok (.if_icmp .eq 218, 3) := by decide +kernel
theorem dL_law_946 : decode cL_law 946 = .ok (.iconst 0, 1) := by decide +kernel
theorem dL_law_947 : decode cL_law 947 = .ok (.ireturn, 1) := by decide +kernel
theorem dL_law_948 : decode cL_law 948 = .ok (.aload_n 1, 1) := by decide +kernel
theorem dL_law_949 : decode cL_law 949 = .ok (.aload_n 0, 1) := by decide +kernel
theorem dL_law_950 : decode cL_law 950 = .ok (.iload_n 3, 1) := by decide +kernel
theorem dL_law_951 : decode cL_law 951 = .ok (.iconst 1, 1) := by decide +kernel
theorem dL_law_952 : decode cL_law 952 = .ok (.iadd, 1) := by decide +kernel
theorem dL_law_953 : decode cL_law 953 = .ok (.iaload, 1) := by decide +kernel
theorem dL_law_954 : decode cL_law 954 = .ok (.aload_n 0, 1) := by decide +kernel
theorem dL_law_955 : decode cL_law 955 = .ok (.iload_n 3, 1) := by decide +kernel
theorem dL_law_956 : decode cL_law 956 = .ok (.iconst 2, 1) := by decide +kernel
theorem dL_law_957 : decode cL_law 957 = .ok (.iadd, 1) := by decide +kernel
theorem dL_law_958 : decode cL_law 958 = .ok (.iaload, 1) := by decide +kernel
theorem dL_law_959 : decode cL_law 959 = .ok (.aload_n 0, 1) := by decide +kernel
theorem dL_law_960 : decode cL_law 960 = .ok (.iload_n 3, 1) := by decide +kernel
theorem dL_law_961 : decode cL_law 961 = .ok (.iconst 3, 1) := by decide +kernel
theorem dL_law_962 : decode cL_law 962 = .ok (.iadd, 1) := by decide +kernel
theorem dL_law_963 : decode cL_law 963 = .ok (.iaload, 1) := by decide +kernel
theorem dL_law_964 : decode cL_law 964 = .ok (.invokevirtual 129, 3) := by decide +kernel
theorem dL_law_967 : decode cL_law 967 = .ok (.aload_n 2, 1) := by decide +kernel
theorem dL_law_968 : decode cL_law 968 = .ok (.aload_n 0, 1) := by decide +kernel
theorem dL_law_969 : decode cL_law 969 = .ok (.iload_n 3, 1) := by decide +kernel
theorem dL_law_970 : decode cL_law 970 = .ok (.iconst 1, 1) := by decide +kernel
theorem dL_law_971 : decode cL_law 971 = .ok (.iadd, 1) := by decide +kernel
theorem dL_law_972 : decode cL_law 972 = .ok (.iaload, 1) := by decide +kernel
theorem dL_law_973 : decode cL_law 973 = .ok (.aload_n 0, 1) := by decide +kernel
theorem dL_law_974 : decode cL_law 974 = .ok (.iload_n 3, 1) := by decide +kernel
theorem dL_law_975 : decode cL_law 975 = .ok (.iconst 2, 1) := by decide +kernel
theorem dL_law_976 : decode cL_law 976 = .ok (.iadd, 1) := by decide +kernel
theorem dL_law_977 : decode cL_law 977 = .ok (.iaload, 1) := by decide +kernel
theorem dL_law_978 : decode cL_law 978 = .ok (.aload_n 0, 1) := by decide +kernel
theorem dL_law_979 : decode cL_law 979 = .ok (.iload_n 3, 1) := by decide +kernel
theorem dL_law_980 : decode cL_law 980 = .ok (.iconst 3, 1) := by decide +kernel
theorem dL_law_981 : decode cL_law 981 = .ok (.iadd, 1) := by decide +kernel
theorem dL_law_982 : decode cL_law 982 = .ok (.iaload, 1) := by decide +kernel
theorem dL_law_983 : decode cL_law 983 = .ok (.invokevirtual 132, 3) := by decide +kernel
theorem dL_law_986 : decode cL_law 986 = .ok (.if_icmp .eq 175, 3) := by decide +kernel
theorem dL_law_989 : decode cL_law 989 = .ok (.iconst 0, 1) := by decide +kernel
theorem dL_law_990 : decode cL_law 990 = .ok (.ireturn, 1) := by decide +kernel
theorem dL_law_991 : decode cL_law 991 = .ok (.aload_n 1, 1) := by decide +kernel
theorem dL_law_992 : decode cL_law 992 = .ok (.aload_n 0, 1) := by decide +kernel
theorem dL_law_993 : decode cL_law 993 = .ok (.iload_n 3, 1) := by decide +kernel
theorem dL_law_994 : decode cL_law 994 = .ok (.iconst 1, 1) := by decide +kernel
theorem dL_law_995 : decode cL_law 995 = .ok (.iadd, 1) := by decide +kernel
theorem dL_law_996 : decode cL_law 996 = .ok (.iaload, 1) := by decide +kernel
theorem dL_law_997 : decode cL_law 997 = .ok (.aload_n 0, 1) := by decide +kernel
theorem dL_law_998 : decode cL_law 998 = .ok (.iload_n 3, 1) := by decide +kernel
theorem dL_law_999 : decode cL_law 999 = .ok (.iconst 2, 1) := by decide +kernel
theorem dL_law_1000 : decode cL_law 1000 = .ok (.iadd, 1) := by decide +kernel
theorem dL_law_1001 : decode cL_law 1001 = .ok (.iaload, 1) := by decide +kernel
theorem dL_law_1002 : decode cL_law 1002 = .ok (.aload_n 0, 1) := by decide +kernel
theorem dL_law_1003 : decode cL_law 1003 = .ok (.iload_n 3, 1) := by decide +kernel
theorem dL_law_1004 : decode cL_law 1004 = .ok (.iconst 3, 1) := by decide +kernel
theorem dL_law_1005 : decode cL_law 1005 = .ok (.iadd, 1) := by decide +kernel
theorem dL_law_1006 : decode cL_law 1006 = .ok (.iaload, 1) := by decide +kernel
theorem dL_law_1007 : decode cL_law 1007 = .ok (.i2l, 1) := by decide +kernel
theorem dL_law_1008 : decode cL_law 1008 = .ok (.bipush 32, 2) := by decide +kernel
theorem dL_law_1010 : decode cL_law 1010 = .ok (.lshl, 1) := by decide +kernel
theorem dL_law_1011 : decode cL_law 1011 = .ok (.aload_n 0, 1) := by decide +kernel
theorem dL_law_1012 : decode cL_law 1012 = .ok (.iload_n 3, 1) := by decide +kernel
theorem dL_law_1013 : decode cL_law 1013 = .ok (.iconst 4, 1) := by decide +kernel
theorem dL_law_1014 : decode cL_law 1014 = .ok (.iadd, 1) := by decide +kernel
theorem dL_law_1015 : decode cL_law 1015 = .ok (.iaload, 1) := by decide +kernel
theorem dL_law_1016 : decode cL_law 1016 = .ok (.i2l, 1) := by decide +kernel
theorem dL_law_1017 : decode cL_law 1017 = .ok (.ldc2_w 133, 3) := by decide +kernel
theorem dL_law_1020 : decode cL_law 1020 = .ok (.land, 1) := by decide +kernel
theorem dL_law_1021 : decode cL_law 1021 = .ok (.lor, 1) := by decide +kernel
theorem dL_law_1022 : decode cL_law 1022 = .ok (.invokevirtual 135, 3) := by decide +kernel
theorem dL_law_1025 : decode cL_law 1025 = .ok (.aload_n 2, 1) := by decide +kernel
theorem dL_law_1026 : decode cL_law 1026 = .ok (.aload_n 0, 1) := by decide +kernel
theorem dL_law_1027 : decode cL_law 1027 = .ok (.iload_n 3, 1) := by decide +kernel
theorem dL_law_1028 : decode cL_law 1028 = .ok (.iconst 1, 1) := by decide +kernel
theorem dL_law_1029 : decode cL_law 1029 = .ok (.iadd, 1) := by decide +kernel
theorem dL_law_1030 : decode cL_law 1030 = .ok (.iaload, 1) := by decide +kernel
theorem dL_law_1031 : decode cL_law 1031 = .ok (.aload_n 0, 1) := by decide +kernel
theorem dL_law_1032 : decode cL_law 1032 = .ok (.iload_n 3, 1) := by decide +kernel
theorem dL_law_1033 : decode cL_law 1033 = .ok (.iconst 2, 1) := by decide +kernel
theorem dL_law_1034 : decode cL_law 1034 = .ok (.iadd, 1) := by decide +kernel
theorem dL_law_1035 : decode cL_law 1035 = .ok (.iaload, 1) := by decide +kernel
theorem dL_law_1036 : decode cL_law 1036 = .ok (.aload_n 0, 1) := by decide +kernel
theorem dL_law_1037 : decode cL_law 1037 = .ok (.iload_n 3, 1) := by decide +kernel
theorem dL_law_1038 : decode cL_law 1038 = .ok (.iconst 3, 1) := by decide +kernel
theorem dL_law_1039 : decode cL_law 1039 = .ok (.iadd, 1) := by decide +kernel
theorem dL_law_1040 : decode cL_law 1040 = .ok (.iaload, 1) := by decide +kernel
theorem dL_law_1041 : decode cL_law 1041 = .ok (.i2l, 1) := by decide +kernel
theorem dL_law_1042 : decode cL_law 1042 = .ok (.bipush 32, 2) := by decide +kernel
theorem dL_law_1044 : decode cL_law 1044 = .ok (.lshl, 1) := by decide +kernel
theorem dL_law_1045 : decode cL_law 1045 = .ok (.aload_n 0, 1) := by decide +kernel
theorem dL_law_1046 : decode cL_law 1046 = .ok (.iload_n 3, 1) := by decide +kernel
theorem dL_law_1047 : decode cL_law 1047 = .ok (.iconst 4, 1) := by decide +kernel
theorem dL_law_1048 : decode cL_law 1048 = .ok (.iadd, 1) := by decide +kernel
theorem dL_law_1049 : decode cL_law 1049 = .ok (.iaload, 1) := by decide +kernel
theorem dL_law_1050 : decode cL_law 1050 = .ok (.i2l, 1) := by decide +kernel
theorem dL_law_1051 : decode cL_law 1051 = .ok (.ldc2_w 133, 3) := by decide +kernel
theorem dL_law_1054 : decode cL_law 1054 = .ok (.land, 1) := by decide +kernel
theorem dL_law_1055 : decode cL_law 1055 = .ok (.lor, 1) := by decide +kernel
theorem dL_law_1056 : decode cL_law 1056 = .ok (.invokevirtual 139, 3) := by decide +kernel
theorem dL_law_1059 : decode cL_law 1059 = .ok (.if_icmp .eq 102, 3) := by decide +kernel
theorem dL_law_1062 : decode cL_law 1062 = .ok (.iconst 0, 1) := by decide +kernel
theorem dL_law_1063 : decode cL_law 1063 = .ok (.ireturn, 1) := by decide +kernel
theorem dL_law_1064 : decode cL_law 1064 = .ok (.aload_n 1, 1) := by decide +kernel
theorem dL_law_1065 : decode cL_law 1065 = .ok (.aload_n 0, 1) := by decide +kernel
theorem dL_law_1066 : decode cL_law 1066 = .ok (.iload_n 3, 1) := by decide +kernel
theorem dL_law_1067 : decode cL_law 1067 = .ok (.iconst 1, 1) := by decide +kernel
theorem dL_law_1068 : decode cL_law 1068 = .ok (.iadd, 1) := by decide +kernel
theorem dL_law_1069 : decode cL_law 1069 = .ok (.iaload, 1) := by decide +kernel
theorem dL_law_1070 : decode cL_law 1070 = .ok (.aload_n 0, 1) := by decide +kernel
theorem dL_law_1071 : decode cL_law 1071 = .ok (.iload_n 3, 1) := by decide +kernel
theorem dL_law_1072 : decode cL_law 1072 = .ok (.iconst 2, 1) := by decide +kernel
theorem dL_law_1073 : decode cL_law 1073 = .ok (.iadd, 1) := by decide +kernel
theorem dL_law_1074 : decode cL_law 1074 = .ok (.iaload, 1) := by decide +kernel
theorem dL_law_1075 : decode cL_law 1075 = .ok (.invokevirtual 140, 3) := by decide +kernel
theorem dL_law_1078 : decode cL_law 1078 = .ok (.aload_n 2, 1) := by decide +kernel
theorem dL_law_1079 : decode cL_law 1079 = .ok (.aload_n 0, 1) := by decide +kernel
theorem dL_law_1080 : decode cL_law 1080 = .ok (.iload_n 3, 1) := by decide +kernel
theorem dL_law_1081 : decode cL_law 1081 = .ok (.iconst 1, 1) := by decide +kernel
theorem dL_law_1082 : decode cL_law 1082 = .ok (.iadd, 1) := by decide +kernel
theorem dL_law_1083 : decode cL_law 1083 = .ok (.iaload, 1) := by decide +kernel
theorem dL_law_1084 : decode cL_law 1084 = .ok (.aload_n 0, 1) := by decide +kernel
theorem dL_law_1085 : decode cL_law 1085 = .ok (.iload_n 3, 1) := by decide +kernel
theorem dL_law_1086 : decode cL_law 1086 = .ok (.iconst 2, 1) := by decide +kernel
theorem dL_law_1087 : decode cL_law 1087 = .ok (.iadd, 1) := by decide +kernel
theorem dL_law_1088 : decode cL_law 1088 = .ok (.iaload, 1) := by decide +kernel
theorem dL_law_1089 : decode cL_law 1089 = .ok (.invokevirtual 143, 3) := by decide +kernel
theorem dL_law_1092 : decode cL_law 1092 = .ok (.lcmp, 1) := by decide +kernel
theorem dL_law_1093 : decode cL_law 1093 = .ok (.ifCond .eq 68, 3) := by decide +kernel
theorem dL_law_1096 : decode cL_law 1096 = .ok (.iconst 0, 1) := by decide +kernel
theorem dL_law_1097 : decode cL_law 1097 = .ok (.ireturn, 1) := by decide +kernel
theorem dL_law_1098 : decode cL_law 1098 = .ok (.aload_n 1, 1) := by decide +kernel
theorem dL_law_1099 : decode cL_law 1099 = .ok (.aload_n 0, 1) := by decide +kernel
theorem dL_law_1100 : decode cL_law 1100 = .ok (.iload_n 3, 1) := by decide +kernel
theorem dL_law_1101 : decode cL_law 1101 = .ok (.iconst 1, 1) := by decide +kernel
theorem dL_law_1102 : decode cL_law 1102 = .ok (.iadd, 1) := by decide +kernel
theorem dL_law_1103 : decode cL_law 1103 = .ok (.iaload, 1) := by decide +kernel
theorem dL_law_1104 : decode cL_law 1104 = .ok (.aload_n 0, 1) := by decide +kernel
theorem dL_law_1105 : decode cL_law 1105 = .ok (.iload_n 3, 1) := by decide +kernel
theorem dL_law_1106 : decode cL_law 1106 = .ok (.iconst 2, 1) := by decide +kernel
theorem dL_law_1107 : decode cL_law 1107 = .ok (.iadd, 1) := by decide +kernel
theorem dL_law_1108 : decode cL_law 1108 = .ok (.iaload, 1) := by decide +kernel
theorem dL_law_1109 : decode cL_law 1109 = .ok (.aload_n 0, 1) := by decide +kernel
theorem dL_law_1110 : decode cL_law 1110 = .ok (.iload_n 3, 1) := by decide +kernel
theorem dL_law_1111 : decode cL_law 1111 = .ok (.iconst 3, 1) := by decide +kernel
theorem dL_law_1112 : decode cL_law 1112 = .ok (.iadd, 1) := by decide +kernel
theorem dL_law_1113 : decode cL_law 1113 = .ok (.iaload, 1) := by decide +kernel
theorem dL_law_1114 : decode cL_law 1114 = .ok (.aload_n 0, 1) := by decide +kernel
theorem dL_law_1115 : decode cL_law 1115 = .ok (.iload_n 3, 1) := by decide +kernel
theorem dL_law_1116 : decode cL_law 1116 = .ok (.iconst 4, 1) := by decide +kernel
theorem dL_law_1117 : decode cL_law 1117 = .ok (.iadd, 1) := by decide +kernel
theorem dL_law_1118 : decode cL_law 1118 = .ok (.iaload, 1) := by decide +kernel
theorem dL_law_1119 : decode cL_law 1119 = .ok (.aload_n 0, 1) := by decide +kernel
theorem dL_law_1120 : decode cL_law 1120 = .ok (.iload_n 3, 1) := by decide +kernel
theorem dL_law_1121 : decode cL_law 1121 = .ok (.iconst 5, 1) := by decide +kernel
theorem dL_law_1122 : decode cL_law 1122 = .ok (.iadd, 1) := by decide +kernel
theorem dL_law_1123 : decode cL_law 1123 = .ok (.iaload, 1) := by decide +kernel
theorem dL_law_1124 : decode cL_law 1124 = .ok (.invokevirtual 144, 3) := by decide +kernel
theorem dL_law_1127 : decode cL_law 1127 = .ok (.aload_n 2, 1) := by decide +kernel
theorem dL_law_1128 : decode cL_law 1128 = .ok (.aload_n 0, 1) := by decide +kernel
theorem dL_law_1129 : decode cL_law 1129 = .ok (.iload_n 3, 1) := by decide +kernel
theorem dL_law_1130 : decode cL_law 1130 = .ok (.iconst 1, 1) := by decide +kernel
theorem dL_law_1131 : decode cL_law 1131 = .ok (.iadd, 1) := by decide +kernel
theorem dL_law_1132 : decode cL_law 1132 = .ok (.iaload, 1) := by decide +kernel
theorem dL_law_1133 : decode cL_law 1133 = .ok (.aload_n 0, 1) := by decide +kernel
theorem dL_law_1134 : decode cL_law 1134 = .ok (.iload_n 3, 1) := by decide +kernel
theorem dL_law_1135 : decode cL_law 1135 = .ok (.iconst 2, 1) := by decide +kernel
theorem dL_law_1136 : decode cL_law 1136 = .ok (.iadd, 1) := by decide +kernel
theorem dL_law_1137 : decode cL_law 1137 = .ok (.iaload, 1) := by decide +kernel
theorem dL_law_1138 : decode cL_law 1138 = .ok (.aload_n 0, 1) := by decide +kernel
theorem dL_law_1139 : decode cL_law 1139 = .ok (.iload_n 3, 1) := by decide +kernel
theorem dL_law_1140 : decode cL_law 1140 = .ok (.iconst 3, 1) := by decide +kernel
theorem dL_law_1141 : decode cL_law 1141 = .ok (.iadd, 1) := by decide +kernel
theorem dL_law_1142 : decode cL_law 1142 = .ok (.iaload, 1) := by decide +kernel
theorem dL_law_1143 : decode cL_law 1143 = .ok (.aload_n 0, 1) := by decide +kernel
theorem dL_law_1144 : decode cL_law 1144 = .ok (.iload_n 3, 1) := by decide +kernel
theorem dL_law_1145 : decode cL_law 1145 = .ok (.iconst 4, 1) := by decide +kernel
theorem dL_law_1146 : decode cL_law 1146 = .ok (.iadd, 1) := by decide +kernel
theorem dL_law_1147 : decode cL_law 1147 = .ok (.iaload, 1) := by decide +kernel
theorem dL_law_1148 : decode cL_law 1148 = .ok (.aload_n 0, 1) := by decide +kernel
theorem dL_law_1149 : decode cL_law 1149 = .ok (.iload_n 3, 1) := by decide +kernel
theorem dL_law_1150 : decode cL_law 1150 = .ok (.iconst 5, 1) := by decide +kernel
theorem dL_law_1151 : decode cL_law 1151 = .ok (.iadd, 1) := by decide +kernel
theorem dL_law_1152 : decode cL_law 1152 = .ok (.iaload, 1) := by decide +kernel
theorem dL_law_1153 : decode cL_law 1153 = .ok (.invokevirtual 148, 3) := by decide +kernel
theorem dL_law_1156 : decode cL_law 1156 = .ok (.if_icmp .eq 5, 3) := by decide +kernel
theorem dL_law_1159 : decode cL_law 1159 = .ok (.iconst 0, 1) := by decide +kernel
theorem dL_law_1160 : decode cL_law 1160 = .ok (.ireturn, 1) := by decide +kernel
theorem dL_law_1161 : decode cL_law 1161 = .ok (.iinc 3 6, 3) := by decide +kernel
theorem dL_law_1164 : decode cL_law 1164 = .ok (.goto (-1146), 3) := by decide +kernel
theorem dL_law_1167 : decode cL_law 1167 = .ok (.iconst 1, 1) := by decide +kernel
theorem dL_law_1168 : decode cL_law 1168 = .ok (.ireturn, 1) := by decide +kernel
