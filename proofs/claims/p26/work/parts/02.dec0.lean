theorem dX0_init_0 : decode cX0_init 0 = .ok (.aload_n 0, 1) := by decide +kernel
theorem dX0_init_1 : decode cX0_init 1 = .ok (.invokespecial 3, 3) := by decide +kernel
theorem dX0_init_4 : decode cX0_init 4 = .ok (.aload_n 0, 1) := by decide +kernel
theorem dX0_init_5 : decode cX0_init 5 = .ok (.iconst 3, 1) := by decide +kernel
theorem dX0_init_6 : decode cX0_init 6 = .ok (.newarray .int, 2) := by decide +kernel
theorem dX0_init_8 : decode cX0_init 8 = .ok (.dup, 1) := by decide +kernel
theorem dX0_init_9 : decode cX0_init 9 = .ok (.iconst 0, 1) := by decide +kernel
theorem dX0_init_10 : decode cX0_init 10 = .ok (.iconst 4, 1) := by decide +kernel
theorem dX0_init_11 : decode cX0_init 11 = .ok (.iastore, 1) := by decide +kernel
theorem dX0_init_12 : decode cX0_init 12 = .ok (.dup, 1) := by decide +kernel
theorem dX0_init_13 : decode cX0_init 13 = .ok (.iconst 1, 1) := by decide +kernel
theorem dX0_init_14 : decode cX0_init 14 = .ok (.iconst 0, 1) := by decide +kernel
theorem dX0_init_15 : decode cX0_init 15 = .ok (.iastore, 1) := by decide +kernel
theorem dX0_init_16 : decode cX0_init 16 = .ok (.dup, 1) := by decide +kernel
theorem dX0_init_17 : decode cX0_init 17 = .ok (.iconst 2, 1) := by decide +kernel
theorem dX0_init_18 : decode cX0_init 18 = .ok (.bipush 12, 2) := by decide +kernel
theorem dX0_init_20 : decode cX0_init 20 = .ok (.iastore, 1) := by decide +kernel
theorem dX0_init_21 : decode cX0_init 21 = .ok (.putfield 9, 3) := by decide +kernel
theorem dX0_init_24 : decode cX0_init 24 = .ok (.aload_n 0, 1) := by decide +kernel
theorem dX0_init_25 : decode cX0_init 25 = .ok (.bipush 8, 2) := by decide +kernel
theorem dX0_init_27 : decode cX0_init 27 = .ok (.newarray .int, 2) := by decide +kernel
theorem dX0_init_29 : decode cX0_init 29 = .ok (.putfield 15, 3) := by decide +kernel
theorem dX0_init_32 : decode cX0_init 32 = .ok (.aload_n 0, 1) := by decide +kernel
theorem dX0_init_33 : decode cX0_init 33 = .ok (.iconst 4, 1) := by decide +kernel
theorem dX0_init_34 : decode cX0_init 34 = .ok (.anewarray 18, 3) := by decide +kernel
theorem dX0_init_37 : decode cX0_init 37 = .ok (.putfield 20, 3) := by decide +kernel
theorem dX0_init_40 : decode cX0_init 40 = .ok (.aload_n 0, 1) := by decide +kernel
theorem dX0_init_41 : decode cX0_init 41 = .ok (.iconst 4, 1) := by decide +kernel
theorem dX0_init_42 : decode cX0_init 42 = .ok (.anewarray 24, 3) := by decide +kernel
theorem dX0_init_45 : decode cX0_init 45 = .ok (.putfield 26, 3) := by decide +kernel
theorem dX0_init_48 : decode cX0_init 48 = .ok (.aload_n 0, 1) := by decide +kernel
theorem dX0_init_49 : decode cX0_init 49 = .ok (.sipush 200, 3) := by decide +kernel
theorem dX0_init_52 : decode cX0_init 52 = .ok (.anewarray 30, 3) := by decide +kernel
theorem dX0_init_55 : decode cX0_init 55 = .ok (.putfield 32, 3) := by decide +kernel
theorem dX0_init_58 : decode cX0_init 58 = .ok (.aload_n 0, 1) := by decide +kernel
theorem dX0_init_59 : decode cX0_init 59 = .ok (.bipush (-5), 2) := by decide +kernel
theorem dX0_init_61 : decode cX0_init 61 = .ok (.putfield 36, 3) := by decide +kernel
theorem dX0_init_64 : decode cX0_init 64 = .ok (.iconst 0, 1) := by decide +kernel
theorem dX0_init_65 : decode cX0_init 65 = .ok (.istore_n 1, 1) := by decide +kernel
theorem dX0_init_66 : decode cX0_init 66 = .ok (.iload_n 1, 1) := by decide +kernel
theorem dX0_init_67 : decode cX0_init 67 = .ok (.bipush 8, 2) := by decide +kernel
theorem dX0_init_69 : decode cX0_init 69 = .ok (.if_icmp .ge 17, 3) := by decide +kernel
theorem dX0_init_72 : decode cX0_init 72 = .ok (.aload_n 0, 1) := by decide +kernel
theorem dX0_init_73 : decode cX0_init 73 = .ok (.getfield 15, 3) := by decide +kernel
theorem dX0_init_76 : decode cX0_init 76 = .ok (.iload_n 1, 1) := by decide +kernel
theorem dX0_init_77 : decode cX0_init 77 = .ok (.bipush (-5), 2) := by decide +kernel
theorem dX0_init_79 : decode cX0_init 79 = .ok (.iastore, 1) := by decide +kernel
theorem dX0_init_80 : decode cX0_init 80 = .ok (.iinc 1 1, 3) := by decide +kernel
theorem dX0_init_83 : decode cX0_init 83 = .ok (.goto (-17), 3) := by decide +kernel
theorem dX0_init_86 : decode cX0_init 86 = .ok (.iconst 0, 1) := by decide +kernel
theorem dX0_init_87 : decode cX0_init 87 = .ok (.istore_n 1, 1) := by decide +kernel
theorem dX0_init_88 : decode cX0_init 88 = .ok (.iload_n 1, 1) := by decide +kernel
theorem dX0_init_89 : decode cX0_init 89 = .ok (.iconst 4, 1) := by decide +kernel
theorem dX0_init_90 : decode cX0_init 90 = .ok (.if_icmp .ge 22, 3) := by decide +kernel
theorem dX0_init_93 : decode cX0_init 93 = .ok (.aload_n 0, 1) := by decide +kernel
theorem dX0_init_94 : decode cX0_init 94 = .ok (.getfield 20, 3) := by decide +kernel
theorem dX0_init_97 : decode cX0_init 97 = .ok (.iload_n 1, 1) := by decide +kernel
theorem dX0_init_98 : decode cX0_init 98 = .ok (.new 18, 3) := by decide +kernel
theorem dX0_init_101 : decode cX0_init 101 = .ok (.dup, 1) := by decide +kernel
theorem dX0_init_102 : decode cX0_init 102 = .ok (.invokespecial 40, 3) := by decide +kernel
theorem dX0_init_105 : decode cX0_init 105 = .ok (.aastore, 1) := by decide +kernel
theorem dX0_init_106 : decode cX0_init 106 = .ok (.iinc 1 1, 3) := by decide +kernel
theorem dX0_init_109 : decode cX0_init 109 = .ok (.goto (-21), 3) := by decide +kernel
theorem dX0_init_112 : decode cX0_init 112 = .ok (.iconst 0, 1) := by decide +kernel
theorem dX0_init_113 : decode cX0_init 113 = .ok (.istore_n 1, 1) := by decide +kernel
theorem dX0_init_114 : decode cX0_init 114 = .ok (.iload_n 1, 1) := by decide +kernel
theorem dX0_init_115 : decode cX0_init 115 = .ok (.iconst 4, 1) := by decide +kernel
theorem dX0_init_116 : decode cX0_init 116 = .ok (.if_icmp .ge 22, 3) := by decide +kernel
theorem dX0_init_119 : decode cX0_init 119 = .ok (.aload_n 0, 1) := by decide +kernel
theorem dX0_init_120 : decode cX0_init 120 = .ok (.getfield 26, 3) := by decide +kernel
theorem dX0_init_123 : decode cX0_init 123 = .ok (.iload_n 1, 1) := by decide +kernel
theorem dX0_init_124 : decode cX0_init 124 = .ok (.new 24, 3) := by decide +kernel
theorem dX0_init_127 : decode cX0_init 127 = .ok (.dup, 1) := by decide +kernel
theorem dX0_init_128 : decode cX0_init 128 = .ok (.invokespecial 41, 3) := by decide +kernel
theorem dX0_init_131 : decode cX0_init 131 = .ok (.aastore, 1) := by decide +kernel
theorem dX0_init_132 : decode cX0_init 132 = .ok (.iinc 1 1, 3) := by decide +kernel
theorem dX0_init_135 : decode cX0_init 135 = .ok (.goto (-21), 3) := by decide +kernel
theorem dX0_init_138 : decode cX0_init 138 = .ok (.iconst 0, 1) := by decide +kernel
theorem dX0_init_139 : decode cX0_init 139 = .ok (.istore_n 1, 1) := by decide +kernel
theorem dX0_init_140 : decode cX0_init 140 = .ok (.iload_n 1, 1) := by decide +kernel
theorem dX0_init_141 : decode cX0_init 141 = .ok (.sipush 200, 3) := by decide +kernel
theorem dX0_init_144 : decode cX0_init 144 = .ok (.if_icmp .ge 22, 3) := by decide +kernel
theorem dX0_init_147 : decode cX0_init 147 = .ok (.aload_n 0, 1) := by decide +kernel
theorem dX0_init_148 : decode cX0_init 148 = .ok (.getfield 32, 3) := by decide +kernel
theorem dX0_init_151 : decode cX0_init 151 = .ok (.iload_n 1, 1) := by decide +kernel
theorem dX0_init_152 : decode cX0_init 152 = .ok (.new 30, 3) := by decide +kernel
theorem dX0_init_155 : decode cX0_init 155 = .ok (.dup, 1) := by decide +kernel
theorem dX0_init_156 : decode cX0_init 156 = .ok (.invokespecial 42, 3) := by decide +kernel
theorem dX0_init_159 : decode cX0_init 159 = .ok (.aastore, 1) := by decide +kernel
theorem dX0_init_160 : decode cX0_init 160 = .ok (.iinc 1 1, 3) := by decide +kernel
theorem dX0_init_163 : decode cX0_init 163 = .ok (.goto (-23), 3) := by decide +kernel
theorem dX0_init_166 : decode cX0_init 166 = .ok (.return_, 1) := by decide +kernel
theorem dX0_copyFrom_0 : decode cX0_copyFrom 0 = .ok (.aload_n 1, 1) := by decide +kernel
theorem dX0_copyFrom_1 : decode cX0_copyFrom 1 = .ok (.getfield 9, 3) := by decide +kernel
theorem dX0_copyFrom_4 : decode cX0_copyFrom 4 = .ok (.iconst 0, 1) := by decide +kernel
theorem dX0_copyFrom_5 : decode cX0_copyFrom 5 = .ok (.aload_n 0, 1) := by decide +kernel
theorem dX0_copyFrom_6 : decode cX0_copyFrom 6 = .ok (.getfield 9, 3) := by decide +kernel
theorem dX0_copyFrom_9 : decode cX0_copyFrom 9 = .ok (.iconst 0, 1) := by decide +kernel
theorem dX0_copyFrom_10 : decode cX0_copyFrom 10 = .ok (.aload_n 0, 1) := by decide +kernel
theorem dX0_copyFrom_11 : decode cX0_copyFrom 11 = .ok (.getfield 9, 3) := by decide +kernel
theorem dX0_copyFrom_14 : decode cX0_copyFrom 14 = .ok (.arraylength, 1) := by decide +kernel
theorem dX0_copyFrom_15 : decode cX0_copyFrom 15 = .ok (.invokestatic 43, 3) := by decide +kernel
theorem dX0_copyFrom_18 : decode cX0_copyFrom 18 = .ok (.aload_n 1, 1) := by decide +kernel
theorem dX0_copyFrom_19 : decode cX0_copyFrom 19 = .ok (.getfield 15, 3) := by decide +kernel
theorem dX0_copyFrom_22 : decode cX0_copyFrom 22 = .ok (.iconst 0, 1) := by decide +kernel
theorem dX0_copyFrom_23 : decode cX0_copyFrom 23 = .ok (.aload_n 0, 1) := by decide +kernel
theorem dX0_copyFrom_24 : decode cX0_copyFrom 24 = .ok (.getfield 15, 3) := by decide +kernel
theorem dX0_copyFrom_27 : decode cX0_copyFrom 27 = .ok (.iconst 0, 1) := by decide +kernel
theorem dX0_copyFrom_28 : decode cX0_copyFrom 28 = .ok (.bipush 8, 2) := by decide +kernel
theorem dX0_copyFrom_30 : decode cX0_copyFrom 30 = .ok (.invokestatic 43, 3) := by decide +kernel
theorem dX0_copyFrom_33 : decode cX0_copyFrom 33 = .ok (.iconst 0, 1) := by decide +kernel
theorem dX0_copyFrom_34 : decode cX0_copyFrom 34 = .ok (.istore_n 2, 1) := by decide +kernel
theorem dX0_copyFrom_35 : decode cX0_copyFrom 35 = .ok (.iload_n 2, 1) := by decide +kernel
theorem dX0_copyFrom_36 : decode cX0_copyFrom 36 = .ok (.iconst 4, 1) := by decide +kernel
theorem dX0_copyFrom_37 : decode cX0_copyFrom 37 = .ok (.if_icmp .ge 24, 3) := by decide +kernel
theorem dX0_copyFrom_40 : decode cX0_copyFrom 40 = .ok (.aload_n 0, 1) := by decide +kernel
theorem dX0_copyFrom_41 : decode cX0_copyFrom 41 = .ok (.getfield 20, 3) := by decide +kernel
theorem dX0_copyFrom_44 : decode cX0_copyFrom 44 = .ok (.iload_n 2, 1) := by decide +kernel
theorem dX0_copyFrom_45 : decode cX0_copyFrom 45 = .ok (.aaload, 1) := by decide +kernel
theorem dX0_copyFrom_46 : decode cX0_copyFrom 46 = .ok (.aload_n 1, 1) := by decide +kernel
theorem dX0_copyFrom_47 : decode cX0_copyFrom 47 = .ok (.getfield 20, 3) := by decide +kernel
theorem dX0_copyFrom_50 : decode cX0_copyFrom 50 = .ok (.iload_n 2, 1) := by decide +kernel
theorem dX0_copyFrom_51 : decode cX0_copyFrom 51 = .ok (.aaload, 1) := by decide +kernel
theorem dX0_copyFrom_52 : decode cX0_copyFrom 52 = .ok (.invokevirtual 49, 3) := by decide +kernel
theorem dX0_copyFrom_55 : decode cX0_copyFrom 55 = .ok (.iinc 2 1, 3) := by decide +kernel
theorem dX0_copyFrom_58 : decode cX0_copyFrom 58 = .ok (.goto (-23), 3) := by decide +kernel
theorem dX0_copyFrom_61 : decode cX0_copyFrom 61 = .ok (.iconst 0, 1) := by decide +kernel
theorem dX0_copyFrom_62 : decode cX0_copyFrom 62 = .ok (.istore_n 2, 1) := by decide +kernel
theorem dX0_copyFrom_63 : decode cX0_copyFrom 63 = .ok (.iload_n 2, 1) := by decide +kernel
theorem dX0_copyFrom_64 : decode cX0_copyFrom 64 = .ok (.iconst 4, 1) := by decide +kernel
theorem dX0_copyFrom_65 : decode cX0_copyFrom 65 = .ok (.if_icmp .ge 24, 3) := by decide +kernel
theorem dX0_copyFrom_68 : decode cX0_copyFrom 68 = .ok (.aload_n 0, 1) := by decide +kernel
theorem dX0_copyFrom_69 : decode cX0_copyFrom 69 = .ok (.getfield 26, 3) := by decide +kernel
theorem dX0_copyFrom_72 : decode cX0_copyFrom 72 = .ok (.iload_n 2, 1) := by decide +kernel
theorem dX0_copyFrom_73 : decode cX0_copyFrom 73 = .ok (.aaload, 1) := by decide +kernel
theorem dX0_copyFrom_74 : decode cX0_copyFrom 74 = .ok (.aload_n 1, 1) := by decide +kernel
theorem dX0_copyFrom_75 : decode cX0_copyFrom 75 = .ok (.getfield 26, 3) := by decide +kernel
theorem dX0_copyFrom_78 : decode cX0_copyFrom 78 = .ok (.iload_n 2, 1) := by decide +kernel
theorem dX0_copyFrom_79 : decode cX0_copyFrom 79 = .ok (.aaload, 1) := by decide +kernel
theorem dX0_copyFrom_80 : decode cX0_copyFrom 80 = .ok (.invokevirtual 53, 3) := by decide +kernel
theorem dX0_copyFrom_83 : decode cX0_copyFrom 83 = .ok (.iinc 2 1, 3) := by decide +kernel
theorem dX0_copyFrom_86 : decode cX0_copyFrom 86 = .ok (.goto (-23), 3) := by decide +kernel
theorem dX0_copyFrom_89 : decode cX0_copyFrom 89 = .ok (.iconst 0, 1) := by decide +kernel
theorem dX0_copyFrom_90 : decode cX0_copyFrom 90 = .ok (.istore_n 2, 1) := by decide +kernel
theorem dX0_copyFrom_91 : decode cX0_copyFrom 91 = .ok (.iload_n 2, 1) := by decide +kernel
theorem dX0_copyFrom_92 : decode cX0_copyFrom 92 = .ok (.aload_n 1, 1) := by decide +kernel
theorem dX0_copyFrom_93 : decode cX0_copyFrom 93 = .ok (.getfield 56, 3) := by decide +kernel
theorem dX0_copyFrom_96 : decode cX0_copyFrom 96 = .ok (.if_icmp .ge 31, 3) := by decide +kernel
theorem dX0_copyFrom_99 : decode cX0_copyFrom 99 = .ok (.iload_n 2, 1) := by decide +kernel
theorem dX0_copyFrom_100 : decode cX0_copyFrom 100 = .ok (.sipush 200, 3) := by decide +kernel
theorem dX0_copyFrom_103 : decode cX0_copyFrom 103 = .ok (.if_icmp .ge 24, 3) := by decide +kernel
theorem dX0_copyFrom_106 : decode cX0_copyFrom 106 = .ok (.aload_n 0, 1) := by decide +kernel
theorem dX0_copyFrom_107 : decode cX0_copyFrom 107 = .ok (.getfield 32, 3) := by decide +kernel
theorem dX0_copyFrom_110 : decode cX0_copyFrom 110 = .ok (.iload_n 2, 1) := by decide +kernel
theorem dX0_copyFrom_111 : decode cX0_copyFrom 111 = .ok (.aaload, 1) := by decide +kernel
theorem dX0_copyFrom_112 : decode cX0_copyFrom 112 = .ok (.aload_n 1, 1) := by decide +kernel
theorem dX0_copyFrom_113 : decode cX0_copyFrom 113 = .ok (.getfield 32, 3) := by decide +kernel
theorem dX0_copyFrom_116 : decode cX0_copyFrom 116 = .ok (.iload_n 2, 1) := by decide +kernel
theorem dX0_copyFrom_117 : decode cX0_copyFrom 117 = .ok (.aaload, 1) := by decide +kernel
theorem dX0_copyFrom_118 : decode cX0_copyFrom 118 = .ok (.invokevirtual 59, 3) := by decide +kernel
theorem dX0_copyFrom_121 : decode cX0_copyFrom 121 = .ok (.iinc 2 1, 3) := by decide +kernel
theorem dX0_copyFrom_124 : decode cX0_copyFrom 124 = .ok (.goto (-33), 3) := by decide +kernel
theorem dX0_copyFrom_127 : decode cX0_copyFrom 127 = .ok (.aload_n 0, 1) := by decide +kernel
theorem dX0_copyFrom_128 : decode cX0_copyFrom 128 = .ok (.aload_n 1, 1) := by decide +kernel
theorem dX0_copyFrom_129 : decode cX0_copyFrom 129 = .ok (.getfield 56, 3) := by decide +kernel
theorem dX0_copyFrom_132 : decode cX0_copyFrom 132 = .ok (.putfield 56, 3) := by decide +kernel
theorem dX0_copyFrom_135 : decode cX0_copyFrom 135 = .ok (.aload_n 0, 1) := by decide +kernel
theorem dX0_copyFrom_136 : decode cX0_copyFrom 136 = .ok (.aload_n 1, 1) := by decide +kernel
theorem dX0_copyFrom_137 : decode cX0_copyFrom 137 = .ok (.getfield 62, 3) := by decide +kernel
theorem dX0_copyFrom_140 : decode cX0_copyFrom 140 = .ok (.putfield 62, 3) := by decide +kernel
theorem dX0_copyFrom_143 : decode cX0_copyFrom 143 = .ok (.aload_n 0, 1) := by decide +kernel
theorem dX0_copyFrom_144 : decode cX0_copyFrom 144 = .ok (.aload_n 1, 1) := by decide +kernel
theorem dX0_copyFrom_145 : decode cX0_copyFrom 145 = .ok (.getfield 36, 3) := by decide +kernel
theorem dX0_copyFrom_148 : decode cX0_copyFrom 148 = .ok (.putfield 36, 3) := by decide +kernel
theorem dX0_copyFrom_151 : decode cX0_copyFrom 151 = .ok (.aload_n 0, 1) := by decide +kernel
theorem dX0_copyFrom_152 : decode cX0_copyFrom 152 = .ok (.aload_n 1, 1) := by decide +kernel
theorem dX0_copyFrom_153 : decode cX0_copyFrom 153 = .ok (.getfield 65, 3) := by decide +kernel
theorem dX0_copyFrom_156 : decode cX0_copyFrom 156 = .ok (.putfield 65, 3) := by decide +kernel
theorem dX0_copyFrom_159 : decode cX0_copyFrom 159 = .ok (.aload_n 0, 1) := by decide +kernel
theorem dX0_copyFrom_160 : decode cX0_copyFrom 160 = .ok (.aload_n 1, 1) := by decide +kernel
theorem dX0_copyFrom_161 : decode cX0_copyFrom 161 = .ok (.getfield 68, 3) := by decide +kernel
theorem dX0_copyFrom_164 : decode cX0_copyFrom 164 = .ok (.putfield 68, 3) := by decide +kernel
theorem dX0_copyFrom_167 : decode cX0_copyFrom 167 = .ok (.aload_n 0, 1) := by decide +kernel
theorem dX0_copyFrom_168 : decode cX0_copyFrom 168 = .ok (.aload_n 1, 1) := by decide +kernel
theorem dX0_copyFrom_169 : decode cX0_copyFrom 169 = .ok (.getfield 71, 3) := by decide +kernel
theorem dX0_copyFrom_172 : decode cX0_copyFrom 172 = .ok (.putfield 71, 3) := by decide +kernel
theorem dX0_copyFrom_175 : decode cX0_copyFrom 175 = .ok (.aload_n 0, 1) := by decide +kernel
theorem dX0_copyFrom_176 : decode cX0_copyFrom 176 = .ok (.aload_n 1, 1) := by decide +kernel
theorem dX0_copyFrom_177 : decode cX0_copyFrom 177 = .ok (.getfield 74, 3) := by decide +kernel
theorem dX0_copyFrom_180 : decode cX0_copyFrom 180 = .ok (.putfield 74, 3) := by decide +kernel
theorem dX0_copyFrom_183 : decode cX0_copyFrom 183 = .ok (.aload_n 0, 1) := by decide +kernel
theorem dX0_copyFrom_184 : decode cX0_copyFrom 184 = .ok (.aload_n 1, 1) := by decide +kernel
theorem dX0_copyFrom_185 : decode cX0_copyFrom 185 = .ok (.getfield 77, 3) := by decide +kernel
theorem dX0_copyFrom_188 : decode cX0_copyFrom 188 = .ok (.putfield 77, 3) := by decide +kernel
theorem dX0_copyFrom_191 : decode cX0_copyFrom 191 = .ok (.aload_n 0, 1) := by decide +kernel
theorem dX0_copyFrom_192 : decode cX0_copyFrom 192 = .ok (.aload_n 1, 1) := by decide +kernel
theorem dX0_copyFrom_193 : decode cX0_copyFrom 193 = .ok (.getfield 80, 3) := by decide +kernel
theorem dX0_copyFrom_196 : decode cX0_copyFrom 196 = .ok (.putfield 80, 3) := by decide +kernel
theorem dX0_copyFrom_199 : decode cX0_copyFrom 199 = .ok (.aload_n 0, 1) := by decide +kernel
theorem dX0_copyFrom_200 : decode cX0_copyFrom 200 = .ok (.aload_n 1, 1) := by decide +kernel
theorem dX0_copyFrom_201 : decode cX0_copyFrom 201 = .ok (.getfield 83, 3) := by decide +kernel
theorem dX0_copyFrom_204 : decode cX0_copyFrom 204 = .ok (.putfield 83, 3) := by decide +kernel
theorem dX0_copyFrom_207 : decode cX0_copyFrom 207 = .ok (.return_, 1) := by decide +kernel
theorem dX0_masterAt_0 : decode cX0_masterAt 0 = .ok (.iload_n 1, 1) := by decide +kernel
theorem dX0_masterAt_1 : decode cX0_masterAt 1 = .ok (.iconst 4, 1) := by decide +kernel
theorem dX0_masterAt_2 : decode cX0_masterAt 2 = .ok (.invokestatic 86, 3) := by decide +kernel
theorem dX0_masterAt_5 : decode cX0_masterAt 5 = .ok (.ifCond .eq 12, 3) := by decide +kernel
theorem dX0_masterAt_8 : decode cX0_masterAt 8 = .ok (.aload_n 0, 1) := by decide +kernel
theorem dX0_masterAt_9 : decode cX0_masterAt 9 = .ok (.getfield 20, 3) := by decide +kernel
theorem dX0_masterAt_12 : decode cX0_masterAt 12 = .ok (.iload_n 1, 1) := by decide +kernel
theorem dX0_masterAt_13 : decode cX0_masterAt 13 = .ok (.aaload, 1) := by decide +kernel
theorem dX0_masterAt_14 : decode cX0_masterAt 14 = .ok (.goto 4, 3) := by decide +kernel
theorem dX0_masterAt_17 : decode cX0_masterAt 17 = .ok (.aconst_null, 1) := by decide +kernel
theorem dX0_masterAt_18 : decode cX0_masterAt 18 = .ok (.areturn, 1) := by decide +kernel
theorem dX0_targetAt_0 : decode cX0_targetAt 0 = .ok (.iload_n 1, 1) := by decide +kernel
theorem dX0_targetAt_1 : decode cX0_targetAt 1 = .ok (.iconst 4, 1) := by decide +kernel
theorem dX0_targetAt_2 : decode cX0_targetAt 2 = .ok (.invokestatic 86, 3) := by decide +kernel
theorem dX0_targetAt_5 : decode cX0_targetAt 5 = .ok (.ifCond .eq 12, 3) := by decide +kernel
theorem dX0_targetAt_8 : decode cX0_targetAt 8 = .ok (.aload_n 0, 1) := by decide +kernel
theorem dX0_targetAt_9 : decode cX0_targetAt 9 = .ok (.getfield 26, 3) := by decide +kernel
theorem dX0_targetAt_12 : decode cX0_targetAt 12 = .ok (.iload_n 1, 1) := by decide +kernel
theorem dX0_targetAt_13 : decode cX0_targetAt 13 = .ok (.aaload, 1) := by decide +kernel
theorem dX0_targetAt_14 : decode cX0_targetAt 14 = .ok (.goto 4, 3) := by decide +kernel
theorem dX0_targetAt_17 : decode cX0_targetAt 17 = .ok (.aconst_null, 1) := by decide +kernel
theorem dX0_targetAt_18 : decode cX0_targetAt 18 = .ok (.areturn, 1) := by decide +kernel
theorem dX0_questionAt_0 : decode cX0_questionAt 0 = .ok (.iload_n 1, 1) := by decide +kernel
theorem dX0_questionAt_1 : decode cX0_questionAt 1 = .ok (.aload_n 0, 1) := by decide +kernel
theorem dX0_questionAt_2 : decode cX0_questionAt 2 = .ok (.getfield 56, 3) := by decide +kernel
theorem dX0_questionAt_5 : decode cX0_questionAt 5 = .ok (.invokestatic 86, 3) := by decide +kernel
theorem dX0_questionAt_8 : decode cX0_questionAt 8 = .ok (.ifCond .eq 22, 3) := by decide +kernel
theorem dX0_questionAt_11 : decode cX0_questionAt 11 = .ok (.iload_n 1, 1) := by decide +kernel
theorem dX0_questionAt_12 : decode cX0_questionAt 12 = .ok (.sipush 200, 3) := by decide +kernel
theorem dX0_questionAt_15 : decode cX0_questionAt 15 = .ok (.invokestatic 86, 3) := by decide +kernel
theorem dX0_questionAt_18 : decode cX0_questionAt 18 = .ok (.ifCond .eq 12, 3) := by decide +kernel
theorem dX0_questionAt_21 : decode cX0_questionAt 21 = .ok (.aload_n 0, 1) := by decide +kernel
theorem dX0_questionAt_22 : decode cX0_questionAt 22 = .ok (.getfield 32, 3) := by decide +kernel
theorem dX0_questionAt_25 : decode cX0_questionAt 25 = .ok (.iload_n 1, 1) := by decide +kernel
theorem dX0_questionAt_26 : decode cX0_questionAt 26 = .ok (.aaload, 1) := by decide +kernel
theorem dX0_questionAt_27 : decode cX0_questionAt 27 = .ok (.goto 4, 3) := by decide +kernel
theorem dX0_questionAt_30 : decode cX0_questionAt 30 = .ok (.aconst_null, 1) := by decide +kernel
theorem dX0_questionAt_31 : decode cX0_questionAt 31 = .ok (.areturn, 1) := by decide +kernel
theorem dX0_highestLentTag_0 : decode cX0_highestLentTag 0 = .ok (.bipush (-5), 2) := by decide +kernel
theorem dX0_highestLentTag_2 : decode cX0_highestLentTag 2 = .ok (.istore_n 1, 1) := by decide +kernel
theorem dX0_highestLentTag_3 : decode cX0_highestLentTag 3 = .ok (.iconst 0, 1) := by decide +kernel
theorem dX0_highestLentTag_4 : decode cX0_highestLentTag 4 = .ok (.istore_n 2, 1) := by decide +kernel
theorem dX0_highestLentTag_5 : decode cX0_highestLentTag 5 = .ok (.iload_n 2, 1) := by decide +kernel
theorem dX0_highestLentTag_6 : decode cX0_highestLentTag 6 = .ok (.bipush 8, 2) := by decide +kernel
theorem dX0_highestLentTag_8 : decode cX0_highestLentTag 8 = .ok (.if_icmp .ge 22, 3) := by decide +kernel
theorem dX0_highestLentTag_11 : decode cX0_highestLentTag 11 = .ok (.aload_n 0, 1) := by decide +kernel
theorem dX0_highestLentTag_12 : decode cX0_highestLentTag 12 = .ok (.getfield 15, 3) := by decide +kernel
theorem dX0_highestLentTag_15 : decode cX0_highestLentTag 15 = .ok (.iload_n 2, 1) := by decide +kernel
theorem dX0_highestLentTag_16 : decode cX0_highestLentTag 16 = .ok (.iaload, 1) := by decide +kernel
theorem dX0_highestLentTag_17 : decode cX0_highestLentTag 17 = .ok (.bipush (-5), 2) := by decide +kernel
theorem dX0_highestLentTag_19 : decode cX0_highestLentTag 19 = .ok (.if_icmp .eq 5, 3) := by decide +kernel
theorem dX0_highestLentTag_22 : decode cX0_highestLentTag 22 = .ok (.iload_n 2, 1) := by decide +kernel
theorem dX0_highestLentTag_23 : decode cX0_highestLentTag 23 = .ok (.istore_n 1, 1) := by decide +kernel
theorem dX0_highestLentTag_24 : decode cX0_highestLentTag 24 = .ok (.iinc 2 1, 3) := by decide +kernel
theorem dX0_highestLentTag_27 : decode cX0_highestLentTag 27 = .ok (.goto (-22), 3) := by decide +kernel
theorem dX0_highestLentTag_30 : decode cX0_highestLentTag 30 = .ok (.iload_n 1, 1) := by decide +kernel
theorem dX0_highestLentTag_31 : decode cX0_highestLentTag 31 = .ok (.ireturn, 1) := by decide +kernel
theorem dX0_freeTags_0 : decode cX0_freeTags 0 = .ok (.iconst 0, 1) := by decide +kernel
theorem dX0_freeTags_1 : decode cX0_freeTags 1 = .ok (.istore_n 1, 1) := by decide +kernel
theorem dX0_freeTags_2 : decode cX0_freeTags 2 = .ok (.iconst 0, 1) := by decide +kernel
theorem dX0_freeTags_3 : decode cX0_freeTags 3 = .ok (.istore_n 2, 1) := by decide +kernel
theorem dX0_freeTags_4 : decode cX0_freeTags 4 = .ok (.iload_n 2, 1) := by decide +kernel
theorem dX0_freeTags_5 : decode cX0_freeTags 5 = .ok (.aload_n 0, 1) := by decide +kernel
theorem dX0_freeTags_6 : decode cX0_freeTags 6 = .ok (.getfield 9, 3) := by decide +kernel
theorem dX0_freeTags_9 : decode cX0_freeTags 9 = .ok (.iconst 0, 1) := by decide +kernel
theorem dX0_freeTags_10 : decode cX0_freeTags 10 = .ok (.iaload, 1) := by decide +kernel
theorem dX0_freeTags_11 : decode cX0_freeTags 11 = .ok (.if_icmp .ge 29, 3) := by decide +kernel
theorem dX0_freeTags_14 : decode cX0_freeTags 14 = .ok (.iload_n 2, 1) := by decide +kernel
theorem dX0_freeTags_15 : decode cX0_freeTags 15 = .ok (.bipush 8, 2) := by decide +kernel
theorem dX0_freeTags_17 : decode cX0_freeTags 17 = .ok (.if_icmp .ge 23, 3) := by decide +kernel
theorem dX0_freeTags_20 : decode cX0_freeTags 20 = .ok (.aload_n 0, 1) := by decide +kernel
theorem dX0_freeTags_21 : decode cX0_freeTags 21 = .ok (.getfield 15, 3) := by decide +kernel
theorem dX0_freeTags_24 : decode cX0_freeTags 24 = .ok (.iload_n 2, 1) := by decide +kernel
theorem dX0_freeTags_25 : decode cX0_freeTags 25 = .ok (.iaload, 1) := by decide +kernel
theorem dX0_freeTags_26 : decode cX0_freeTags 26 = .ok (.bipush (-5), 2) := by decide +kernel
theorem dX0_freeTags_28 : decode cX0_freeTags 28 = .ok (.if_icmp .ne 6, 3) := by decide +kernel
theorem dX0_freeTags_31 : decode cX0_freeTags 31 = .ok (.iinc 1 1, 3) := by decide +kernel
theorem dX0_freeTags_34 : decode cX0_freeTags 34 = .ok (.iinc 2 1, 3) := by decide +kernel
theorem dX0_freeTags_37 : decode cX0_freeTags 37 = .ok (.goto (-33), 3) := by decide +kernel
theorem dX0_freeTags_40 : decode cX0_freeTags 40 = .ok (.iload_n 1, 1) := by decide +kernel
theorem dX0_freeTags_41 : decode cX0_freeTags 41 = .ok (.ireturn, 1) := by decide +kernel
theorem dX0_lowestFreeTag_0 : decode cX0_lowestFreeTag 0 = .ok (.iconst 0, 1) := by decide +kernel
theorem dX0_lowestFreeTag_1 : decode cX0_lowestFreeTag 1 = .ok (.istore_n 1, 1) := by decide +kernel
theorem dX0_lowestFreeTag_2 : decode cX0_lowestFreeTag 2 = .ok (.iload_n 1, 1) := by decide +kernel
theorem dX0_lowestFreeTag_3 : decode cX0_lowestFreeTag 3 = .ok (.aload_n 0, 1) := by decide +kernel
theorem dX0_lowestFreeTag_4 : decode cX0_lowestFreeTag 4 = .ok (.getfield 9, 3) := by decide +kernel
theorem dX0_lowestFreeTag_7 : decode cX0_lowestFreeTag 7 = .ok (.iconst 0, 1) := by decide +kernel
theorem dX0_lowestFreeTag_8 : decode cX0_lowestFreeTag 8 = .ok (.iaload, 1) := by decide +kernel
theorem dX0_lowestFreeTag_9 : decode cX0_lowestFreeTag 9 = .ok (.if_icmp .ge 28, 3) := by decide +kernel
theorem dX0_lowestFreeTag_12 : decode cX0_lowestFreeTag 12 = .ok (.iload_n 1, 1) := by decide +kernel
theorem dX0_lowestFreeTag_13 : decode cX0_lowestFreeTag 13 = .ok (.bipush 8, 2) := by decide +kernel
theorem dX0_lowestFreeTag_15 : decode cX0_lowestFreeTag 15 = .ok (.if_icmp .ge 22, 3) := by decide +kernel
theorem dX0_lowestFreeTag_18 : decode cX0_lowestFreeTag 18 = .ok (.aload_n 0, 1) := by decide +kernel
theorem dX0_lowestFreeTag_19 : decode cX0_lowestFreeTag 19 = .ok (.getfield 15, 3) := by decide +kernel
theorem dX0_lowestFreeTag_22 : decode cX0_lowestFreeTag 22 = .ok (.iload_n 1, 1) := by decide +kernel
theorem dX0_lowestFreeTag_23 : decode cX0_lowestFreeTag 23 = .ok (.iaload, 1) := by decide +kernel
theorem dX0_lowestFreeTag_24 : decode cX0_lowestFreeTag 24 = .ok (.bipush (-5), 2) := by decide +kernel
theorem dX0_lowestFreeTag_26 : decode cX0_lowestFreeTag 26 = .ok (.if_icmp .ne 5, 3) := by decide +kernel
theorem dX0_lowestFreeTag_29 : decode cX0_lowestFreeTag 29 = .ok (.iload_n 1, 1) := by decide +kernel
theorem dX0_lowestFreeTag_30 : decode cX0_lowestFreeTag 30 = .ok (.ireturn, 1) := by decide +kernel
theorem dX0_lowestFreeTag_31 : decode cX0_lowestFreeTag 31 = .ok (.iinc 1 1, 3) := by decide +kernel
theorem dX0_lowestFreeTag_34 : decode cX0_lowestFreeTag 34 = .ok (.goto (-32), 3) := by decide +kernel
theorem dX0_lowestFreeTag_37 : decode cX0_lowestFreeTag 37 = .ok (.bipush (-5), 2) := by decide +kernel
theorem dX0_lowestFreeTag_39 : decode cX0_lowestFreeTag 39 = .ok (.ireturn, 1) := by decide +kernel
theorem dX0_put_0 : decode cX0_put 0 = .ok (.aload_n 0, 1) := by decide +kernel
theorem dX0_put_1 : decode cX0_put 1 = .ok (.iload_n 1, 1) := by decide +kernel
theorem dX0_put_2 : decode cX0_put 2 = .ok (.invokevirtual 90, 3) := by decide +kernel
theorem dX0_put_5 : decode cX0_put 5 = .ok (.astore 5, 2) := by decide +kernel
theorem dX0_put_7 : decode cX0_put 7 = .ok (.aload 5, 2) := by decide +kernel
theorem dX0_put_9 : decode cX0_put 9 = .ok (.ifnull 16, 3) := by decide +kernel
theorem dX0_put_12 : decode cX0_put 12 = .ok (.aload_n 0, 1) := by decide +kernel
theorem dX0_put_13 : decode cX0_put 13 = .ok (.getfield 56, 3) := by decide +kernel
theorem dX0_put_16 : decode cX0_put 16 = .ok (.sipush 200, 3) := by decide +kernel
theorem dX0_put_19 : decode cX0_put 19 = .ok (.invokestatic 86, 3) := by decide +kernel
theorem dX0_put_22 : decode cX0_put 22 = .ok (.ifCond .ne 6, 3) := by decide +kernel
theorem dX0_put_25 : decode cX0_put 25 = .ok (.bipush (-5), 2) := by decide +kernel
theorem dX0_put_27 : decode cX0_put 27 = .ok (.ireturn, 1) := by decide +kernel
theorem dX0_put_28 : decode cX0_put 28 = .ok (.aload_n 0, 1) := by decide +kernel
theorem dX0_put_29 : decode cX0_put 29 = .ok (.getfield 56, 3) := by decide +kernel
theorem dX0_put_32 : decode cX0_put 32 = .ok (.istore 6, 2) := by decide +kernel
theorem dX0_put_34 : decode cX0_put 34 = .ok (.aload_n 0, 1) := by decide +kernel
theorem dX0_put_35 : decode cX0_put 35 = .ok (.getfield 32, 3) := by decide +kernel
theorem dX0_put_38 : decode cX0_put 38 = .ok (.iload 6, 2) := by decide +kernel
theorem dX0_put_40 : decode cX0_put 40 = .ok (.aaload, 1) := by decide +kernel
theorem dX0_put_41 : decode cX0_put 41 = .ok (.iload_n 1, 1) := by decide +kernel
theorem dX0_put_42 : decode cX0_put 42 = .ok (.iload_n 2, 1) := by decide +kernel
theorem dX0_put_43 : decode cX0_put 43 = .ok (.iload_n 3, 1) := by decide +kernel
theorem dX0_put_44 : decode cX0_put 44 = .ok (.iload 4, 2) := by decide +kernel
theorem dX0_put_46 : decode cX0_put 46 = .ok (.aload_n 0, 1) := by decide +kernel
theorem dX0_put_47 : decode cX0_put 47 = .ok (.getfield 62, 3) := by decide +kernel
theorem dX0_put_50 : decode cX0_put 50 = .ok (.invokevirtual 94, 3) := by decide +kernel
theorem dX0_put_53 : decode cX0_put 53 = .ok (.aload_n 0, 1) := by decide +kernel
theorem dX0_put_54 : decode cX0_put 54 = .ok (.dup, 1) := by decide +kernel
theorem dX0_put_55 : decode cX0_put 55 = .ok (.getfield 56, 3) := by decide +kernel
theorem dX0_put_58 : decode cX0_put 58 = .ok (.iconst 1, 1) := by decide +kernel
theorem dX0_put_59 : decode cX0_put 59 = .ok (.iadd, 1) := by decide +kernel
theorem dX0_put_60 : decode cX0_put 60 = .ok (.putfield 56, 3) := by decide +kernel
theorem dX0_put_63 : decode cX0_put 63 = .ok (.aload 5, 2) := by decide +kernel
theorem dX0_put_65 : decode cX0_put 65 = .ok (.getfield 98, 3) := by decide +kernel
theorem dX0_put_68 : decode cX0_put 68 = .ok (.iload 6, 2) := by decide +kernel
theorem dX0_put_70 : decode cX0_put 70 = .ok (.invokevirtual 102, 3) := by decide +kernel
theorem dX0_put_73 : decode cX0_put 73 = .ok (.iload 6, 2) := by decide +kernel
theorem dX0_put_75 : decode cX0_put 75 = .ok (.ireturn, 1) := by decide +kernel
theorem dX0_takeLastOf_0 : decode cX0_takeLastOf 0 = .ok (.aload_n 1, 1) := by decide +kernel
theorem dX0_takeLastOf_1 : decode cX0_takeLastOf 1 = .ok (.getfield 98, 3) := by decide +kernel
theorem dX0_takeLastOf_4 : decode cX0_takeLastOf 4 = .ok (.getfield 108, 3) := by decide +kernel
theorem dX0_takeLastOf_7 : decode cX0_takeLastOf 7 = .ok (.iconst 1, 1) := by decide +kernel
theorem dX0_takeLastOf_8 : decode cX0_takeLastOf 8 = .ok (.isub, 1) := by decide +kernel
theorem dX0_takeLastOf_9 : decode cX0_takeLastOf 9 = .ok (.istore_n 2, 1) := by decide +kernel
theorem dX0_takeLastOf_10 : decode cX0_takeLastOf 10 = .ok (.aload_n 1, 1) := by decide +kernel
theorem dX0_takeLastOf_11 : decode cX0_takeLastOf 11 = .ok (.getfield 98, 3) := by decide +kernel
theorem dX0_takeLastOf_14 : decode cX0_takeLastOf 14 = .ok (.iload_n 2, 1) := by decide +kernel
theorem dX0_takeLastOf_15 : decode cX0_takeLastOf 15 = .ok (.invokevirtual 111, 3) := by decide +kernel
theorem dX0_takeLastOf_18 : decode cX0_takeLastOf 18 = .ok (.istore_n 3, 1) := by decide +kernel
theorem dX0_takeLastOf_19 : decode cX0_takeLastOf 19 = .ok (.aload_n 1, 1) := by decide +kernel
theorem dX0_takeLastOf_20 : decode cX0_takeLastOf 20 = .ok (.getfield 98, 3) := by decide +kernel
theorem dX0_takeLastOf_23 : decode cX0_takeLastOf 23 = .ok (.iload_n 2, 1) := by decide +kernel
theorem dX0_takeLastOf_24 : decode cX0_takeLastOf 24 = .ok (.invokevirtual 115, 3) := by decide +kernel
theorem dX0_takeLastOf_27 : decode cX0_takeLastOf 27 = .ok (.aload_n 1, 1) := by decide +kernel
theorem dX0_takeLastOf_28 : decode cX0_takeLastOf 28 = .ok (.getfield 98, 3) := by decide +kernel
theorem dX0_takeLastOf_31 : decode cX0_takeLastOf 31 = .ok (.getfield 108, 3) := by decide +kernel
theorem dX0_takeLastOf_34 : decode cX0_takeLastOf 34 = .ok (.ifCond .ne 8, 3) := by decide +kernel
theorem dX0_takeLastOf_37 : decode cX0_takeLastOf 37 = .ok (.aload_n 1, 1) := by decide +kernel
theorem dX0_takeLastOf_38 : decode cX0_takeLastOf 38 = .ok (.iconst 0, 1) := by decide +kernel
theorem dX0_takeLastOf_39 : decode cX0_takeLastOf 39 = .ok (.putfield 118, 3) := by decide +kernel
theorem dX0_takeLastOf_42 : decode cX0_takeLastOf 42 = .ok (.aload_n 0, 1) := by decide +kernel
theorem dX0_takeLastOf_43 : decode cX0_takeLastOf 43 = .ok (.iload_n 3, 1) := by decide +kernel
theorem dX0_takeLastOf_44 : decode cX0_takeLastOf 44 = .ok (.invokevirtual 121, 3) := by decide +kernel
theorem dX0_takeLastOf_47 : decode cX0_takeLastOf 47 = .ok (.astore 4, 2) := by decide +kernel
theorem dX0_takeLastOf_49 : decode cX0_takeLastOf 49 = .ok (.aload 4, 2) := by decide +kernel
theorem dX0_takeLastOf_51 : decode cX0_takeLastOf 51 = .ok (.ifnull 9, 3) := by decide +kernel
theorem dX0_takeLastOf_54 : decode cX0_takeLastOf 54 = .ok (.aload 4, 2) := by decide +kernel
theorem dX0_takeLastOf_56 : decode cX0_takeLastOf 56 = .ok (.iconst 4, 1) := by decide +kernel
theorem dX0_takeLastOf_57 : decode cX0_takeLastOf 57 = .ok (.putfield 125, 3) := by decide +kernel
theorem dX0_takeLastOf_60 : decode cX0_takeLastOf 60 = .ok (.iload_n 3, 1) := by decide +kernel
theorem dX0_takeLastOf_61 : decode cX0_takeLastOf 61 = .ok (.ireturn, 1) := by decide +kernel
theorem dX0_doneIn_0 : decode cX0_doneIn 0 = .ok (.iconst 0, 1) := by decide +kernel
theorem dX0_doneIn_1 : decode cX0_doneIn 1 = .ok (.istore_n 2, 1) := by decide +kernel
theorem dX0_doneIn_2 : decode cX0_doneIn 2 = .ok (.iconst 0, 1) := by decide +kernel
theorem dX0_doneIn_3 : decode cX0_doneIn 3 = .ok (.istore_n 3, 1) := by decide +kernel
theorem dX0_doneIn_4 : decode cX0_doneIn 4 = .ok (.iload_n 3, 1) := by decide +kernel
theorem dX0_doneIn_5 : decode cX0_doneIn 5 = .ok (.aload_n 1, 1) := by decide +kernel
theorem dX0_doneIn_6 : decode cX0_doneIn 6 = .ok (.getfield 128, 3) := by decide +kernel
theorem dX0_doneIn_9 : decode cX0_doneIn 9 = .ok (.getfield 108, 3) := by decide +kernel
theorem dX0_doneIn_12 : decode cX0_doneIn 12 = .ok (.if_icmp .ge 40, 3) := by decide +kernel
theorem dX0_doneIn_15 : decode cX0_doneIn 15 = .ok (.aload_n 0, 1) := by decide +kernel
theorem dX0_doneIn_16 : decode cX0_doneIn 16 = .ok (.aload_n 1, 1) := by decide +kernel
theorem dX0_doneIn_17 : decode cX0_doneIn 17 = .ok (.getfield 128, 3) := by decide +kernel
theorem dX0_doneIn_20 : decode cX0_doneIn 20 = .ok (.iload_n 3, 1) := by decide +kernel
theorem dX0_doneIn_21 : decode cX0_doneIn 21 = .ok (.invokevirtual 111, 3) := by decide +kernel
theorem dX0_doneIn_24 : decode cX0_doneIn 24 = .ok (.invokevirtual 121, 3) := by decide +kernel
theorem dX0_doneIn_27 : decode cX0_doneIn 27 = .ok (.astore 4, 2) := by decide +kernel
theorem dX0_doneIn_29 : decode cX0_doneIn 29 = .ok (.aload 4, 2) := by decide +kernel
theorem dX0_doneIn_31 : decode cX0_doneIn 31 = .ok (.ifnull 15, 3) := by decide +kernel
theorem dX0_doneIn_34 : decode cX0_doneIn 34 = .ok (.aload 4, 2) := by decide +kernel
theorem dX0_doneIn_36 : decode cX0_doneIn 36 = .ok (.getfield 125, 3) := by decide +kernel
theorem dX0_doneIn_39 : decode cX0_doneIn 39 = .ok (.iconst 2, 1) := by decide +kernel
theorem dX0_doneIn_40 : decode cX0_doneIn 40 = .ok (.if_icmp .ne 6, 3) := by decide +kernel
theorem dX0_doneIn_43 : decode cX0_doneIn 43 = .ok (.iinc 2 1, 3) := by decide +kernel
theorem dX0_doneIn_46 : decode cX0_doneIn 46 = .ok (.iinc 3 1, 3) := by decide +kernel
theorem dX0_doneIn_49 : decode cX0_doneIn 49 = .ok (.goto (-45), 3) := by decide +kernel
theorem dX0_doneIn_52 : decode cX0_doneIn 52 = .ok (.iload_n 2, 1) := by decide +kernel
theorem dX0_doneIn_53 : decode cX0_doneIn 53 = .ok (.ireturn, 1) := by decide +kernel
theorem dX0_isOutOfPatience_0 : decode cX0_isOutOfPatience 0 = .ok (.aload_n 1, 1) := by decide +kernel
theorem dX0_isOutOfPatience_1 : decode cX0_isOutOfPatience 1 = .ok (.getfield 118, 3) := by decide +kernel
theorem dX0_isOutOfPatience_4 : decode cX0_isOutOfPatience 4 = .ok (.aload_n 0, 1) := by decide +kernel
theorem dX0_isOutOfPatience_5 : decode cX0_isOutOfPatience 5 = .ok (.getfield 9, 3) := by decide +kernel
theorem dX0_isOutOfPatience_8 : decode cX0_isOutOfPatience 8 = .ok (.iconst 2, 1) := by decide +kernel
theorem dX0_isOutOfPatience_9 : decode cX0_isOutOfPatience 9 = .ok (.iaload, 1) := by decide +kernel
theorem dX0_isOutOfPatience_10 : decode cX0_isOutOfPatience 10 = .ok (.if_icmp .lt 7, 3) := by decide +kernel
theorem dX0_isOutOfPatience_13 : decode cX0_isOutOfPatience 13 = .ok (.iconst 1, 1) := by decide +kernel
theorem dX0_isOutOfPatience_14 : decode cX0_isOutOfPatience 14 = .ok (.goto 4, 3) := by decide +kernel
theorem dX0_isOutOfPatience_17 : decode cX0_isOutOfPatience 17 = .ok (.iconst 0, 1) := by decide +kernel
theorem dX0_isOutOfPatience_18 : decode cX0_isOutOfPatience 18 = .ok (.ireturn, 1) := by decide +kernel
theorem dX0_passTick_0 : decode cX0_passTick 0 = .ok (.aload_n 0, 1) := by decide +kernel
theorem dX0_passTick_1 : decode cX0_passTick 1 = .ok (.invokevirtual 131, 3) := by decide +kernel
theorem dX0_passTick_4 : decode cX0_passTick 4 = .ok (.aload_n 0, 1) := by decide +kernel
theorem dX0_passTick_5 : decode cX0_passTick 5 = .ok (.invokevirtual 134, 3) := by decide +kernel
theorem dX0_passTick_8 : decode cX0_passTick 8 = .ok (.istore_n 1, 1) := by decide +kernel
theorem dX0_passTick_9 : decode cX0_passTick 9 = .ok (.iload_n 1, 1) := by decide +kernel
theorem dX0_passTick_10 : decode cX0_passTick 10 = .ok (.bipush (-5), 2) := by decide +kernel
theorem dX0_passTick_12 : decode cX0_passTick 12 = .ok (.if_icmp .ne 13, 3) := by decide +kernel
theorem dX0_passTick_15 : decode cX0_passTick 15 = .ok (.aload_n 0, 1) := by decide +kernel
theorem dX0_passTick_16 : decode cX0_passTick 16 = .ok (.dup, 1) := by decide +kernel
theorem dX0_passTick_17 : decode cX0_passTick 17 = .ok (.getfield 80, 3) := by decide +kernel
theorem dX0_passTick_20 : decode cX0_passTick 20 = .ok (.iconst 1, 1) := by decide +kernel
theorem dX0_passTick_21 : decode cX0_passTick 21 = .ok (.iadd, 1) := by decide +kernel
theorem dX0_passTick_22 : decode cX0_passTick 22 = .ok (.putfield 80, 3) := by decide +kernel
theorem dX0_passTick_25 : decode cX0_passTick 25 = .ok (.aload_n 0, 1) := by decide +kernel
theorem dX0_passTick_26 : decode cX0_passTick 26 = .ok (.getfield 36, 3) := by decide +kernel
theorem dX0_passTick_29 : decode cX0_passTick 29 = .ok (.ifCond .ne 11, 3) := by decide +kernel
theorem dX0_passTick_32 : decode cX0_passTick 32 = .ok (.aload_n 0, 1) := by decide +kernel
theorem dX0_passTick_33 : decode cX0_passTick 33 = .ok (.iload_n 1, 1) := by decide +kernel
theorem dX0_passTick_34 : decode cX0_passTick 34 = .ok (.invokevirtual 121, 3) := by decide +kernel
theorem dX0_passTick_37 : decode cX0_passTick 37 = .ok (.goto 4, 3) := by decide +kernel
theorem dX0_passTick_40 : decode cX0_passTick 40 = .ok (.aconst_null, 1) := by decide +kernel
theorem dX0_passTick_41 : decode cX0_passTick 41 = .ok (.astore_n 2, 1) := by decide +kernel
theorem dX0_passTick_42 : decode cX0_passTick 42 = .ok (.aload_n 0, 1) := by decide +kernel
theorem dX0_passTick_43 : decode cX0_passTick 43 = .ok (.aload_n 2, 1) := by decide +kernel
theorem dX0_passTick_44 : decode cX0_passTick 44 = .ok (.ifnonnull 8, 3) := by decide +kernel
theorem dX0_passTick_47 : decode cX0_passTick 47 = .ok (.bipush (-5), 2) := by decide +kernel
theorem dX0_passTick_49 : decode cX0_passTick 49 = .ok (.goto 7, 3) := by decide +kernel
theorem dX0_passTick_52 : decode cX0_passTick 52 = .ok (.aload_n 2, 1) := by decide +kernel
theorem dX0_passTick_53 : decode cX0_passTick 53 = .ok (.getfield 138, 3) := by decide +kernel
theorem dX0_passTick_56 : decode cX0_passTick 56 = .ok (.invokevirtual 141, 3) := by decide +kernel
theorem dX0_passTick_59 : decode cX0_passTick 59 = .ok (.aload_n 0, 1) := by decide +kernel
theorem dX0_passTick_60 : decode cX0_passTick 60 = .ok (.dup, 1) := by decide +kernel
theorem dX0_passTick_61 : decode cX0_passTick 61 = .ok (.getfield 62, 3) := by decide +kernel
theorem dX0_passTick_64 : decode cX0_passTick 64 = .ok (.iconst 1, 1) := by decide +kernel
theorem dX0_passTick_65 : decode cX0_passTick 65 = .ok (.iadd, 1) := by decide +kernel
theorem dX0_passTick_66 : decode cX0_passTick 66 = .ok (.putfield 62, 3) := by decide +kernel
theorem dX0_passTick_69 : decode cX0_passTick 69 = .ok (.iload_n 1, 1) := by decide +kernel
theorem dX0_passTick_70 : decode cX0_passTick 70 = .ok (.ireturn, 1) := by decide +kernel
theorem dX0_finishQuestions_0 : decode cX0_finishQuestions 0 = .ok (.aload_n 0, 1) := by decide +kernel
theorem dX0_finishQuestions_1 : decode cX0_finishQuestions 1 = .ok (.getfield 26, 3) := by decide +kernel
theorem dX0_finishQuestions_4 : decode cX0_finishQuestions 4 = .ok (.astore_n 1, 1) := by decide +kernel
theorem dX0_finishQuestions_5 : decode cX0_finishQuestions 5 = .ok (.aload_n 1, 1) := by decide +kernel
theorem dX0_finishQuestions_6 : decode cX0_finishQuestions 6 = .ok (.arraylength, 1) := by decide +kernel
theorem dX0_finishQuestions_7 : decode cX0_finishQuestions 7 = .ok (.istore_n 2, 1) := by decide +kernel
theorem dX0_finishQuestions_8 : decode cX0_finishQuestions 8 = .ok (.iconst 0, 1) := by decide +kernel
theorem dX0_finishQuestions_9 : decode cX0_finishQuestions 9 = .ok (.istore_n 3, 1) := by decide +kernel
theorem dX0_finishQuestions_10 : decode cX0_finishQuestions 10 = .ok (.iload_n 3, 1) := by decide +kernel
theorem dX0_finishQuestions_11 : decode cX0_finishQuestions 11 = .ok (.iload_n 2, 1) := by decide +kernel
theorem dX0_finishQuestions_12 : decode cX0_finishQuestions 12 = .ok (.if_icmp .ge 104, 3) := by decide +kernel
theorem dX0_finishQuestions_15 : decode cX0_finishQuestions 15 = .ok (.aload_n 1, 1) := by decide +kernel
theorem dX0_finishQuestions_16 : decode cX0_finishQuestions 16 = .ok (.iload_n 3, 1) := by decide +kernel
theorem dX0_finishQuestions_17 : decode cX0_finishQuestions 17 = .ok (.aaload, 1) := by decide +kernel
theorem dX0_finishQuestions_18 : decode cX0_finishQuestions 18 = .ok (.astore 4, 2) := by decide +kernel
theorem dX0_finishQuestions_20 : decode cX0_finishQuestions 20 = .ok (.iconst 0, 1) := by decide +kernel
theorem dX0_finishQuestions_21 : decode cX0_finishQuestions 21 = .ok (.istore 5, 2) := by decide +kernel
theorem dX0_finishQuestions_23 : decode cX0_finishQuestions 23 = .ok (.iload 5, 2) := by decide +kernel
theorem dX0_finishQuestions_25 : decode cX0_finishQuestions 25 = .ok (.aload 4, 2) := by decide +kernel
theorem dX0_finishQuestions_27 : decode cX0_finishQuestions 27 = .ok (.getfield 128, 3) := by decide +kernel
theorem dX0_finishQuestions_30 : decode cX0_finishQuestions 30 = .ok (.getfield 108, 3) := by decide +kernel
theorem dX0_finishQuestions_33 : decode cX0_finishQuestions 33 = .ok (.if_icmp .ge 77, 3) := by decide +kernel
theorem dX0_finishQuestions_36 : decode cX0_finishQuestions 36 = .ok (.aload_n 0, 1) := by decide +kernel
theorem dX0_finishQuestions_37 : decode cX0_finishQuestions 37 = .ok (.aload 4, 2) := by decide +kernel
theorem dX0_finishQuestions_39 : decode cX0_finishQuestions 39 = .ok (.getfield 128, 3) := by decide +kernel
theorem dX0_finishQuestions_42 : decode cX0_finishQuestions 42 = .ok (.iload 5, 2) := by decide +kernel
theorem dX0_finishQuestions_44 : decode cX0_finishQuestions 44 = .ok (.invokevirtual 111, 3) := by decide +kernel
theorem dX0_finishQuestions_47 : decode cX0_finishQuestions 47 = .ok (.invokevirtual 121, 3) := by decide +kernel
theorem dX0_finishQuestions_50 : decode cX0_finishQuestions 50 = .ok (.astore 6, 2) := by decide +kernel
theorem dX0_finishQuestions_52 : decode cX0_finishQuestions 52 = .ok (.aload 6, 2) := by decide +kernel
theorem dX0_finishQuestions_54 : decode cX0_finishQuestions 54 = .ok (.ifnull 50, 3) := by decide +kernel
theorem dX0_finishQuestions_57 : decode cX0_finishQuestions 57 = .ok (.aload 6, 2) := by decide +kernel
theorem dX0_finishQuestions_59 : decode cX0_finishQuestions 59 = .ok (.getfield 125, 3) := by decide +kernel
theorem dX0_finishQuestions_62 : decode cX0_finishQuestions 62 = .ok (.iconst 1, 1) := by decide +kernel
theorem dX0_finishQuestions_63 : decode cX0_finishQuestions 63 = .ok (.if_icmp .ne 41, 3) := by decide +kernel
theorem dX0_finishQuestions_66 : decode cX0_finishQuestions 66 = .ok (.aload 6, 2) := by decide +kernel
theorem dX0_finishQuestions_68 : decode cX0_finishQuestions 68 = .ok (.getfield 144, 3) := by decide +kernel
theorem dX0_finishQuestions_71 : decode cX0_finishQuestions 71 = .ok (.aload_n 0, 1) := by decide +kernel
theorem dX0_finishQuestions_72 : decode cX0_finishQuestions 72 = .ok (.getfield 62, 3) := by decide +kernel
theorem dX0_finishQuestions_75 : decode cX0_finishQuestions 75 = .ok (.if_icmp .ne 29, 3) := by decide +kernel
theorem dX0_finishQuestions_78 : decode cX0_finishQuestions 78 = .ok (.aload 6, 2) := by decide +kernel
theorem dX0_finishQuestions_80 : decode cX0_finishQuestions 80 = .ok (.aload 4, 2) := by decide +kernel
theorem dX0_finishQuestions_82 : decode cX0_finishQuestions 82 = .ok (.aload 6, 2) := by decide +kernel
theorem dX0_finishQuestions_84 : decode cX0_finishQuestions 84 = .ok (.getfield 147, 3) := by decide +kernel
theorem dX0_finishQuestions_87 : decode cX0_finishQuestions 87 = .ok (.aload 6, 2) := by decide +kernel
theorem dX0_finishQuestions_89 : decode cX0_finishQuestions 89 = .ok (.getfield 150, 3) := by decide +kernel
theorem dX0_finishQuestions_92 : decode cX0_finishQuestions 92 = .ok (.invokevirtual 153, 3) := by decide +kernel
theorem dX0_finishQuestions_95 : decode cX0_finishQuestions 95 = .ok (.putfield 157, 3) := by decide +kernel
theorem dX0_finishQuestions_98 : decode cX0_finishQuestions 98 = .ok (.aload 6, 2) := by decide +kernel
theorem dX0_finishQuestions_100 : decode cX0_finishQuestions 100 = .ok (.iconst 2, 1) := by decide +kernel
theorem dX0_finishQuestions_101 : decode cX0_finishQuestions 101 = .ok (.putfield 125, 3) := by decide +kernel
theorem dX0_finishQuestions_104 : decode cX0_finishQuestions 104 = .ok (.iinc 5 1, 3) := by decide +kernel
theorem dX0_finishQuestions_107 : decode cX0_finishQuestions 107 = .ok (.goto (-84), 3) := by decide +kernel
theorem dX0_finishQuestions_110 : decode cX0_finishQuestions 110 = .ok (.iinc 3 1, 3) := by decide +kernel
theorem dX0_finishQuestions_113 : decode cX0_finishQuestions 113 = .ok (.goto (-103), 3) := by decide +kernel
theorem dX0_finishQuestions_116 : decode cX0_finishQuestions 116 = .ok (.return_, 1) := by decide +kernel
theorem dX0_makeTrip_0 : decode cX0_makeTrip 0 = .ok (.aload_n 0, 1) := by decide +kernel
theorem dX0_makeTrip_1 : decode cX0_makeTrip 1 = .ok (.invokevirtual 160, 3) := by decide +kernel
theorem dX0_makeTrip_4 : decode cX0_makeTrip 4 = .ok (.istore_n 1, 1) := by decide +kernel
theorem dX0_makeTrip_5 : decode cX0_makeTrip 5 = .ok (.aload_n 0, 1) := by decide +kernel
theorem dX0_makeTrip_6 : decode cX0_makeTrip 6 = .ok (.invokevirtual 163, 3) := by decide +kernel
theorem dX0_makeTrip_9 : decode cX0_makeTrip 9 = .ok (.istore_n 2, 1) := by decide +kernel
theorem dX0_makeTrip_10 : decode cX0_makeTrip 10 = .ok (.iload_n 1, 1) := by decide +kernel
theorem dX0_makeTrip_11 : decode cX0_makeTrip 11 = .ok (.bipush (-5), 2) := by decide +kernel
theorem dX0_makeTrip_13 : decode cX0_makeTrip 13 = .ok (.if_icmp .eq 22, 3) := by decide +kernel
theorem dX0_makeTrip_16 : decode cX0_makeTrip 16 = .ok (.iload_n 2, 1) := by decide +kernel
theorem dX0_makeTrip_17 : decode cX0_makeTrip 17 = .ok (.bipush (-5), 2) := by decide +kernel
theorem dX0_makeTrip_19 : decode cX0_makeTrip 19 = .ok (.if_icmp .eq 10, 3) := by decide +kernel
theorem dX0_makeTrip_22 : decode cX0_makeTrip 22 = .ok (.aload_n 0, 1) := by decide +kernel
theorem dX0_makeTrip_23 : decode cX0_makeTrip 23 = .ok (.invokevirtual 166, 3) := by decide +kernel
theorem dX0_makeTrip_26 : decode cX0_makeTrip 26 = .ok (.ifCond .eq 9, 3) := by decide +kernel
theorem dX0_makeTrip_29 : decode cX0_makeTrip 29 = .ok (.aload_n 0, 1) := by decide +kernel
theorem dX0_makeTrip_30 : decode cX0_makeTrip 30 = .ok (.iload_n 1, 1) := by decide +kernel
theorem dX0_makeTrip_31 : decode cX0_makeTrip 31 = .ok (.invokevirtual 170, 3) := by decide +kernel
theorem dX0_makeTrip_34 : decode cX0_makeTrip 34 = .ok (.ireturn, 1) := by decide +kernel
theorem dX0_makeTrip_35 : decode cX0_makeTrip 35 = .ok (.iload_n 2, 1) := by decide +kernel
theorem dX0_makeTrip_36 : decode cX0_makeTrip 36 = .ok (.bipush (-5), 2) := by decide +kernel
theorem dX0_makeTrip_38 : decode cX0_makeTrip 38 = .ok (.if_icmp .ne 8, 3) := by decide +kernel
theorem dX0_makeTrip_41 : decode cX0_makeTrip 41 = .ok (.bipush (-5), 2) := by decide +kernel
theorem dX0_makeTrip_43 : decode cX0_makeTrip 43 = .ok (.goto 8, 3) := by decide +kernel
theorem dX0_makeTrip_46 : decode cX0_makeTrip 46 = .ok (.aload_n 0, 1) := by decide +kernel
theorem dX0_makeTrip_47 : decode cX0_makeTrip 47 = .ok (.iload_n 2, 1) := by decide +kernel
theorem dX0_makeTrip_48 : decode cX0_makeTrip 48 = .ok (.invokevirtual 173, 3) := by decide +kernel
theorem dX0_makeTrip_51 : decode cX0_makeTrip 51 = .ok (.ireturn, 1) := by decide +kernel
theorem dX0_prefersAnswer_0 : decode cX0_prefersAnswer 0 = .ok (.aload_n 0, 1) := by decide +kernel
theorem dX0_prefersAnswer_1 : decode cX0_prefersAnswer 1 = .ok (.getfield 9, 3) := by decide +kernel
theorem dX0_prefersAnswer_4 : decode cX0_prefersAnswer 4 = .ok (.iconst 1, 1) := by decide +kernel
theorem dX0_prefersAnswer_5 : decode cX0_prefersAnswer 5 = .ok (.iaload, 1) := by decide +kernel
theorem dX0_prefersAnswer_6 : decode cX0_prefersAnswer 6 = .ok (.istore_n 1, 1) := by decide +kernel
theorem dX0_prefersAnswer_7 : decode cX0_prefersAnswer 7 = .ok (.iload_n 1, 1) := by decide +kernel
theorem dX0_prefersAnswer_8 : decode cX0_prefersAnswer 8 = .ok (.ifCond .eq 8, 3) := by decide +kernel
theorem dX0_prefersAnswer_11 : decode cX0_prefersAnswer 11 = .ok (.iload_n 1, 1) := by decide +kernel
theorem dX0_prefersAnswer_12 : decode cX0_prefersAnswer 12 = .ok (.iconst 1, 1) := by decide +kernel
theorem dX0_prefersAnswer_13 : decode cX0_prefersAnswer 13 = .ok (.if_icmp .ne 13, 3) := by decide +kernel
theorem dX0_prefersAnswer_16 : decode cX0_prefersAnswer 16 = .ok (.iload_n 1, 1) := by decide +kernel
theorem dX0_prefersAnswer_17 : decode cX0_prefersAnswer 17 = .ok (.ifCond .ne 7, 3) := by decide +kernel
theorem dX0_prefersAnswer_20 : decode cX0_prefersAnswer 20 = .ok (.iconst 1, 1) := by decide +kernel
theorem dX0_prefersAnswer_21 : decode cX0_prefersAnswer 21 = .ok (.goto 4, 3) := by decide +kernel
theorem dX0_prefersAnswer_24 : decode cX0_prefersAnswer 24 = .ok (.iconst 0, 1) := by decide +kernel
theorem dX0_prefersAnswer_25 : decode cX0_prefersAnswer 25 = .ok (.ireturn, 1) := by decide +kernel
theorem dX0_prefersAnswer_26 : decode cX0_prefersAnswer 26 = .ok (.aload_n 0, 1) := by decide +kernel
theorem dX0_prefersAnswer_27 : decode cX0_prefersAnswer 27 = .ok (.getfield 36, 3) := by decide +kernel
theorem dX0_prefersAnswer_30 : decode cX0_prefersAnswer 30 = .ok (.ifCond .eq 11, 3) := by decide +kernel
theorem dX0_prefersAnswer_33 : decode cX0_prefersAnswer 33 = .ok (.aload_n 0, 1) := by decide +kernel
theorem dX0_prefersAnswer_34 : decode cX0_prefersAnswer 34 = .ok (.getfield 36, 3) := by decide +kernel
theorem dX0_prefersAnswer_37 : decode cX0_prefersAnswer 37 = .ok (.iconst 2, 1) := by decide +kernel
theorem dX0_prefersAnswer_38 : decode cX0_prefersAnswer 38 = .ok (.if_icmp .ne 7, 3) := by decide +kernel
theorem dX0_prefersAnswer_41 : decode cX0_prefersAnswer 41 = .ok (.iconst 1, 1) := by decide +kernel
theorem dX0_prefersAnswer_42 : decode cX0_prefersAnswer 42 = .ok (.goto 4, 3) := by decide +kernel
theorem dX0_prefersAnswer_45 : decode cX0_prefersAnswer 45 = .ok (.iconst 0, 1) := by decide +kernel
theorem dX0_prefersAnswer_46 : decode cX0_prefersAnswer 46 = .ok (.ireturn, 1) := by decide +kernel
theorem dX0_targetThatAnswers_0 : decode cX0_targetThatAnswers 0 = .ok (.iconst 0, 1) := by decide +kernel
theorem dX0_targetThatAnswers_1 : decode cX0_targetThatAnswers 1 = .ok (.istore_n 1, 1) := by decide +kernel
theorem dX0_targetThatAnswers_2 : decode cX0_targetThatAnswers 2 = .ok (.iload_n 1, 1) := by decide +kernel
theorem dX0_targetThatAnswers_3 : decode cX0_targetThatAnswers 3 = .ok (.iconst 4, 1) := by decide +kernel
theorem dX0_targetThatAnswers_4 : decode cX0_targetThatAnswers 4 = .ok (.if_icmp .ge 40, 3) := by decide +kernel
theorem dX0_targetThatAnswers_7 : decode cX0_targetThatAnswers 7 = .ok (.aload_n 0, 1) := by decide +kernel
theorem dX0_targetThatAnswers_8 : decode cX0_targetThatAnswers 8 = .ok (.getfield 68, 3) := by decide +kernel
theorem dX0_targetThatAnswers_11 : decode cX0_targetThatAnswers 11 = .ok (.iload_n 1, 1) := by decide +kernel
theorem dX0_targetThatAnswers_12 : decode cX0_targetThatAnswers 12 = .ok (.iadd, 1) := by decide +kernel
theorem dX0_targetThatAnswers_13 : decode cX0_targetThatAnswers 13 = .ok (.iconst 4, 1) := by decide +kernel
theorem dX0_targetThatAnswers_14 : decode cX0_targetThatAnswers 14 = .ok (.irem, 1) := by decide +kernel
theorem dX0_targetThatAnswers_15 : decode cX0_targetThatAnswers 15 = .ok (.istore_n 2, 1) := by decide +kernel
theorem dX0_targetThatAnswers_16 : decode cX0_targetThatAnswers 16 = .ok (.aload_n 0, 1) := by decide +kernel
theorem dX0_targetThatAnswers_17 : decode cX0_targetThatAnswers 17 = .ok (.iload_n 2, 1) := by decide +kernel
theorem dX0_targetThatAnswers_18 : decode cX0_targetThatAnswers 18 = .ok (.invokevirtual 176, 3) := by decide +kernel
theorem dX0_targetThatAnswers_21 : decode cX0_targetThatAnswers 21 = .ok (.astore_n 3, 1) := by decide +kernel
theorem dX0_targetThatAnswers_22 : decode cX0_targetThatAnswers 22 = .ok (.aload_n 3, 1) := by decide +kernel
theorem dX0_targetThatAnswers_23 : decode cX0_targetThatAnswers 23 = .ok (.ifnull 15, 3) := by decide +kernel
theorem dX0_targetThatAnswers_26 : decode cX0_targetThatAnswers 26 = .ok (.aload_n 0, 1) := by decide +kernel
theorem dX0_targetThatAnswers_27 : decode cX0_targetThatAnswers 27 = .ok (.aload_n 3, 1) := by decide +kernel
theorem dX0_targetThatAnswers_28 : decode cX0_targetThatAnswers 28 = .ok (.invokevirtual 180, 3) := by decide +kernel
theorem dX0_targetThatAnswers_31 : decode cX0_targetThatAnswers 31 = .ok (.bipush (-5), 2) := by decide +kernel
theorem dX0_targetThatAnswers_33 : decode cX0_targetThatAnswers 33 = .ok (.if_icmp .eq 5, 3) := by decide +kernel
theorem dX0_targetThatAnswers_36 : decode cX0_targetThatAnswers 36 = .ok (.iload_n 2, 1) := by decide +kernel
theorem dX0_targetThatAnswers_37 : decode cX0_targetThatAnswers 37 = .ok (.ireturn, 1) := by decide +kernel
theorem dX0_targetThatAnswers_38 : decode cX0_targetThatAnswers 38 = .ok (.iinc 1 1, 3) := by decide +kernel
theorem dX0_targetThatAnswers_41 : decode cX0_targetThatAnswers 41 = .ok (.goto (-39), 3) := by decide +kernel
theorem dX0_targetThatAnswers_44 : decode cX0_targetThatAnswers 44 = .ok (.bipush (-5), 2) := by decide +kernel
theorem dX0_targetThatAnswers_46 : decode cX0_targetThatAnswers 46 = .ok (.ireturn, 1) := by decide +kernel
theorem dX0_placeOfAnswer_0 : decode cX0_placeOfAnswer 0 = .ok (.aload_n 1, 1) := by decide +kernel
theorem dX0_placeOfAnswer_1 : decode cX0_placeOfAnswer 1 = .ok (.getfield 184, 3) := by decide +kernel
theorem dX0_placeOfAnswer_4 : decode cX0_placeOfAnswer 4 = .ok (.iconst 2, 1) := by decide +kernel
theorem dX0_placeOfAnswer_5 : decode cX0_placeOfAnswer 5 = .ok (.iaload, 1) := by decide +kernel
theorem dX0_placeOfAnswer_6 : decode cX0_placeOfAnswer 6 = .ok (.ifCond .ne 7, 3) := by decide +kernel
theorem dX0_placeOfAnswer_9 : decode cX0_placeOfAnswer 9 = .ok (.iconst 1, 1) := by decide +kernel
theorem dX0_placeOfAnswer_10 : decode cX0_placeOfAnswer 10 = .ok (.goto 4, 3) := by decide +kernel
theorem dX0_placeOfAnswer_13 : decode cX0_placeOfAnswer 13 = .ok (.iconst 0, 1) := by decide +kernel
theorem dX0_placeOfAnswer_14 : decode cX0_placeOfAnswer 14 = .ok (.istore_n 2, 1) := by decide +kernel
theorem dX0_placeOfAnswer_15 : decode cX0_placeOfAnswer 15 = .ok (.iload_n 2, 1) := by decide +kernel
theorem dX0_placeOfAnswer_16 : decode cX0_placeOfAnswer 16 = .ok (.ifCond .eq 17, 3) := by decide +kernel
theorem dX0_placeOfAnswer_19 : decode cX0_placeOfAnswer 19 = .ok (.iconst 1, 1) := by decide +kernel
theorem dX0_placeOfAnswer_20 : decode cX0_placeOfAnswer 20 = .ok (.aload_n 1, 1) := by decide +kernel
theorem dX0_placeOfAnswer_21 : decode cX0_placeOfAnswer 21 = .ok (.getfield 128, 3) := by decide +kernel
theorem dX0_placeOfAnswer_24 : decode cX0_placeOfAnswer 24 = .ok (.getfield 108, 3) := by decide +kernel
theorem dX0_placeOfAnswer_27 : decode cX0_placeOfAnswer 27 = .ok (.invokestatic 187, 3) := by decide +kernel
theorem dX0_placeOfAnswer_30 : decode cX0_placeOfAnswer 30 = .ok (.goto 10, 3) := by decide +kernel
theorem dX0_placeOfAnswer_33 : decode cX0_placeOfAnswer 33 = .ok (.aload_n 1, 1) := by decide +kernel
theorem dX0_placeOfAnswer_34 : decode cX0_placeOfAnswer 34 = .ok (.getfield 128, 3) := by decide +kernel
theorem dX0_placeOfAnswer_37 : decode cX0_placeOfAnswer 37 = .ok (.getfield 108, 3) := by decide +kernel
theorem dX0_placeOfAnswer_40 : decode cX0_placeOfAnswer 40 = .ok (.istore_n 3, 1) := by decide +kernel
theorem dX0_placeOfAnswer_41 : decode cX0_placeOfAnswer 41 = .ok (.bipush (-5), 2) := by decide +kernel
theorem dX0_placeOfAnswer_43 : decode cX0_placeOfAnswer 43 = .ok (.istore 4, 2) := by decide +kernel
theorem dX0_placeOfAnswer_45 : decode cX0_placeOfAnswer 45 = .ok (.iconst 0, 1) := by decide +kernel
theorem dX0_placeOfAnswer_46 : decode cX0_placeOfAnswer 46 = .ok (.istore 5, 2) := by decide +kernel
theorem dX0_placeOfAnswer_48 : decode cX0_placeOfAnswer 48 = .ok (.iconst 0, 1) := by decide +kernel
theorem dX0_placeOfAnswer_49 : decode cX0_placeOfAnswer 49 = .ok (.istore 6, 2) := by decide +kernel
theorem dX0_placeOfAnswer_51 : decode cX0_placeOfAnswer 51 = .ok (.iload 6, 2) := by decide +kernel
theorem dX0_placeOfAnswer_53 : decode cX0_placeOfAnswer 53 = .ok (.iload_n 3, 1) := by decide +kernel
theorem dX0_placeOfAnswer_54 : decode cX0_placeOfAnswer 54 = .ok (.if_icmp .ge 66, 3) := by decide +kernel
theorem dX0_placeOfAnswer_57 : decode cX0_placeOfAnswer 57 = .ok (.aload_n 0, 1) := by decide +kernel
theorem dX0_placeOfAnswer_58 : decode cX0_placeOfAnswer 58 = .ok (.aload_n 1, 1) := by decide +kernel
theorem dX0_placeOfAnswer_59 : decode cX0_placeOfAnswer 59 = .ok (.getfield 128, 3) := by decide +kernel
theorem dX0_placeOfAnswer_62 : decode cX0_placeOfAnswer 62 = .ok (.iload 6, 2) := by decide +kernel
theorem dX0_placeOfAnswer_64 : decode cX0_placeOfAnswer 64 = .ok (.invokevirtual 111, 3) := by decide +kernel
theorem dX0_placeOfAnswer_67 : decode cX0_placeOfAnswer 67 = .ok (.invokevirtual 121, 3) := by decide +kernel
theorem dX0_placeOfAnswer_70 : decode cX0_placeOfAnswer 70 = .ok (.astore 7, 2) := by decide +kernel
theorem dX0_placeOfAnswer_72 : decode cX0_placeOfAnswer 72 = .ok (.aload 7, 2) := by decide +kernel
theorem dX0_placeOfAnswer_74 : decode cX0_placeOfAnswer 74 = .ok (.ifnull 40, 3) := by decide +kernel
theorem dX0_placeOfAnswer_77 : decode cX0_placeOfAnswer 77 = .ok (.aload 7, 2) := by decide +kernel
theorem dX0_placeOfAnswer_79 : decode cX0_placeOfAnswer 79 = .ok (.getfield 125, 3) := by decide +kernel
theorem dX0_placeOfAnswer_82 : decode cX0_placeOfAnswer 82 = .ok (.iconst 2, 1) := by decide +kernel
theorem dX0_placeOfAnswer_83 : decode cX0_placeOfAnswer 83 = .ok (.if_icmp .ne 31, 3) := by decide +kernel
theorem dX0_placeOfAnswer_86 : decode cX0_placeOfAnswer 86 = .ok (.iload 4, 2) := by decide +kernel
theorem dX0_placeOfAnswer_88 : decode cX0_placeOfAnswer 88 = .ok (.bipush (-5), 2) := by decide +kernel
theorem dX0_placeOfAnswer_90 : decode cX0_placeOfAnswer 90 = .ok (.if_icmp .eq 13, 3) := by decide +kernel
theorem dX0_placeOfAnswer_93 : decode cX0_placeOfAnswer 93 = .ok (.aload 7, 2) := by decide +kernel
theorem dX0_placeOfAnswer_95 : decode cX0_placeOfAnswer 95 = .ok (.getfield 144, 3) := by decide +kernel
theorem dX0_placeOfAnswer_98 : decode cX0_placeOfAnswer 98 = .ok (.iload 5, 2) := by decide +kernel
theorem dX0_placeOfAnswer_100 : decode cX0_placeOfAnswer 100 = .ok (.if_icmp .ge 14, 3) := by decide +kernel
theorem dX0_placeOfAnswer_103 : decode cX0_placeOfAnswer 103 = .ok (.iload 6, 2) := by decide +kernel
theorem dX0_placeOfAnswer_105 : decode cX0_placeOfAnswer 105 = .ok (.istore 4, 2) := by decide +kernel
theorem dX0_placeOfAnswer_107 : decode cX0_placeOfAnswer 107 = .ok (.aload 7, 2) := by decide +kernel
theorem dX0_placeOfAnswer_109 : decode cX0_placeOfAnswer 109 = .ok (.getfield 144, 3) := by decide +kernel
theorem dX0_placeOfAnswer_112 : decode cX0_placeOfAnswer 112 = .ok (.istore 5, 2) := by decide +kernel
theorem dX0_placeOfAnswer_114 : decode cX0_placeOfAnswer 114 = .ok (.iinc 6 1, 3) := by decide +kernel
theorem dX0_placeOfAnswer_117 : decode cX0_placeOfAnswer 117 = .ok (.goto (-66), 3) := by decide +kernel
theorem dX0_placeOfAnswer_120 : decode cX0_placeOfAnswer 120 = .ok (.iload 4, 2) := by decide +kernel
theorem dX0_placeOfAnswer_122 : decode cX0_placeOfAnswer 122 = .ok (.ireturn, 1) := by decide +kernel
theorem dX0_masterThatSends_0 : decode cX0_masterThatSends 0 = .ok (.aload_n 0, 1) := by decide +kernel
theorem dX0_masterThatSends_1 : decode cX0_masterThatSends 1 = .ok (.invokevirtual 192, 3) := by decide +kernel
theorem dX0_masterThatSends_4 : decode cX0_masterThatSends 4 = .ok (.bipush (-5), 2) := by decide +kernel
theorem dX0_masterThatSends_6 : decode cX0_masterThatSends 6 = .ok (.if_icmp .ne 6, 3) := by decide +kernel
theorem dX0_masterThatSends_9 : decode cX0_masterThatSends 9 = .ok (.bipush (-5), 2) := by decide +kernel
theorem dX0_masterThatSends_11 : decode cX0_masterThatSends 11 = .ok (.ireturn, 1) := by decide +kernel
theorem dX0_masterThatSends_12 : decode cX0_masterThatSends 12 = .ok (.aload_n 0, 1) := by decide +kernel
theorem dX0_masterThatSends_13 : decode cX0_masterThatSends 13 = .ok (.invokevirtual 195, 3) := by decide +kernel
theorem dX0_masterThatSends_16 : decode cX0_masterThatSends 16 = .ok (.istore_n 1, 1) := by decide +kernel
theorem dX0_masterThatSends_17 : decode cX0_masterThatSends 17 = .ok (.iload_n 1, 1) := by decide +kernel
theorem dX0_masterThatSends_18 : decode cX0_masterThatSends 18 = .ok (.bipush (-5), 2) := by decide +kernel
theorem dX0_masterThatSends_20 : decode cX0_masterThatSends 20 = .ok (.if_icmp .eq 5, 3) := by decide +kernel
theorem dX0_masterThatSends_23 : decode cX0_masterThatSends 23 = .ok (.iload_n 1, 1) := by decide +kernel
theorem dX0_masterThatSends_24 : decode cX0_masterThatSends 24 = .ok (.ireturn, 1) := by decide +kernel
theorem dX0_masterThatSends_25 : decode cX0_masterThatSends 25 = .ok (.iconst 0, 1) := by decide +kernel
theorem dX0_masterThatSends_26 : decode cX0_masterThatSends 26 = .ok (.istore_n 2, 1) := by decide +kernel
theorem dX0_masterThatSends_27 : decode cX0_masterThatSends 27 = .ok (.iload_n 2, 1) := by decide +kernel
theorem dX0_masterThatSends_28 : decode cX0_masterThatSends 28 = .ok (.iconst 4, 1) := by decide +kernel
theorem dX0_masterThatSends_29 : decode cX0_masterThatSends 29 = .ok (.if_icmp .ge 41, 3) := by decide +kernel
theorem dX0_masterThatSends_32 : decode cX0_masterThatSends 32 = .ok (.aload_n 0, 1) := by decide +kernel
theorem dX0_masterThatSends_33 : decode cX0_masterThatSends 33 = .ok (.getfield 65, 3) := by decide +kernel
theorem dX0_masterThatSends_36 : decode cX0_masterThatSends 36 = .ok (.iload_n 2, 1) := by decide +kernel
theorem dX0_masterThatSends_37 : decode cX0_masterThatSends 37 = .ok (.iadd, 1) := by decide +kernel
theorem dX0_masterThatSends_38 : decode cX0_masterThatSends 38 = .ok (.iconst 4, 1) := by decide +kernel
theorem dX0_masterThatSends_39 : decode cX0_masterThatSends 39 = .ok (.irem, 1) := by decide +kernel
theorem dX0_masterThatSends_40 : decode cX0_masterThatSends 40 = .ok (.istore_n 3, 1) := by decide +kernel
theorem dX0_masterThatSends_41 : decode cX0_masterThatSends 41 = .ok (.aload_n 0, 1) := by decide +kernel
theorem dX0_masterThatSends_42 : decode cX0_masterThatSends 42 = .ok (.iload_n 3, 1) := by decide +kernel
theorem dX0_masterThatSends_43 : decode cX0_masterThatSends 43 = .ok (.invokevirtual 90, 3) := by decide +kernel
theorem dX0_masterThatSends_46 : decode cX0_masterThatSends 46 = .ok (.astore 4, 2) := by decide +kernel
theorem dX0_masterThatSends_48 : decode cX0_masterThatSends 48 = .ok (.aload 4, 2) := by decide +kernel
theorem dX0_masterThatSends_50 : decode cX0_masterThatSends 50 = .ok (.ifnull 14, 3) := by decide +kernel
theorem dX0_masterThatSends_53 : decode cX0_masterThatSends 53 = .ok (.aload_n 0, 1) := by decide +kernel
theorem dX0_masterThatSends_54 : decode cX0_masterThatSends 54 = .ok (.aload 4, 2) := by decide +kernel
theorem dX0_masterThatSends_56 : decode cX0_masterThatSends 56 = .ok (.invokevirtual 198, 3) := by decide +kernel
theorem dX0_masterThatSends_59 : decode cX0_masterThatSends 59 = .ok (.ifCond .eq 5, 3) := by decide +kernel
theorem dX0_masterThatSends_62 : decode cX0_masterThatSends 62 = .ok (.iload_n 3, 1) := by decide +kernel
theorem dX0_masterThatSends_63 : decode cX0_masterThatSends 63 = .ok (.ireturn, 1) := by decide +kernel
theorem dX0_masterThatSends_64 : decode cX0_masterThatSends 64 = .ok (.iinc 2 1, 3) := by decide +kernel
theorem dX0_masterThatSends_67 : decode cX0_masterThatSends 67 = .ok (.goto (-40), 3) := by decide +kernel
theorem dX0_masterThatSends_70 : decode cX0_masterThatSends 70 = .ok (.bipush (-5), 2) := by decide +kernel
theorem dX0_masterThatSends_72 : decode cX0_masterThatSends 72 = .ok (.ireturn, 1) := by decide +kernel
theorem dX0_masterThatWaitedTooLong_0 : decode cX0_masterThatWaitedTooLong 0 = .ok (.bipush (-5), 2) := by decide +kernel
theorem dX0_masterThatWaitedTooLong_2 : decode cX0_masterThatWaitedTooLong 2 = .ok (.istore_n 1, 1) := by decide +kernel
theorem dX0_masterThatWaitedTooLong_3 : decode cX0_masterThatWaitedTooLong 3 = .ok (.iconst 0, 1) := by decide +kernel
theorem dX0_masterThatWaitedTooLong_4 : decode cX0_masterThatWaitedTooLong 4 = .ok (.istore_n 2, 1) := by decide +kernel
theorem dX0_masterThatWaitedTooLong_5 : decode cX0_masterThatWaitedTooLong 5 = .ok (.iconst 0, 1) := by decide +kernel
theorem dX0_masterThatWaitedTooLong_6 : decode cX0_masterThatWaitedTooLong 6 = .ok (.istore_n 3, 1) := by decide +kernel
theorem dX0_masterThatWaitedTooLong_7 : decode cX0_masterThatWaitedTooLong 7 = .ok (.iload_n 3, 1) := by decide +kernel
theorem dX0_masterThatWaitedTooLong_8 : decode cX0_masterThatWaitedTooLong 8 = .ok (.iconst 4, 1) := by decide +kernel
theorem dX0_masterThatWaitedTooLong_9 : decode cX0_masterThatWaitedTooLong 9 = .ok (.if_icmp .ge 62, 3) := by decide +kernel
theorem dX0_masterThatWaitedTooLong_12 : decode cX0_masterThatWaitedTooLong 12 = .ok (.aload_n 0, 1) := by decide +kernel
theorem dX0_masterThatWaitedTooLong_13 : decode cX0_masterThatWaitedTooLong 13 = .ok (.iload_n 3, 1) := by decide +kernel
theorem dX0_masterThatWaitedTooLong_14 : decode cX0_masterThatWaitedTooLong 14 = .ok (.invokevirtual 90, 3) := by decide +kernel
theorem dX0_masterThatWaitedTooLong_17 : decode cX0_masterThatWaitedTooLong 17 = .ok (.astore 4, 2) := by decide +kernel
theorem dX0_masterThatWaitedTooLong_19 : decode cX0_masterThatWaitedTooLong 19 = .ok (.aload 4, 2) := by decide +kernel
theorem dX0_masterThatWaitedTooLong_21 : decode cX0_masterThatWaitedTooLong 21 = .ok (.ifnull 44, 3) := by decide +kernel
theorem dX0_masterThatWaitedTooLong_24 : decode cX0_masterThatWaitedTooLong 24 = .ok (.aload_n 0, 1) := by decide +kernel
theorem dX0_masterThatWaitedTooLong_25 : decode cX0_masterThatWaitedTooLong 25 = .ok (.aload 4, 2) := by decide +kernel
theorem dX0_masterThatWaitedTooLong_27 : decode cX0_masterThatWaitedTooLong 27 = .ok (.invokevirtual 198, 3) := by decide +kernel
theorem dX0_masterThatWaitedTooLong_30 : decode cX0_masterThatWaitedTooLong 30 = .ok (.ifCond .eq 35, 3) := by decide +kernel
theorem dX0_masterThatWaitedTooLong_33 : decode cX0_masterThatWaitedTooLong 33 = .ok (.aload_n 0, 1) := by decide +kernel
theorem dX0_masterThatWaitedTooLong_34 : decode cX0_masterThatWaitedTooLong 34 = .ok (.aload 4, 2) := by decide +kernel
theorem dX0_masterThatWaitedTooLong_36 : decode cX0_masterThatWaitedTooLong 36 = .ok (.invokevirtual 202, 3) := by decide +kernel
theorem dX0_masterThatWaitedTooLong_39 : decode cX0_masterThatWaitedTooLong 39 = .ok (.ifCond .eq 26, 3) := by decide +kernel
theorem dX0_masterThatWaitedTooLong_42 : decode cX0_masterThatWaitedTooLong 42 = .ok (.iload_n 1, 1) := by decide +kernel
theorem dX0_masterThatWaitedTooLong_43 : decode cX0_masterThatWaitedTooLong 43 = .ok (.bipush (-5), 2) := by decide +kernel
theorem dX0_masterThatWaitedTooLong_45 : decode cX0_masterThatWaitedTooLong 45 = .ok (.if_icmp .eq 12, 3) := by decide +kernel
theorem dX0_masterThatWaitedTooLong_48 : decode cX0_masterThatWaitedTooLong 48 = .ok (.aload 4, 2) := by decide +kernel
theorem dX0_masterThatWaitedTooLong_50 : decode cX0_masterThatWaitedTooLong 50 = .ok (.getfield 118, 3) := by decide +kernel
theorem dX0_masterThatWaitedTooLong_53 : decode cX0_masterThatWaitedTooLong 53 = .ok (.iload_n 2, 1) := by decide +kernel
theorem dX0_masterThatWaitedTooLong_54 : decode cX0_masterThatWaitedTooLong 54 = .ok (.if_icmp .le 11, 3) := by decide +kernel
theorem dX0_masterThatWaitedTooLong_57 : decode cX0_masterThatWaitedTooLong 57 = .ok (.iload_n 3, 1) := by decide +kernel
theorem dX0_masterThatWaitedTooLong_58 : decode cX0_masterThatWaitedTooLong 58 = .ok (.istore_n 1, 1) := by decide +kernel
theorem dX0_masterThatWaitedTooLong_59 : decode cX0_masterThatWaitedTooLong 59 = .ok (.aload 4, 2) := by decide +kernel
theorem dX0_masterThatWaitedTooLong_61 : decode cX0_masterThatWaitedTooLong 61 = .ok (.getfield 118, 3) := by decide +kernel
theorem dX0_masterThatWaitedTooLong_64 : decode cX0_masterThatWaitedTooLong 64 = .ok (.istore_n 2, 1) := by decide +kernel
theorem dX0_masterThatWaitedTooLong_65 : decode cX0_masterThatWaitedTooLong 65 = .ok (.iinc 3 1, 3) := by decide +kernel
theorem dX0_masterThatWaitedTooLong_68 : decode cX0_masterThatWaitedTooLong 68 = .ok (.goto (-61), 3) := by decide +kernel
theorem dX0_masterThatWaitedTooLong_71 : decode cX0_masterThatWaitedTooLong 71 = .ok (.iload_n 1, 1) := by decide +kernel
theorem dX0_masterThatWaitedTooLong_72 : decode cX0_masterThatWaitedTooLong 72 = .ok (.ireturn, 1) := by decide +kernel
theorem dX0_maySend_0 : decode cX0_maySend 0 = .ok (.aload_n 1, 1) := by decide +kernel
theorem dX0_maySend_1 : decode cX0_maySend 1 = .ok (.getfield 98, 3) := by decide +kernel
theorem dX0_maySend_4 : decode cX0_maySend 4 = .ok (.getfield 108, 3) := by decide +kernel
theorem dX0_maySend_7 : decode cX0_maySend 7 = .ok (.ifCond .le 29, 3) := by decide +kernel
theorem dX0_maySend_10 : decode cX0_maySend 10 = .ok (.aload_n 0, 1) := by decide +kernel
theorem dX0_maySend_11 : decode cX0_maySend 11 = .ok (.getfield 62, 3) := by decide +kernel
theorem dX0_maySend_14 : decode cX0_maySend 14 = .ok (.aload_n 1, 1) := by decide +kernel
theorem dX0_maySend_15 : decode cX0_maySend 15 = .ok (.getfield 205, 3) := by decide +kernel
theorem dX0_maySend_18 : decode cX0_maySend 18 = .ok (.if_icmp .lt 18, 3) := by decide +kernel
theorem dX0_maySend_21 : decode cX0_maySend 21 = .ok (.aload_n 1, 1) := by decide +kernel
theorem dX0_maySend_22 : decode cX0_maySend 22 = .ok (.getfield 208, 3) := by decide +kernel
theorem dX0_maySend_25 : decode cX0_maySend 25 = .ok (.aload_n 1, 1) := by decide +kernel
theorem dX0_maySend_26 : decode cX0_maySend 26 = .ok (.getfield 211, 3) := by decide +kernel
theorem dX0_maySend_29 : decode cX0_maySend 29 = .ok (.if_icmp .ge 7, 3) := by decide +kernel
theorem dX0_maySend_32 : decode cX0_maySend 32 = .ok (.iconst 1, 1) := by decide +kernel
theorem dX0_maySend_33 : decode cX0_maySend 33 = .ok (.goto 4, 3) := by decide +kernel
theorem dX0_maySend_36 : decode cX0_maySend 36 = .ok (.iconst 0, 1) := by decide +kernel
theorem dX0_maySend_37 : decode cX0_maySend 37 = .ok (.ireturn, 1) := by decide +kernel
theorem dX0_sendQuestionOf_0 : decode cX0_sendQuestionOf 0 = .ok (.aload_n 0, 1) := by decide +kernel
theorem dX0_sendQuestionOf_1 : decode cX0_sendQuestionOf 1 = .ok (.iload_n 1, 1) := by decide +kernel
theorem dX0_sendQuestionOf_2 : decode cX0_sendQuestionOf 2 = .ok (.invokevirtual 90, 3) := by decide +kernel
theorem dX0_sendQuestionOf_5 : decode cX0_sendQuestionOf 5 = .ok (.astore_n 2, 1) := by decide +kernel
theorem dX0_sendQuestionOf_6 : decode cX0_sendQuestionOf 6 = .ok (.aload_n 2, 1) := by decide +kernel
theorem dX0_sendQuestionOf_7 : decode cX0_sendQuestionOf 7 = .ok (.ifnonnull 8, 3) := by decide +kernel
theorem dX0_sendQuestionOf_10 : decode cX0_sendQuestionOf 10 = .ok (.bipush (-5), 2) := by decide +kernel
theorem dX0_sendQuestionOf_12 : decode cX0_sendQuestionOf 12 = .ok (.goto 11, 3) := by decide +kernel
theorem dX0_sendQuestionOf_15 : decode cX0_sendQuestionOf 15 = .ok (.aload_n 2, 1) := by decide +kernel
theorem dX0_sendQuestionOf_16 : decode cX0_sendQuestionOf 16 = .ok (.getfield 98, 3) := by decide +kernel
theorem dX0_sendQuestionOf_19 : decode cX0_sendQuestionOf 19 = .ok (.iconst 0, 1) := by decide +kernel
theorem dX0_sendQuestionOf_20 : decode cX0_sendQuestionOf 20 = .ok (.invokevirtual 111, 3) := by decide +kernel
theorem dX0_sendQuestionOf_23 : decode cX0_sendQuestionOf 23 = .ok (.istore_n 3, 1) := by decide +kernel
theorem dX0_sendQuestionOf_24 : decode cX0_sendQuestionOf 24 = .ok (.aload_n 0, 1) := by decide +kernel
theorem dX0_sendQuestionOf_25 : decode cX0_sendQuestionOf 25 = .ok (.iload_n 3, 1) := by decide +kernel
theorem dX0_sendQuestionOf_26 : decode cX0_sendQuestionOf 26 = .ok (.invokevirtual 121, 3) := by decide +kernel
theorem dX0_sendQuestionOf_29 : decode cX0_sendQuestionOf 29 = .ok (.astore 4, 2) := by decide +kernel
theorem dX0_sendQuestionOf_31 : decode cX0_sendQuestionOf 31 = .ok (.aload 4, 2) := by decide +kernel
theorem dX0_sendQuestionOf_33 : decode cX0_sendQuestionOf 33 = .ok (.ifnonnull 7, 3) := by decide +kernel
theorem dX0_sendQuestionOf_36 : decode cX0_sendQuestionOf 36 = .ok (.aconst_null, 1) := by decide +kernel
theorem dX0_sendQuestionOf_37 : decode cX0_sendQuestionOf 37 = .ok (.goto 12, 3) := by decide +kernel
theorem dX0_sendQuestionOf_40 : decode cX0_sendQuestionOf 40 = .ok (.aload_n 0, 1) := by decide +kernel
theorem dX0_sendQuestionOf_41 : decode cX0_sendQuestionOf 41 = .ok (.aload 4, 2) := by decide +kernel
theorem dX0_sendQuestionOf_43 : decode cX0_sendQuestionOf 43 = .ok (.getfield 214, 3) := by decide +kernel
theorem dX0_sendQuestionOf_46 : decode cX0_sendQuestionOf 46 = .ok (.invokevirtual 176, 3) := by decide +kernel
theorem dX0_sendQuestionOf_49 : decode cX0_sendQuestionOf 49 = .ok (.astore 5, 2) := by decide +kernel
theorem dX0_sendQuestionOf_51 : decode cX0_sendQuestionOf 51 = .ok (.aload 5, 2) := by decide +kernel
theorem dX0_sendQuestionOf_53 : decode cX0_sendQuestionOf 53 = .ok (.ifnonnull 6, 3) := by decide +kernel
theorem dX0_sendQuestionOf_56 : decode cX0_sendQuestionOf 56 = .ok (.bipush (-5), 2) := by decide +kernel
theorem dX0_sendQuestionOf_58 : decode cX0_sendQuestionOf 58 = .ok (.ireturn, 1) := by decide +kernel
theorem dX0_sendQuestionOf_59 : decode cX0_sendQuestionOf 59 = .ok (.aload_n 0, 1) := by decide +kernel
theorem dX0_sendQuestionOf_60 : decode cX0_sendQuestionOf 60 = .ok (.iload_n 1, 1) := by decide +kernel
theorem dX0_sendQuestionOf_61 : decode cX0_sendQuestionOf 61 = .ok (.iconst 1, 1) := by decide +kernel
theorem dX0_sendQuestionOf_62 : decode cX0_sendQuestionOf 62 = .ok (.iadd, 1) := by decide +kernel
theorem dX0_sendQuestionOf_63 : decode cX0_sendQuestionOf 63 = .ok (.iconst 4, 1) := by decide +kernel
theorem dX0_sendQuestionOf_64 : decode cX0_sendQuestionOf 64 = .ok (.irem, 1) := by decide +kernel
theorem dX0_sendQuestionOf_65 : decode cX0_sendQuestionOf 65 = .ok (.putfield 65, 3) := by decide +kernel
theorem dX0_sendQuestionOf_68 : decode cX0_sendQuestionOf 68 = .ok (.aload 5, 2) := by decide +kernel
theorem dX0_sendQuestionOf_70 : decode cX0_sendQuestionOf 70 = .ok (.invokevirtual 217, 3) := by decide +kernel
theorem dX0_sendQuestionOf_73 : decode cX0_sendQuestionOf 73 = .ok (.ifCond .eq 13, 3) := by decide +kernel
theorem dX0_sendQuestionOf_76 : decode cX0_sendQuestionOf 76 = .ok (.aload_n 0, 1) := by decide +kernel
theorem dX0_sendQuestionOf_77 : decode cX0_sendQuestionOf 77 = .ok (.aload_n 2, 1) := by decide +kernel
theorem dX0_sendQuestionOf_78 : decode cX0_sendQuestionOf 78 = .ok (.aload 4, 2) := by decide +kernel
theorem dX0_sendQuestionOf_80 : decode cX0_sendQuestionOf 80 = .ok (.invokevirtual 220, 3) := by decide +kernel
theorem dX0_sendQuestionOf_83 : decode cX0_sendQuestionOf 83 = .ok (.goto 11, 3) := by decide +kernel
theorem dX0_sendQuestionOf_86 : decode cX0_sendQuestionOf 86 = .ok (.aload_n 0, 1) := by decide +kernel
theorem dX0_sendQuestionOf_87 : decode cX0_sendQuestionOf 87 = .ok (.aload_n 2, 1) := by decide +kernel
theorem dX0_sendQuestionOf_88 : decode cX0_sendQuestionOf 88 = .ok (.aload 5, 2) := by decide +kernel
theorem dX0_sendQuestionOf_90 : decode cX0_sendQuestionOf 90 = .ok (.iload_n 3, 1) := by decide +kernel
theorem dX0_sendQuestionOf_91 : decode cX0_sendQuestionOf 91 = .ok (.invokevirtual 224, 3) := by decide +kernel
theorem dX0_sendQuestionOf_94 : decode cX0_sendQuestionOf 94 = .ok (.iload_n 3, 1) := by decide +kernel
theorem dX0_sendQuestionOf_95 : decode cX0_sendQuestionOf 95 = .ok (.ireturn, 1) := by decide +kernel
theorem dX0_refuse_0 : decode cX0_refuse 0 = .ok (.aload_n 2, 1) := by decide +kernel
theorem dX0_refuse_1 : decode cX0_refuse 1 = .ok (.dup, 1) := by decide +kernel
theorem dX0_refuse_2 : decode cX0_refuse 2 = .ok (.getfield 228, 3) := by decide +kernel
theorem dX0_refuse_5 : decode cX0_refuse 5 = .ok (.iconst 1, 1) := by decide +kernel
theorem dX0_refuse_6 : decode cX0_refuse 6 = .ok (.iadd, 1) := by decide +kernel
theorem dX0_refuse_7 : decode cX0_refuse 7 = .ok (.putfield 228, 3) := by decide +kernel
theorem dX0_refuse_10 : decode cX0_refuse 10 = .ok (.aload_n 1, 1) := by decide +kernel
theorem dX0_refuse_11 : decode cX0_refuse 11 = .ok (.dup, 1) := by decide +kernel
theorem dX0_refuse_12 : decode cX0_refuse 12 = .ok (.getfield 231, 3) := by decide +kernel
theorem dX0_refuse_15 : decode cX0_refuse 15 = .ok (.iconst 1, 1) := by decide +kernel
theorem dX0_refuse_16 : decode cX0_refuse 16 = .ok (.iadd, 1) := by decide +kernel
theorem dX0_refuse_17 : decode cX0_refuse 17 = .ok (.putfield 231, 3) := by decide +kernel
theorem dX0_refuse_20 : decode cX0_refuse 20 = .ok (.aload_n 1, 1) := by decide +kernel
theorem dX0_refuse_21 : decode cX0_refuse 21 = .ok (.getfield 231, 3) := by decide +kernel
theorem dX0_refuse_24 : decode cX0_refuse 24 = .ok (.iconst 4, 1) := by decide +kernel
theorem dX0_refuse_25 : decode cX0_refuse 25 = .ok (.if_icmp .lt 8, 3) := by decide +kernel
theorem dX0_refuse_28 : decode cX0_refuse 28 = .ok (.bipush 16, 2) := by decide +kernel
theorem dX0_refuse_30 : decode cX0_refuse 30 = .ok (.goto 9, 3) := by decide +kernel
theorem dX0_refuse_33 : decode cX0_refuse 33 = .ok (.iconst 1, 1) := by decide +kernel
theorem dX0_refuse_34 : decode cX0_refuse 34 = .ok (.aload_n 1, 1) := by decide +kernel
theorem dX0_refuse_35 : decode cX0_refuse 35 = .ok (.getfield 231, 3) := by decide +kernel
theorem dX0_refuse_38 : decode cX0_refuse 38 = .ok (.ishl, 1) := by decide +kernel
theorem dX0_refuse_39 : decode cX0_refuse 39 = .ok (.istore_n 3, 1) := by decide +kernel
theorem dX0_refuse_40 : decode cX0_refuse 40 = .ok (.aload_n 1, 1) := by decide +kernel
theorem dX0_refuse_41 : decode cX0_refuse 41 = .ok (.aload_n 0, 1) := by decide +kernel
theorem dX0_refuse_42 : decode cX0_refuse 42 = .ok (.getfield 62, 3) := by decide +kernel
theorem dX0_refuse_45 : decode cX0_refuse 45 = .ok (.iconst 1, 1) := by decide +kernel
theorem dX0_refuse_46 : decode cX0_refuse 46 = .ok (.iadd, 1) := by decide +kernel
theorem dX0_refuse_47 : decode cX0_refuse 47 = .ok (.iload_n 3, 1) := by decide +kernel
theorem dX0_refuse_48 : decode cX0_refuse 48 = .ok (.iadd, 1) := by decide +kernel
theorem dX0_refuse_49 : decode cX0_refuse 49 = .ok (.putfield 205, 3) := by decide +kernel
theorem dX0_refuse_52 : decode cX0_refuse 52 = .ok (.aload_n 0, 1) := by decide +kernel
theorem dX0_refuse_53 : decode cX0_refuse 53 = .ok (.dup, 1) := by decide +kernel
theorem dX0_refuse_54 : decode cX0_refuse 54 = .ok (.getfield 77, 3) := by decide +kernel
theorem dX0_refuse_57 : decode cX0_refuse 57 = .ok (.iconst 1, 1) := by decide +kernel
theorem dX0_refuse_58 : decode cX0_refuse 58 = .ok (.iadd, 1) := by decide +kernel
theorem dX0_refuse_59 : decode cX0_refuse 59 = .ok (.putfield 77, 3) := by decide +kernel
theorem dX0_refuse_62 : decode cX0_refuse 62 = .ok (.aload_n 0, 1) := by decide +kernel
theorem dX0_refuse_63 : decode cX0_refuse 63 = .ok (.iconst 2, 1) := by decide +kernel
theorem dX0_refuse_64 : decode cX0_refuse 64 = .ok (.putfield 36, 3) := by decide +kernel
theorem dX0_refuse_67 : decode cX0_refuse 67 = .ok (.return_, 1) := by decide +kernel
theorem dX0_letIn_0 : decode cX0_letIn 0 = .ok (.aload_n 0, 1) := by decide +kernel
theorem dX0_letIn_1 : decode cX0_letIn 1 = .ok (.iload_n 3, 1) := by decide +kernel
theorem dX0_letIn_2 : decode cX0_letIn 2 = .ok (.invokevirtual 121, 3) := by decide +kernel
theorem dX0_letIn_5 : decode cX0_letIn 5 = .ok (.astore 4, 2) := by decide +kernel
theorem dX0_letIn_7 : decode cX0_letIn 7 = .ok (.aload_n 0, 1) := by decide +kernel
theorem dX0_letIn_8 : decode cX0_letIn 8 = .ok (.invokevirtual 192, 3) := by decide +kernel
theorem dX0_letIn_11 : decode cX0_letIn 11 = .ok (.istore 5, 2) := by decide +kernel
theorem dX0_letIn_13 : decode cX0_letIn 13 = .ok (.aload 4, 2) := by decide +kernel
theorem dX0_letIn_15 : decode cX0_letIn 15 = .ok (.ifnull 13, 3) := by decide +kernel
theorem dX0_letIn_18 : decode cX0_letIn 18 = .ok (.iload 5, 2) := by decide +kernel
theorem dX0_letIn_20 : decode cX0_letIn 20 = .ok (.bipush 8, 2) := by decide +kernel
theorem dX0_letIn_22 : decode cX0_letIn 22 = .ok (.invokestatic 86, 3) := by decide +kernel
theorem dX0_letIn_25 : decode cX0_letIn 25 = .ok (.ifCond .ne 4, 3) := by decide +kernel
theorem dX0_letIn_28 : decode cX0_letIn 28 = .ok (.return_, 1) := by decide +kernel
theorem dX0_letIn_29 : decode cX0_letIn 29 = .ok (.aload_n 1, 1) := by decide +kernel
theorem dX0_letIn_30 : decode cX0_letIn 30 = .ok (.getfield 98, 3) := by decide +kernel
theorem dX0_letIn_33 : decode cX0_letIn 33 = .ok (.iconst 0, 1) := by decide +kernel
theorem dX0_letIn_34 : decode cX0_letIn 34 = .ok (.invokevirtual 115, 3) := by decide +kernel
theorem dX0_letIn_37 : decode cX0_letIn 37 = .ok (.aload_n 1, 1) := by decide +kernel
theorem dX0_letIn_38 : decode cX0_letIn 38 = .ok (.iconst 0, 1) := by decide +kernel
theorem dX0_letIn_39 : decode cX0_letIn 39 = .ok (.putfield 231, 3) := by decide +kernel
theorem dX0_letIn_42 : decode cX0_letIn 42 = .ok (.aload_n 1, 1) := by decide +kernel
theorem dX0_letIn_43 : decode cX0_letIn 43 = .ok (.dup, 1) := by decide +kernel
theorem dX0_letIn_44 : decode cX0_letIn 44 = .ok (.getfield 208, 3) := by decide +kernel
theorem dX0_letIn_47 : decode cX0_letIn 47 = .ok (.iconst 1, 1) := by decide +kernel
theorem dX0_letIn_48 : decode cX0_letIn 48 = .ok (.iadd, 1) := by decide +kernel
theorem dX0_letIn_49 : decode cX0_letIn 49 = .ok (.putfield 208, 3) := by decide +kernel
theorem dX0_letIn_52 : decode cX0_letIn 52 = .ok (.aload_n 0, 1) := by decide +kernel
theorem dX0_letIn_53 : decode cX0_letIn 53 = .ok (.getfield 15, 3) := by decide +kernel
theorem dX0_letIn_56 : decode cX0_letIn 56 = .ok (.iload 5, 2) := by decide +kernel
theorem dX0_letIn_58 : decode cX0_letIn 58 = .ok (.iload_n 3, 1) := by decide +kernel
theorem dX0_letIn_59 : decode cX0_letIn 59 = .ok (.iastore, 1) := by decide +kernel
theorem dX0_letIn_60 : decode cX0_letIn 60 = .ok (.aload 4, 2) := by decide +kernel
theorem dX0_letIn_62 : decode cX0_letIn 62 = .ok (.iload 5, 2) := by decide +kernel
theorem dX0_letIn_64 : decode cX0_letIn 64 = .ok (.putfield 232, 3) := by decide +kernel
theorem dX0_letIn_67 : decode cX0_letIn 67 = .ok (.aload 4, 2) := by decide +kernel
theorem dX0_letIn_69 : decode cX0_letIn 69 = .ok (.iconst 1, 1) := by decide +kernel
theorem dX0_letIn_70 : decode cX0_letIn 70 = .ok (.putfield 125, 3) := by decide +kernel
theorem dX0_letIn_73 : decode cX0_letIn 73 = .ok (.aload 4, 2) := by decide +kernel
theorem dX0_letIn_75 : decode cX0_letIn 75 = .ok (.aload_n 0, 1) := by decide +kernel
theorem dX0_letIn_76 : decode cX0_letIn 76 = .ok (.getfield 62, 3) := by decide +kernel
theorem dX0_letIn_79 : decode cX0_letIn 79 = .ok (.aload_n 2, 1) := by decide +kernel
theorem dX0_letIn_80 : decode cX0_letIn 80 = .ok (.getfield 184, 3) := by decide +kernel
theorem dX0_letIn_83 : decode cX0_letIn 83 = .ok (.iconst 1, 1) := by decide +kernel
theorem dX0_letIn_84 : decode cX0_letIn 84 = .ok (.iaload, 1) := by decide +kernel
theorem dX0_letIn_85 : decode cX0_letIn 85 = .ok (.iadd, 1) := by decide +kernel
theorem dX0_letIn_86 : decode cX0_letIn 86 = .ok (.aload 4, 2) := by decide +kernel
theorem dX0_letIn_88 : decode cX0_letIn 88 = .ok (.getfield 147, 3) := by decide +kernel
theorem dX0_letIn_91 : decode cX0_letIn 91 = .ok (.iconst 4, 1) := by decide +kernel
theorem dX0_letIn_92 : decode cX0_letIn 92 = .ok (.irem, 1) := by decide +kernel
theorem dX0_letIn_93 : decode cX0_letIn 93 = .ok (.iadd, 1) := by decide +kernel
theorem dX0_letIn_94 : decode cX0_letIn 94 = .ok (.putfield 144, 3) := by decide +kernel
theorem dX0_letIn_97 : decode cX0_letIn 97 = .ok (.aload_n 2, 1) := by decide +kernel
theorem dX0_letIn_98 : decode cX0_letIn 98 = .ok (.getfield 128, 3) := by decide +kernel
theorem dX0_letIn_101 : decode cX0_letIn 101 = .ok (.iload_n 3, 1) := by decide +kernel
theorem dX0_letIn_102 : decode cX0_letIn 102 = .ok (.invokevirtual 102, 3) := by decide +kernel
theorem dX0_letIn_105 : decode cX0_letIn 105 = .ok (.aload_n 0, 1) := by decide +kernel
theorem dX0_letIn_106 : decode cX0_letIn 106 = .ok (.dup, 1) := by decide +kernel
theorem dX0_letIn_107 : decode cX0_letIn 107 = .ok (.getfield 74, 3) := by decide +kernel
theorem dX0_letIn_110 : decode cX0_letIn 110 = .ok (.iconst 1, 1) := by decide +kernel
theorem dX0_letIn_111 : decode cX0_letIn 111 = .ok (.iadd, 1) := by decide +kernel
theorem dX0_letIn_112 : decode cX0_letIn 112 = .ok (.putfield 74, 3) := by decide +kernel
theorem dX0_letIn_115 : decode cX0_letIn 115 = .ok (.aload_n 0, 1) := by decide +kernel
theorem dX0_letIn_116 : decode cX0_letIn 116 = .ok (.iconst 0, 1) := by decide +kernel
theorem dX0_letIn_117 : decode cX0_letIn 117 = .ok (.putfield 36, 3) := by decide +kernel
theorem dX0_letIn_120 : decode cX0_letIn 120 = .ok (.return_, 1) := by decide +kernel
theorem dX0_sendAnswerOf_0 : decode cX0_sendAnswerOf 0 = .ok (.aload_n 0, 1) := by decide +kernel
theorem dX0_sendAnswerOf_1 : decode cX0_sendAnswerOf 1 = .ok (.iload_n 1, 1) := by decide +kernel
theorem dX0_sendAnswerOf_2 : decode cX0_sendAnswerOf 2 = .ok (.invokevirtual 176, 3) := by decide +kernel
theorem dX0_sendAnswerOf_5 : decode cX0_sendAnswerOf 5 = .ok (.astore_n 2, 1) := by decide +kernel
theorem dX0_sendAnswerOf_6 : decode cX0_sendAnswerOf 6 = .ok (.aload_n 2, 1) := by decide +kernel
theorem dX0_sendAnswerOf_7 : decode cX0_sendAnswerOf 7 = .ok (.ifnonnull 8, 3) := by decide +kernel
theorem dX0_sendAnswerOf_10 : decode cX0_sendAnswerOf 10 = .ok (.bipush (-5), 2) := by decide +kernel
theorem dX0_sendAnswerOf_12 : decode cX0_sendAnswerOf 12 = .ok (.goto 8, 3) := by decide +kernel
theorem dX0_sendAnswerOf_15 : decode cX0_sendAnswerOf 15 = .ok (.aload_n 0, 1) := by decide +kernel
theorem dX0_sendAnswerOf_16 : decode cX0_sendAnswerOf 16 = .ok (.aload_n 2, 1) := by decide +kernel
theorem dX0_sendAnswerOf_17 : decode cX0_sendAnswerOf 17 = .ok (.invokevirtual 180, 3) := by decide +kernel
theorem dX0_sendAnswerOf_20 : decode cX0_sendAnswerOf 20 = .ok (.istore_n 3, 1) := by decide +kernel
theorem dX0_sendAnswerOf_21 : decode cX0_sendAnswerOf 21 = .ok (.aload_n 2, 1) := by decide +kernel
theorem dX0_sendAnswerOf_22 : decode cX0_sendAnswerOf 22 = .ok (.ifnonnull 8, 3) := by decide +kernel
theorem dX0_sendAnswerOf_25 : decode cX0_sendAnswerOf 25 = .ok (.bipush (-5), 2) := by decide +kernel
theorem dX0_sendAnswerOf_27 : decode cX0_sendAnswerOf 27 = .ok (.goto 11, 3) := by decide +kernel
theorem dX0_sendAnswerOf_30 : decode cX0_sendAnswerOf 30 = .ok (.aload_n 2, 1) := by decide +kernel
theorem dX0_sendAnswerOf_31 : decode cX0_sendAnswerOf 31 = .ok (.getfield 128, 3) := by decide +kernel
theorem dX0_sendAnswerOf_34 : decode cX0_sendAnswerOf 34 = .ok (.iload_n 3, 1) := by decide +kernel
theorem dX0_sendAnswerOf_35 : decode cX0_sendAnswerOf 35 = .ok (.invokevirtual 111, 3) := by decide +kernel
theorem dX0_sendAnswerOf_38 : decode cX0_sendAnswerOf 38 = .ok (.istore 4, 2) := by decide +kernel
theorem dX0_sendAnswerOf_40 : decode cX0_sendAnswerOf 40 = .ok (.aload_n 0, 1) := by decide +kernel
theorem dX0_sendAnswerOf_41 : decode cX0_sendAnswerOf 41 = .ok (.iload 4, 2) := by decide +kernel
theorem dX0_sendAnswerOf_43 : decode cX0_sendAnswerOf 43 = .ok (.invokevirtual 121, 3) := by decide +kernel
theorem dX0_sendAnswerOf_46 : decode cX0_sendAnswerOf 46 = .ok (.astore 5, 2) := by decide +kernel
theorem dX0_sendAnswerOf_48 : decode cX0_sendAnswerOf 48 = .ok (.aload 5, 2) := by decide +kernel
theorem dX0_sendAnswerOf_50 : decode cX0_sendAnswerOf 50 = .ok (.ifnonnull 6, 3) := by decide +kernel
theorem dX0_sendAnswerOf_53 : decode cX0_sendAnswerOf 53 = .ok (.bipush (-5), 2) := by decide +kernel
theorem dX0_sendAnswerOf_55 : decode cX0_sendAnswerOf 55 = .ok (.ireturn, 1) := by decide +kernel
theorem dX0_sendAnswerOf_56 : decode cX0_sendAnswerOf 56 = .ok (.aload_n 0, 1) := by decide +kernel
theorem dX0_sendAnswerOf_57 : decode cX0_sendAnswerOf 57 = .ok (.iload_n 1, 1) := by decide +kernel
theorem dX0_sendAnswerOf_58 : decode cX0_sendAnswerOf 58 = .ok (.iconst 1, 1) := by decide +kernel
theorem dX0_sendAnswerOf_59 : decode cX0_sendAnswerOf 59 = .ok (.iadd, 1) := by decide +kernel
theorem dX0_sendAnswerOf_60 : decode cX0_sendAnswerOf 60 = .ok (.iconst 4, 1) := by decide +kernel
theorem dX0_sendAnswerOf_61 : decode cX0_sendAnswerOf 61 = .ok (.irem, 1) := by decide +kernel
theorem dX0_sendAnswerOf_62 : decode cX0_sendAnswerOf 62 = .ok (.putfield 68, 3) := by decide +kernel
theorem dX0_sendAnswerOf_65 : decode cX0_sendAnswerOf 65 = .ok (.iload_n 3, 1) := by decide +kernel
theorem dX0_sendAnswerOf_66 : decode cX0_sendAnswerOf 66 = .ok (.ifCond .le 13, 3) := by decide +kernel
theorem dX0_sendAnswerOf_69 : decode cX0_sendAnswerOf 69 = .ok (.aload_n 0, 1) := by decide +kernel
theorem dX0_sendAnswerOf_70 : decode cX0_sendAnswerOf 70 = .ok (.dup, 1) := by decide +kernel
theorem dX0_sendAnswerOf_71 : decode cX0_sendAnswerOf 71 = .ok (.getfield 83, 3) := by decide +kernel
theorem dX0_sendAnswerOf_74 : decode cX0_sendAnswerOf 74 = .ok (.iconst 1, 1) := by decide +kernel
theorem dX0_sendAnswerOf_75 : decode cX0_sendAnswerOf 75 = .ok (.iadd, 1) := by decide +kernel
theorem dX0_sendAnswerOf_76 : decode cX0_sendAnswerOf 76 = .ok (.putfield 83, 3) := by decide +kernel
theorem dX0_sendAnswerOf_79 : decode cX0_sendAnswerOf 79 = .ok (.aload_n 2, 1) := by decide +kernel
theorem dX0_sendAnswerOf_80 : decode cX0_sendAnswerOf 80 = .ok (.getfield 128, 3) := by decide +kernel
theorem dX0_sendAnswerOf_83 : decode cX0_sendAnswerOf 83 = .ok (.iload_n 3, 1) := by decide +kernel
theorem dX0_sendAnswerOf_84 : decode cX0_sendAnswerOf 84 = .ok (.invokevirtual 115, 3) := by decide +kernel
theorem dX0_sendAnswerOf_87 : decode cX0_sendAnswerOf 87 = .ok (.aload_n 0, 1) := by decide +kernel
theorem dX0_sendAnswerOf_88 : decode cX0_sendAnswerOf 88 = .ok (.aload 5, 2) := by decide +kernel
theorem dX0_sendAnswerOf_90 : decode cX0_sendAnswerOf 90 = .ok (.invokevirtual 235, 3) := by decide +kernel
theorem dX0_sendAnswerOf_93 : decode cX0_sendAnswerOf 93 = .ok (.aload 5, 2) := by decide +kernel
theorem dX0_sendAnswerOf_95 : decode cX0_sendAnswerOf 95 = .ok (.iconst 3, 1) := by decide +kernel
theorem dX0_sendAnswerOf_96 : decode cX0_sendAnswerOf 96 = .ok (.putfield 125, 3) := by decide +kernel
theorem dX0_sendAnswerOf_99 : decode cX0_sendAnswerOf 99 = .ok (.aload 5, 2) := by decide +kernel
theorem dX0_sendAnswerOf_101 : decode cX0_sendAnswerOf 101 = .ok (.aload_n 0, 1) := by decide +kernel
theorem dX0_sendAnswerOf_102 : decode cX0_sendAnswerOf 102 = .ok (.getfield 62, 3) := by decide +kernel
theorem dX0_sendAnswerOf_105 : decode cX0_sendAnswerOf 105 = .ok (.aload 5, 2) := by decide +kernel
theorem dX0_sendAnswerOf_107 : decode cX0_sendAnswerOf 107 = .ok (.getfield 238, 3) := by decide +kernel
theorem dX0_sendAnswerOf_110 : decode cX0_sendAnswerOf 110 = .ok (.isub, 1) := by decide +kernel
theorem dX0_sendAnswerOf_111 : decode cX0_sendAnswerOf 111 = .ok (.putfield 241, 3) := by decide +kernel
theorem dX0_sendAnswerOf_114 : decode cX0_sendAnswerOf 114 = .ok (.aload_n 0, 1) := by decide +kernel
theorem dX0_sendAnswerOf_115 : decode cX0_sendAnswerOf 115 = .ok (.aload_n 0, 1) := by decide +kernel
theorem dX0_sendAnswerOf_116 : decode cX0_sendAnswerOf 116 = .ok (.aload 5, 2) := by decide +kernel
theorem dX0_sendAnswerOf_118 : decode cX0_sendAnswerOf 118 = .ok (.getfield 138, 3) := by decide +kernel
theorem dX0_sendAnswerOf_121 : decode cX0_sendAnswerOf 121 = .ok (.invokevirtual 90, 3) := by decide +kernel
theorem dX0_sendAnswerOf_124 : decode cX0_sendAnswerOf 124 = .ok (.aload 5, 2) := by decide +kernel
theorem dX0_sendAnswerOf_126 : decode cX0_sendAnswerOf 126 = .ok (.getfield 241, 3) := by decide +kernel
theorem dX0_sendAnswerOf_129 : decode cX0_sendAnswerOf 129 = .ok (.invokevirtual 244, 3) := by decide +kernel
theorem dX0_sendAnswerOf_132 : decode cX0_sendAnswerOf 132 = .ok (.aload_n 0, 1) := by decide +kernel
theorem dX0_sendAnswerOf_133 : decode cX0_sendAnswerOf 133 = .ok (.dup, 1) := by decide +kernel
theorem dX0_sendAnswerOf_134 : decode cX0_sendAnswerOf 134 = .ok (.getfield 71, 3) := by decide +kernel
theorem dX0_sendAnswerOf_137 : decode cX0_sendAnswerOf 137 = .ok (.iconst 1, 1) := by decide +kernel
theorem dX0_sendAnswerOf_138 : decode cX0_sendAnswerOf 138 = .ok (.iadd, 1) := by decide +kernel
theorem dX0_sendAnswerOf_139 : decode cX0_sendAnswerOf 139 = .ok (.putfield 71, 3) := by decide +kernel
theorem dX0_sendAnswerOf_142 : decode cX0_sendAnswerOf 142 = .ok (.aload_n 0, 1) := by decide +kernel
theorem dX0_sendAnswerOf_143 : decode cX0_sendAnswerOf 143 = .ok (.iconst 1, 1) := by decide +kernel
theorem dX0_sendAnswerOf_144 : decode cX0_sendAnswerOf 144 = .ok (.putfield 36, 3) := by decide +kernel
theorem dX0_sendAnswerOf_147 : decode cX0_sendAnswerOf 147 = .ok (.iload 4, 2) := by decide +kernel
theorem dX0_sendAnswerOf_149 : decode cX0_sendAnswerOf 149 = .ok (.ireturn, 1) := by decide +kernel
theorem dX0_takeTagBack_0 : decode cX0_takeTagBack 0 = .ok (.aload_n 1, 1) := by decide +kernel
theorem dX0_takeTagBack_1 : decode cX0_takeTagBack 1 = .ok (.getfield 232, 3) := by decide +kernel
theorem dX0_takeTagBack_4 : decode cX0_takeTagBack 4 = .ok (.bipush 8, 2) := by decide +kernel
theorem dX0_takeTagBack_6 : decode cX0_takeTagBack 6 = .ok (.invokestatic 86, 3) := by decide +kernel
theorem dX0_takeTagBack_9 : decode cX0_takeTagBack 9 = .ok (.ifCond .eq 14, 3) := by decide +kernel
theorem dX0_takeTagBack_12 : decode cX0_takeTagBack 12 = .ok (.aload_n 0, 1) := by decide +kernel
theorem dX0_takeTagBack_13 : decode cX0_takeTagBack 13 = .ok (.getfield 15, 3) := by decide +kernel
theorem dX0_takeTagBack_16 : decode cX0_takeTagBack 16 = .ok (.aload_n 1, 1) := by decide +kernel
theorem dX0_takeTagBack_17 : decode cX0_takeTagBack 17 = .ok (.getfield 232, 3) := by decide +kernel
theorem dX0_takeTagBack_20 : decode cX0_takeTagBack 20 = .ok (.bipush (-5), 2) := by decide +kernel
theorem dX0_takeTagBack_22 : decode cX0_takeTagBack 22 = .ok (.iastore, 1) := by decide +kernel
theorem dX0_takeTagBack_23 : decode cX0_takeTagBack 23 = .ok (.aload_n 1, 1) := by decide +kernel
theorem dX0_takeTagBack_24 : decode cX0_takeTagBack 24 = .ok (.bipush (-5), 2) := by decide +kernel
theorem dX0_takeTagBack_26 : decode cX0_takeTagBack 26 = .ok (.putfield 232, 3) := by decide +kernel
theorem dX0_takeTagBack_29 : decode cX0_takeTagBack 29 = .ok (.return_, 1) := by decide +kernel
theorem dX0_noteAnswer_0 : decode cX0_noteAnswer 0 = .ok (.aload_n 1, 1) := by decide +kernel
theorem dX0_noteAnswer_1 : decode cX0_noteAnswer 1 = .ok (.ifnonnull 4, 3) := by decide +kernel
theorem dX0_noteAnswer_4 : decode cX0_noteAnswer 4 = .ok (.return_, 1) := by decide +kernel
theorem dX0_noteAnswer_5 : decode cX0_noteAnswer 5 = .ok (.aload_n 1, 1) := by decide +kernel
theorem dX0_noteAnswer_6 : decode cX0_noteAnswer 6 = .ok (.dup, 1) := by decide +kernel
theorem dX0_noteAnswer_7 : decode cX0_noteAnswer 7 = .ok (.getfield 208, 3) := by decide +kernel
theorem dX0_noteAnswer_10 : decode cX0_noteAnswer 10 = .ok (.iconst 1, 1) := by decide +kernel
theorem dX0_noteAnswer_11 : decode cX0_noteAnswer 11 = .ok (.isub, 1) := by decide +kernel
theorem dX0_noteAnswer_12 : decode cX0_noteAnswer 12 = .ok (.putfield 208, 3) := by decide +kernel
theorem dX0_noteAnswer_15 : decode cX0_noteAnswer 15 = .ok (.aload_n 1, 1) := by decide +kernel
theorem dX0_noteAnswer_16 : decode cX0_noteAnswer 16 = .ok (.dup, 1) := by decide +kernel
theorem dX0_noteAnswer_17 : decode cX0_noteAnswer 17 = .ok (.getfield 248, 3) := by decide +kernel
theorem dX0_noteAnswer_20 : decode cX0_noteAnswer 20 = .ok (.iconst 1, 1) := by decide +kernel
theorem dX0_noteAnswer_21 : decode cX0_noteAnswer 21 = .ok (.iadd, 1) := by decide +kernel
theorem dX0_noteAnswer_22 : decode cX0_noteAnswer 22 = .ok (.putfield 248, 3) := by decide +kernel
theorem dX0_noteAnswer_25 : decode cX0_noteAnswer 25 = .ok (.aload_n 1, 1) := by decide +kernel
theorem dX0_noteAnswer_26 : decode cX0_noteAnswer 26 = .ok (.aload_n 1, 1) := by decide +kernel
theorem dX0_noteAnswer_27 : decode cX0_noteAnswer 27 = .ok (.getfield 251, 3) := by decide +kernel
theorem dX0_noteAnswer_30 : decode cX0_noteAnswer 30 = .ok (.iload_n 2, 1) := by decide +kernel
theorem dX0_noteAnswer_31 : decode cX0_noteAnswer 31 = .ok (.invokestatic 254, 3) := by decide +kernel
theorem dX0_noteAnswer_34 : decode cX0_noteAnswer 34 = .ok (.putfield 251, 3) := by decide +kernel
theorem dX0_noteAnswer_37 : decode cX0_noteAnswer 37 = .ok (.return_, 1) := by decide +kernel
theorem dX0_countWaits_0 : decode cX0_countWaits 0 = .ok (.iconst 0, 1) := by decide +kernel
theorem dX0_countWaits_1 : decode cX0_countWaits 1 = .ok (.istore_n 2, 1) := by decide +kernel
theorem dX0_countWaits_2 : decode cX0_countWaits 2 = .ok (.iload_n 2, 1) := by decide +kernel
theorem dX0_countWaits_3 : decode cX0_countWaits 3 = .ok (.iconst 4, 1) := by decide +kernel
theorem dX0_countWaits_4 : decode cX0_countWaits 4 = .ok (.if_icmp .ge 49, 3) := by decide +kernel
theorem dX0_countWaits_7 : decode cX0_countWaits 7 = .ok (.aload_n 0, 1) := by decide +kernel
theorem dX0_countWaits_8 : decode cX0_countWaits 8 = .ok (.getfield 20, 3) := by decide +kernel
theorem dX0_countWaits_11 : decode cX0_countWaits 11 = .ok (.iload_n 2, 1) := by decide +kernel
theorem dX0_countWaits_12 : decode cX0_countWaits 12 = .ok (.aaload, 1) := by decide +kernel
theorem dX0_countWaits_13 : decode cX0_countWaits 13 = .ok (.astore_n 3, 1) := by decide +kernel
theorem dX0_countWaits_14 : decode cX0_countWaits 14 = .ok (.iload_n 2, 1) := by decide +kernel
theorem dX0_countWaits_15 : decode cX0_countWaits 15 = .ok (.iload_n 1, 1) := by decide +kernel
theorem dX0_countWaits_16 : decode cX0_countWaits 16 = .ok (.if_icmp .eq 13, 3) := by decide +kernel
theorem dX0_countWaits_19 : decode cX0_countWaits 19 = .ok (.aload_n 3, 1) := by decide +kernel
theorem dX0_countWaits_20 : decode cX0_countWaits 20 = .ok (.getfield 98, 3) := by decide +kernel
theorem dX0_countWaits_23 : decode cX0_countWaits 23 = .ok (.getfield 108, 3) := by decide +kernel
theorem dX0_countWaits_26 : decode cX0_countWaits 26 = .ok (.ifCond .ne 11, 3) := by decide +kernel
theorem dX0_countWaits_29 : decode cX0_countWaits 29 = .ok (.aload_n 3, 1) := by decide +kernel
theorem dX0_countWaits_30 : decode cX0_countWaits 30 = .ok (.iconst 0, 1) := by decide +kernel
theorem dX0_countWaits_31 : decode cX0_countWaits 31 = .ok (.putfield 118, 3) := by decide +kernel
theorem dX0_countWaits_34 : decode cX0_countWaits 34 = .ok (.goto 13, 3) := by decide +kernel
theorem dX0_countWaits_37 : decode cX0_countWaits 37 = .ok (.aload_n 3, 1) := by decide +kernel
theorem dX0_countWaits_38 : decode cX0_countWaits 38 = .ok (.dup, 1) := by decide +kernel
theorem dX0_countWaits_39 : decode cX0_countWaits 39 = .ok (.getfield 118, 3) := by decide +kernel
theorem dX0_countWaits_42 : decode cX0_countWaits 42 = .ok (.iconst 1, 1) := by decide +kernel
theorem dX0_countWaits_43 : decode cX0_countWaits 43 = .ok (.iadd, 1) := by decide +kernel
theorem dX0_countWaits_44 : decode cX0_countWaits 44 = .ok (.putfield 118, 3) := by decide +kernel
theorem dX0_countWaits_47 : decode cX0_countWaits 47 = .ok (.iinc 2 1, 3) := by decide +kernel
theorem dX0_countWaits_50 : decode cX0_countWaits 50 = .ok (.goto (-48), 3) := by decide +kernel
theorem dX0_countWaits_53 : decode cX0_countWaits 53 = .ok (.return_, 1) := by decide +kernel
theorem dX1_init_0 : decode cX1_init 0 = .ok (.aload_n 0, 1) := by decide +kernel
theorem dX1_init_1 : decode cX1_init 1 = .ok (.invokespecial 3, 3) := by decide +kernel
theorem dX1_init_4 : decode cX1_init 4 = .ok (.aload_n 0, 1) := by decide +kernel
theorem dX1_init_5 : decode cX1_init 5 = .ok (.bipush 6, 2) := by decide +kernel
theorem dX1_init_7 : decode cX1_init 7 = .ok (.newarray .int, 2) := by decide +kernel
theorem dX1_init_9 : decode cX1_init 9 = .ok (.putfield 9, 3) := by decide +kernel
theorem dX1_init_12 : decode cX1_init 12 = .ok (.return_, 1) := by decide +kernel
theorem dX1_at_0 : decode cX1_at 0 = .ok (.iload_n 1, 1) := by decide +kernel
theorem dX1_at_1 : decode cX1_at 1 = .ok (.aload_n 0, 1) := by decide +kernel
theorem dX1_at_2 : decode cX1_at 2 = .ok (.getfield 15, 3) := by decide +kernel
theorem dX1_at_5 : decode cX1_at 5 = .ok (.invokestatic 19, 3) := by decide +kernel
theorem dX1_at_8 : decode cX1_at 8 = .ok (.ifCond .eq 21, 3) := by decide +kernel
theorem dX1_at_11 : decode cX1_at 11 = .ok (.iload_n 1, 1) := by decide +kernel
theorem dX1_at_12 : decode cX1_at 12 = .ok (.bipush 6, 2) := by decide +kernel
theorem dX1_at_14 : decode cX1_at 14 = .ok (.invokestatic 19, 3) := by decide +kernel
theorem dX1_at_17 : decode cX1_at 17 = .ok (.ifCond .eq 12, 3) := by decide +kernel
theorem dX1_at_20 : decode cX1_at 20 = .ok (.aload_n 0, 1) := by decide +kernel
theorem dX1_at_21 : decode cX1_at 21 = .ok (.getfield 9, 3) := by decide +kernel
theorem dX1_at_24 : decode cX1_at 24 = .ok (.iload_n 1, 1) := by decide +kernel
theorem dX1_at_25 : decode cX1_at 25 = .ok (.iaload, 1) := by decide +kernel
theorem dX1_at_26 : decode cX1_at 26 = .ok (.goto 5, 3) := by decide +kernel
theorem dX1_at_29 : decode cX1_at 29 = .ok (.bipush (-5), 2) := by decide +kernel
theorem dX1_at_31 : decode cX1_at 31 = .ok (.ireturn, 1) := by decide +kernel
theorem dX1_append_0 : decode cX1_append 0 = .ok (.aload_n 0, 1) := by decide +kernel
theorem dX1_append_1 : decode cX1_append 1 = .ok (.getfield 15, 3) := by decide +kernel
theorem dX1_append_4 : decode cX1_append 4 = .ok (.bipush 6, 2) := by decide +kernel
theorem dX1_append_6 : decode cX1_append 6 = .ok (.invokestatic 19, 3) := by decide +kernel
theorem dX1_append_9 : decode cX1_append 9 = .ok (.ifCond .eq 23, 3) := by decide +kernel
theorem dX1_append_12 : decode cX1_append 12 = .ok (.aload_n 0, 1) := by decide +kernel
theorem dX1_append_13 : decode cX1_append 13 = .ok (.getfield 9, 3) := by decide +kernel
theorem dX1_append_16 : decode cX1_append 16 = .ok (.aload_n 0, 1) := by decide +kernel
theorem dX1_append_17 : decode cX1_append 17 = .ok (.getfield 15, 3) := by decide +kernel
theorem dX1_append_20 : decode cX1_append 20 = .ok (.iload_n 1, 1) := by decide +kernel
theorem dX1_append_21 : decode cX1_append 21 = .ok (.iastore, 1) := by decide +kernel
theorem dX1_append_22 : decode cX1_append 22 = .ok (.aload_n 0, 1) := by decide +kernel
theorem dX1_append_23 : decode cX1_append 23 = .ok (.dup, 1) := by decide +kernel
theorem dX1_append_24 : decode cX1_append 24 = .ok (.getfield 15, 3) := by decide +kernel
theorem dX1_append_27 : decode cX1_append 27 = .ok (.iconst 1, 1) := by decide +kernel
theorem dX1_append_28 : decode cX1_append 28 = .ok (.iadd, 1) := by decide +kernel
theorem dX1_append_29 : decode cX1_append 29 = .ok (.putfield 15, 3) := by decide +kernel
theorem dX1_append_32 : decode cX1_append 32 = .ok (.return_, 1) := by decide +kernel
theorem dX1_removeAt_0 : decode cX1_removeAt 0 = .ok (.iload_n 1, 1) := by decide +kernel
theorem dX1_removeAt_1 : decode cX1_removeAt 1 = .ok (.aload_n 0, 1) := by decide +kernel
theorem dX1_removeAt_2 : decode cX1_removeAt 2 = .ok (.getfield 15, 3) := by decide +kernel
theorem dX1_removeAt_5 : decode cX1_removeAt 5 = .ok (.invokestatic 19, 3) := by decide +kernel
theorem dX1_removeAt_8 : decode cX1_removeAt 8 = .ok (.ifCond .ne 4, 3) := by decide +kernel
theorem dX1_removeAt_11 : decode cX1_removeAt 11 = .ok (.return_, 1) := by decide +kernel
theorem dX1_removeAt_12 : decode cX1_removeAt 12 = .ok (.iload_n 1, 1) := by decide +kernel
theorem dX1_removeAt_13 : decode cX1_removeAt 13 = .ok (.iconst 1, 1) := by decide +kernel
theorem dX1_removeAt_14 : decode cX1_removeAt 14 = .ok (.iadd, 1) := by decide +kernel
theorem dX1_removeAt_15 : decode cX1_removeAt 15 = .ok (.istore_n 2, 1) := by decide +kernel
theorem dX1_removeAt_16 : decode cX1_removeAt 16 = .ok (.iload_n 2, 1) := by decide +kernel
theorem dX1_removeAt_17 : decode cX1_removeAt 17 = .ok (.aload_n 0, 1) := by decide +kernel
theorem dX1_removeAt_18 : decode cX1_removeAt 18 = .ok (.getfield 15, 3) := by decide +kernel
theorem dX1_removeAt_21 : decode cX1_removeAt 21 = .ok (.if_icmp .ge 29, 3) := by decide +kernel
theorem dX1_removeAt_24 : decode cX1_removeAt 24 = .ok (.iload_n 2, 1) := by decide +kernel
theorem dX1_removeAt_25 : decode cX1_removeAt 25 = .ok (.bipush 6, 2) := by decide +kernel
theorem dX1_removeAt_27 : decode cX1_removeAt 27 = .ok (.if_icmp .ge 23, 3) := by decide +kernel
theorem dX1_removeAt_30 : decode cX1_removeAt 30 = .ok (.aload_n 0, 1) := by decide +kernel
theorem dX1_removeAt_31 : decode cX1_removeAt 31 = .ok (.getfield 9, 3) := by decide +kernel
theorem dX1_removeAt_34 : decode cX1_removeAt 34 = .ok (.iload_n 2, 1) := by decide +kernel
theorem dX1_removeAt_35 : decode cX1_removeAt 35 = .ok (.iconst 1, 1) := by decide +kernel
theorem dX1_removeAt_36 : decode cX1_removeAt 36 = .ok (.isub, 1) := by decide +kernel
theorem dX1_removeAt_37 : decode cX1_removeAt 37 = .ok (.aload_n 0, 1) := by decide +kernel
theorem dX1_removeAt_38 : decode cX1_removeAt 38 = .ok (.getfield 9, 3) := by decide +kernel
theorem dX1_removeAt_41 : decode cX1_removeAt 41 = .ok (.iload_n 2, 1) := by decide +kernel
theorem dX1_removeAt_42 : decode cX1_removeAt 42 = .ok (.iaload, 1) := by decide +kernel
theorem dX1_removeAt_43 : decode cX1_removeAt 43 = .ok (.iastore, 1) := by decide +kernel
theorem dX1_removeAt_44 : decode cX1_removeAt 44 = .ok (.iinc 2 1, 3) := by decide +kernel
theorem dX1_removeAt_47 : decode cX1_removeAt 47 = .ok (.goto (-31), 3) := by decide +kernel
theorem dX1_removeAt_50 : decode cX1_removeAt 50 = .ok (.aload_n 0, 1) := by decide +kernel
theorem dX1_removeAt_51 : decode cX1_removeAt 51 = .ok (.dup, 1) := by decide +kernel
theorem dX1_removeAt_52 : decode cX1_removeAt 52 = .ok (.getfield 15, 3) := by decide +kernel
theorem dX1_removeAt_55 : decode cX1_removeAt 55 = .ok (.iconst 1, 1) := by decide +kernel
theorem dX1_removeAt_56 : decode cX1_removeAt 56 = .ok (.isub, 1) := by decide +kernel
theorem dX1_removeAt_57 : decode cX1_removeAt 57 = .ok (.putfield 15, 3) := by decide +kernel
theorem dX1_removeAt_60 : decode cX1_removeAt 60 = .ok (.return_, 1) := by decide +kernel
theorem dX1_copyFrom_0 : decode cX1_copyFrom 0 = .ok (.aload_n 0, 1) := by decide +kernel
theorem dX1_copyFrom_1 : decode cX1_copyFrom 1 = .ok (.aload_n 1, 1) := by decide +kernel
theorem dX1_copyFrom_2 : decode cX1_copyFrom 2 = .ok (.getfield 15, 3) := by decide +kernel
theorem dX1_copyFrom_5 : decode cX1_copyFrom 5 = .ok (.putfield 15, 3) := by decide +kernel
theorem dX1_copyFrom_8 : decode cX1_copyFrom 8 = .ok (.aload_n 1, 1) := by decide +kernel
theorem dX1_copyFrom_9 : decode cX1_copyFrom 9 = .ok (.getfield 9, 3) := by decide +kernel
theorem dX1_copyFrom_12 : decode cX1_copyFrom 12 = .ok (.iconst 0, 1) := by decide +kernel
theorem dX1_copyFrom_13 : decode cX1_copyFrom 13 = .ok (.aload_n 0, 1) := by decide +kernel
theorem dX1_copyFrom_14 : decode cX1_copyFrom 14 = .ok (.getfield 9, 3) := by decide +kernel
theorem dX1_copyFrom_17 : decode cX1_copyFrom 17 = .ok (.iconst 0, 1) := by decide +kernel
theorem dX1_copyFrom_18 : decode cX1_copyFrom 18 = .ok (.bipush 6, 2) := by decide +kernel
theorem dX1_copyFrom_20 : decode cX1_copyFrom 20 = .ok (.invokestatic 23, 3) := by decide +kernel
theorem dX1_copyFrom_23 : decode cX1_copyFrom 23 = .ok (.return_, 1) := by decide +kernel
theorem dX2_init_0 : decode cX2_init 0 = .ok (.aload_n 0, 1) := by decide +kernel
theorem dX2_init_1 : decode cX2_init 1 = .ok (.invokespecial 3, 3) := by decide +kernel
theorem dX2_init_4 : decode cX2_init 4 = .ok (.aload_n 0, 1) := by decide +kernel
theorem dX2_init_5 : decode cX2_init 5 = .ok (.new 9, 3) := by decide +kernel
theorem dX2_init_8 : decode cX2_init 8 = .ok (.dup, 1) := by decide +kernel
theorem dX2_init_9 : decode cX2_init 9 = .ok (.invokespecial 11, 3) := by decide +kernel
theorem dX2_init_12 : decode cX2_init 12 = .ok (.putfield 12, 3) := by decide +kernel
theorem dX2_init_15 : decode cX2_init 15 = .ok (.aload_n 0, 1) := by decide +kernel
theorem dX2_init_16 : decode cX2_init 16 = .ok (.iconst 2, 1) := by decide +kernel
theorem dX2_init_17 : decode cX2_init 17 = .ok (.putfield 18, 3) := by decide +kernel
theorem dX2_init_20 : decode cX2_init 20 = .ok (.aload_n 0, 1) := by decide +kernel
theorem dX2_init_21 : decode cX2_init 21 = .ok (.bipush (-5), 2) := by decide +kernel
theorem dX2_init_23 : decode cX2_init 23 = .ok (.putfield 22, 3) := by decide +kernel
theorem dX2_init_26 : decode cX2_init 26 = .ok (.return_, 1) := by decide +kernel
theorem dX2_copyFrom_0 : decode cX2_copyFrom 0 = .ok (.aload_n 0, 1) := by decide +kernel
theorem dX2_copyFrom_1 : decode cX2_copyFrom 1 = .ok (.getfield 12, 3) := by decide +kernel
theorem dX2_copyFrom_4 : decode cX2_copyFrom 4 = .ok (.aload_n 1, 1) := by decide +kernel
theorem dX2_copyFrom_5 : decode cX2_copyFrom 5 = .ok (.getfield 12, 3) := by decide +kernel
theorem dX2_copyFrom_8 : decode cX2_copyFrom 8 = .ok (.invokevirtual 25, 3) := by decide +kernel
theorem dX2_copyFrom_11 : decode cX2_copyFrom 11 = .ok (.aload_n 0, 1) := by decide +kernel
theorem dX2_copyFrom_12 : decode cX2_copyFrom 12 = .ok (.aload_n 1, 1) := by decide +kernel
theorem dX2_copyFrom_13 : decode cX2_copyFrom 13 = .ok (.getfield 18, 3) := by decide +kernel
theorem dX2_copyFrom_16 : decode cX2_copyFrom 16 = .ok (.putfield 18, 3) := by decide +kernel
theorem dX2_copyFrom_19 : decode cX2_copyFrom 19 = .ok (.aload_n 0, 1) := by decide +kernel
theorem dX2_copyFrom_20 : decode cX2_copyFrom 20 = .ok (.aload_n 1, 1) := by decide +kernel
theorem dX2_copyFrom_21 : decode cX2_copyFrom 21 = .ok (.getfield 29, 3) := by decide +kernel
theorem dX2_copyFrom_24 : decode cX2_copyFrom 24 = .ok (.putfield 29, 3) := by decide +kernel
theorem dX2_copyFrom_27 : decode cX2_copyFrom 27 = .ok (.aload_n 0, 1) := by decide +kernel
theorem dX2_copyFrom_28 : decode cX2_copyFrom 28 = .ok (.aload_n 1, 1) := by decide +kernel
theorem dX2_copyFrom_29 : decode cX2_copyFrom 29 = .ok (.getfield 32, 3) := by decide +kernel
theorem dX2_copyFrom_32 : decode cX2_copyFrom 32 = .ok (.putfield 32, 3) := by decide +kernel
theorem dX2_copyFrom_35 : decode cX2_copyFrom 35 = .ok (.aload_n 0, 1) := by decide +kernel
theorem dX2_copyFrom_36 : decode cX2_copyFrom 36 = .ok (.aload_n 1, 1) := by decide +kernel
theorem dX2_copyFrom_37 : decode cX2_copyFrom 37 = .ok (.getfield 35, 3) := by decide +kernel
theorem dX2_copyFrom_40 : decode cX2_copyFrom 40 = .ok (.putfield 35, 3) := by decide +kernel
theorem dX2_copyFrom_43 : decode cX2_copyFrom 43 = .ok (.aload_n 0, 1) := by decide +kernel
theorem dX2_copyFrom_44 : decode cX2_copyFrom 44 = .ok (.aload_n 1, 1) := by decide +kernel
theorem dX2_copyFrom_45 : decode cX2_copyFrom 45 = .ok (.getfield 38, 3) := by decide +kernel
theorem dX2_copyFrom_48 : decode cX2_copyFrom 48 = .ok (.putfield 38, 3) := by decide +kernel
theorem dX2_copyFrom_51 : decode cX2_copyFrom 51 = .ok (.aload_n 0, 1) := by decide +kernel
theorem dX2_copyFrom_52 : decode cX2_copyFrom 52 = .ok (.aload_n 1, 1) := by decide +kernel
theorem dX2_copyFrom_53 : decode cX2_copyFrom 53 = .ok (.getfield 41, 3) := by decide +kernel
theorem dX2_copyFrom_56 : decode cX2_copyFrom 56 = .ok (.putfield 41, 3) := by decide +kernel
theorem dX2_copyFrom_59 : decode cX2_copyFrom 59 = .ok (.aload_n 0, 1) := by decide +kernel
theorem dX2_copyFrom_60 : decode cX2_copyFrom 60 = .ok (.aload_n 1, 1) := by decide +kernel
theorem dX2_copyFrom_61 : decode cX2_copyFrom 61 = .ok (.getfield 22, 3) := by decide +kernel
theorem dX2_copyFrom_64 : decode cX2_copyFrom 64 = .ok (.putfield 22, 3) := by decide +kernel
theorem dX2_copyFrom_67 : decode cX2_copyFrom 67 = .ok (.return_, 1) := by decide +kernel
theorem dX3_init_0 : decode cX3_init 0 = .ok (.aload_n 0, 1) := by decide +kernel
theorem dX3_init_1 : decode cX3_init 1 = .ok (.invokespecial 3, 3) := by decide +kernel
theorem dX3_init_4 : decode cX3_init 4 = .ok (.return_, 1) := by decide +kernel
theorem dX3_begin_0 : decode cX3_begin 0 = .ok (.aload_n 0, 1) := by decide +kernel
theorem dX3_begin_1 : decode cX3_begin 1 = .ok (.iload_n 1, 1) := by decide +kernel
theorem dX3_begin_2 : decode cX3_begin 2 = .ok (.putfield 9, 3) := by decide +kernel
theorem dX3_begin_5 : decode cX3_begin 5 = .ok (.aload_n 0, 1) := by decide +kernel
theorem dX3_begin_6 : decode cX3_begin 6 = .ok (.iload_n 2, 1) := by decide +kernel
theorem dX3_begin_7 : decode cX3_begin 7 = .ok (.putfield 15, 3) := by decide +kernel
theorem dX3_begin_10 : decode cX3_begin 10 = .ok (.aload_n 0, 1) := by decide +kernel
theorem dX3_begin_11 : decode cX3_begin 11 = .ok (.iload_n 3, 1) := by decide +kernel
theorem dX3_begin_12 : decode cX3_begin 12 = .ok (.putfield 18, 3) := by decide +kernel
theorem dX3_begin_15 : decode cX3_begin 15 = .ok (.aload_n 0, 1) := by decide +kernel
theorem dX3_begin_16 : decode cX3_begin 16 = .ok (.iload 4, 2) := by decide +kernel
theorem dX3_begin_18 : decode cX3_begin 18 = .ok (.putfield 21, 3) := by decide +kernel
theorem dX3_begin_21 : decode cX3_begin 21 = .ok (.aload_n 0, 1) := by decide +kernel
theorem dX3_begin_22 : decode cX3_begin 22 = .ok (.iconst 0, 1) := by decide +kernel
theorem dX3_begin_23 : decode cX3_begin 23 = .ok (.putfield 24, 3) := by decide +kernel
theorem dX3_begin_26 : decode cX3_begin 26 = .ok (.aload_n 0, 1) := by decide +kernel
theorem dX3_begin_27 : decode cX3_begin 27 = .ok (.bipush (-5), 2) := by decide +kernel
theorem dX3_begin_29 : decode cX3_begin 29 = .ok (.putfield 27, 3) := by decide +kernel
theorem dX3_begin_32 : decode cX3_begin 32 = .ok (.aload_n 0, 1) := by decide +kernel
theorem dX3_begin_33 : decode cX3_begin 33 = .ok (.bipush (-5), 2) := by decide +kernel
theorem dX3_begin_35 : decode cX3_begin 35 = .ok (.putfield 30, 3) := by decide +kernel
theorem dX3_begin_38 : decode cX3_begin 38 = .ok (.aload_n 0, 1) := by decide +kernel
theorem dX3_begin_39 : decode cX3_begin 39 = .ok (.iload 5, 2) := by decide +kernel
theorem dX3_begin_41 : decode cX3_begin 41 = .ok (.putfield 33, 3) := by decide +kernel
theorem dX3_begin_44 : decode cX3_begin 44 = .ok (.aload_n 0, 1) := by decide +kernel
theorem dX3_begin_45 : decode cX3_begin 45 = .ok (.bipush (-5), 2) := by decide +kernel
theorem dX3_begin_47 : decode cX3_begin 47 = .ok (.putfield 36, 3) := by decide +kernel
theorem dX3_begin_50 : decode cX3_begin 50 = .ok (.aload_n 0, 1) := by decide +kernel
theorem dX3_begin_51 : decode cX3_begin 51 = .ok (.bipush (-5), 2) := by decide +kernel
theorem dX3_begin_53 : decode cX3_begin 53 = .ok (.putfield 39, 3) := by decide +kernel
theorem dX3_begin_56 : decode cX3_begin 56 = .ok (.aload_n 0, 1) := by decide +kernel
theorem dX3_begin_57 : decode cX3_begin 57 = .ok (.iconst 0, 1) := by decide +kernel
theorem dX3_begin_58 : decode cX3_begin 58 = .ok (.putfield 42, 3) := by decide +kernel
theorem dX3_begin_61 : decode cX3_begin 61 = .ok (.return_, 1) := by decide +kernel
theorem dX3_copyFrom_0 : decode cX3_copyFrom 0 = .ok (.aload_n 0, 1) := by decide +kernel
theorem dX3_copyFrom_1 : decode cX3_copyFrom 1 = .ok (.aload_n 1, 1) := by decide +kernel
theorem dX3_copyFrom_2 : decode cX3_copyFrom 2 = .ok (.getfield 9, 3) := by decide +kernel
theorem dX3_copyFrom_5 : decode cX3_copyFrom 5 = .ok (.putfield 9, 3) := by decide +kernel
theorem dX3_copyFrom_8 : decode cX3_copyFrom 8 = .ok (.aload_n 0, 1) := by decide +kernel
theorem dX3_copyFrom_9 : decode cX3_copyFrom 9 = .ok (.aload_n 1, 1) := by decide +kernel
theorem dX3_copyFrom_10 : decode cX3_copyFrom 10 = .ok (.getfield 15, 3) := by decide +kernel
theorem dX3_copyFrom_13 : decode cX3_copyFrom 13 = .ok (.putfield 15, 3) := by decide +kernel
theorem dX3_copyFrom_16 : decode cX3_copyFrom 16 = .ok (.aload_n 0, 1) := by decide +kernel
theorem dX3_copyFrom_17 : decode cX3_copyFrom 17 = .ok (.aload_n 1, 1) := by decide +kernel
theorem dX3_copyFrom_18 : decode cX3_copyFrom 18 = .ok (.getfield 18, 3) := by decide +kernel
theorem dX3_copyFrom_21 : decode cX3_copyFrom 21 = .ok (.putfield 18, 3) := by decide +kernel
theorem dX3_copyFrom_24 : decode cX3_copyFrom 24 = .ok (.aload_n 0, 1) := by decide +kernel
theorem dX3_copyFrom_25 : decode cX3_copyFrom 25 = .ok (.aload_n 1, 1) := by decide +kernel
theorem dX3_copyFrom_26 : decode cX3_copyFrom 26 = .ok (.getfield 21, 3) := by decide +kernel
theorem dX3_copyFrom_29 : decode cX3_copyFrom 29 = .ok (.putfield 21, 3) := by decide +kernel
theorem dX3_copyFrom_32 : decode cX3_copyFrom 32 = .ok (.aload_n 0, 1) := by decide +kernel
theorem dX3_copyFrom_33 : decode cX3_copyFrom 33 = .ok (.aload_n 1, 1) := by decide +kernel
theorem dX3_copyFrom_34 : decode cX3_copyFrom 34 = .ok (.getfield 24, 3) := by decide +kernel
theorem dX3_copyFrom_37 : decode cX3_copyFrom 37 = .ok (.putfield 24, 3) := by decide +kernel
theorem dX3_copyFrom_40 : decode cX3_copyFrom 40 = .ok (.aload_n 0, 1) := by decide +kernel
theorem dX3_copyFrom_41 : decode cX3_copyFrom 41 = .ok (.aload_n 1, 1) := by decide +kernel
theorem dX3_copyFrom_42 : decode cX3_copyFrom 42 = .ok (.getfield 27, 3) := by decide +kernel
theorem dX3_copyFrom_45 : decode cX3_copyFrom 45 = .ok (.putfield 27, 3) := by decide +kernel
theorem dX3_copyFrom_48 : decode cX3_copyFrom 48 = .ok (.aload_n 0, 1) := by decide +kernel
theorem dX3_copyFrom_49 : decode cX3_copyFrom 49 = .ok (.aload_n 1, 1) := by decide +kernel
theorem dX3_copyFrom_50 : decode cX3_copyFrom 50 = .ok (.getfield 30, 3) := by decide +kernel
theorem dX3_copyFrom_53 : decode cX3_copyFrom 53 = .ok (.putfield 30, 3) := by decide +kernel
theorem dX3_copyFrom_56 : decode cX3_copyFrom 56 = .ok (.aload_n 0, 1) := by decide +kernel
theorem dX3_copyFrom_57 : decode cX3_copyFrom 57 = .ok (.aload_n 1, 1) := by decide +kernel
theorem dX3_copyFrom_58 : decode cX3_copyFrom 58 = .ok (.getfield 33, 3) := by decide +kernel
theorem dX3_copyFrom_61 : decode cX3_copyFrom 61 = .ok (.putfield 33, 3) := by decide +kernel
theorem dX3_copyFrom_64 : decode cX3_copyFrom 64 = .ok (.aload_n 0, 1) := by decide +kernel
theorem dX3_copyFrom_65 : decode cX3_copyFrom 65 = .ok (.aload_n 1, 1) := by decide +kernel
theorem dX3_copyFrom_66 : decode cX3_copyFrom 66 = .ok (.getfield 36, 3) := by decide +kernel
theorem dX3_copyFrom_69 : decode cX3_copyFrom 69 = .ok (.putfield 36, 3) := by decide +kernel
theorem dX3_copyFrom_72 : decode cX3_copyFrom 72 = .ok (.aload_n 0, 1) := by decide +kernel
theorem dX3_copyFrom_73 : decode cX3_copyFrom 73 = .ok (.aload_n 1, 1) := by decide +kernel
theorem dX3_copyFrom_74 : decode cX3_copyFrom 74 = .ok (.getfield 39, 3) := by decide +kernel
theorem dX3_copyFrom_77 : decode cX3_copyFrom 77 = .ok (.putfield 39, 3) := by decide +kernel
theorem dX3_copyFrom_80 : decode cX3_copyFrom 80 = .ok (.aload_n 0, 1) := by decide +kernel
theorem dX3_copyFrom_81 : decode cX3_copyFrom 81 = .ok (.aload_n 1, 1) := by decide +kernel
theorem dX3_copyFrom_82 : decode cX3_copyFrom 82 = .ok (.getfield 42, 3) := by decide +kernel
theorem dX3_copyFrom_85 : decode cX3_copyFrom 85 = .ok (.putfield 42, 3) := by decide +kernel
theorem dX3_copyFrom_88 : decode cX3_copyFrom 88 = .ok (.return_, 1) := by decide +kernel
theorem dX4_init_0 : decode cX4_init 0 = .ok (.aload_n 0, 1) := by decide +kernel
theorem dX4_init_1 : decode cX4_init 1 = .ok (.invokespecial 3, 3) := by decide +kernel
theorem dX4_init_4 : decode cX4_init 4 = .ok (.aload_n 0, 1) := by decide +kernel
theorem dX4_init_5 : decode cX4_init 5 = .ok (.bipush 60, 2) := by decide +kernel
theorem dX4_init_7 : decode cX4_init 7 = .ok (.newarray .char, 2) := by decide +kernel
theorem dX4_init_9 : decode cX4_init 9 = .ok (.putfield 9, 3) := by decide +kernel
theorem dX4_init_12 : decode cX4_init 12 = .ok (.aload_n 0, 1) := by decide +kernel
theorem dX4_init_13 : decode cX4_init 13 = .ok (.bipush 10, 2) := by decide +kernel
theorem dX4_init_15 : decode cX4_init 15 = .ok (.anewarray 15, 3) := by decide +kernel
theorem dX4_init_18 : decode cX4_init 18 = .ok (.putfield 17, 3) := by decide +kernel
theorem dX4_init_21 : decode cX4_init 21 = .ok (.iconst 0, 1) := by decide +kernel
theorem dX4_init_22 : decode cX4_init 22 = .ok (.istore_n 1, 1) := by decide +kernel
theorem dX4_init_23 : decode cX4_init 23 = .ok (.iload_n 1, 1) := by decide +kernel
theorem dX4_init_24 : decode cX4_init 24 = .ok (.bipush 10, 2) := by decide +kernel
theorem dX4_init_26 : decode cX4_init 26 = .ok (.if_icmp .ge 22, 3) := by decide +kernel
theorem dX4_init_29 : decode cX4_init 29 = .ok (.aload_n 0, 1) := by decide +kernel
theorem dX4_init_30 : decode cX4_init 30 = .ok (.getfield 17, 3) := by decide +kernel
theorem dX4_init_33 : decode cX4_init 33 = .ok (.iload_n 1, 1) := by decide +kernel
theorem dX4_init_34 : decode cX4_init 34 = .ok (.new 15, 3) := by decide +kernel
theorem dX4_init_37 : decode cX4_init 37 = .ok (.dup, 1) := by decide +kernel
theorem dX4_init_38 : decode cX4_init 38 = .ok (.invokespecial 21, 3) := by decide +kernel
theorem dX4_init_41 : decode cX4_init 41 = .ok (.aastore, 1) := by decide +kernel
theorem dX4_init_42 : decode cX4_init 42 = .ok (.iinc 1 1, 3) := by decide +kernel
theorem dX4_init_45 : decode cX4_init 45 = .ok (.goto (-22), 3) := by decide +kernel
theorem dX4_init_48 : decode cX4_init 48 = .ok (.return_, 1) := by decide +kernel
theorem dX5_init_0 : decode cX5_init 0 = .ok (.aload_n 0, 1) := by decide +kernel
theorem dX5_init_1 : decode cX5_init 1 = .ok (.invokespecial 3, 3) := by decide +kernel
theorem dX5_init_4 : decode cX5_init 4 = .ok (.aload_n 0, 1) := by decide +kernel
theorem dX5_init_5 : decode cX5_init 5 = .ok (.bipush 16, 2) := by decide +kernel
theorem dX5_init_7 : decode cX5_init 7 = .ok (.newarray .int, 2) := by decide +kernel
theorem dX5_init_9 : decode cX5_init 9 = .ok (.putfield 9, 3) := by decide +kernel
theorem dX5_init_12 : decode cX5_init 12 = .ok (.aload_n 0, 1) := by decide +kernel
theorem dX5_init_13 : decode cX5_init 13 = .ok (.iconst 3, 1) := by decide +kernel
theorem dX5_init_14 : decode cX5_init 14 = .ok (.newarray .int, 2) := by decide +kernel
theorem dX5_init_16 : decode cX5_init 16 = .ok (.dup, 1) := by decide +kernel
theorem dX5_init_17 : decode cX5_init 17 = .ok (.iconst 0, 1) := by decide +kernel
theorem dX5_init_18 : decode cX5_init 18 = .ok (.iconst 2, 1) := by decide +kernel
theorem dX5_init_19 : decode cX5_init 19 = .ok (.iastore, 1) := by decide +kernel
theorem dX5_init_20 : decode cX5_init 20 = .ok (.dup, 1) := by decide +kernel
theorem dX5_init_21 : decode cX5_init 21 = .ok (.iconst 1, 1) := by decide +kernel
theorem dX5_init_22 : decode cX5_init 22 = .ok (.iconst 3, 1) := by decide +kernel
theorem dX5_init_23 : decode cX5_init 23 = .ok (.iastore, 1) := by decide +kernel
theorem dX5_init_24 : decode cX5_init 24 = .ok (.dup, 1) := by decide +kernel
theorem dX5_init_25 : decode cX5_init 25 = .ok (.iconst 2, 1) := by decide +kernel
theorem dX5_init_26 : decode cX5_init 26 = .ok (.iconst 0, 1) := by decide +kernel
theorem dX5_init_27 : decode cX5_init 27 = .ok (.iastore, 1) := by decide +kernel
theorem dX5_init_28 : decode cX5_init 28 = .ok (.putfield 15, 3) := by decide +kernel
theorem dX5_init_31 : decode cX5_init 31 = .ok (.aload_n 0, 1) := by decide +kernel
theorem dX5_init_32 : decode cX5_init 32 = .ok (.new 18, 3) := by decide +kernel
theorem dX5_init_35 : decode cX5_init 35 = .ok (.dup, 1) := by decide +kernel
theorem dX5_init_36 : decode cX5_init 36 = .ok (.invokespecial 20, 3) := by decide +kernel
theorem dX5_init_39 : decode cX5_init 39 = .ok (.putfield 21, 3) := by decide +kernel
theorem dX5_init_42 : decode cX5_init 42 = .ok (.return_, 1) := by decide +kernel
theorem dX5_isFull_0 : decode cX5_isFull 0 = .ok (.aload_n 0, 1) := by decide +kernel
theorem dX5_isFull_1 : decode cX5_isFull 1 = .ok (.getfield 21, 3) := by decide +kernel
theorem dX5_isFull_4 : decode cX5_isFull 4 = .ok (.getfield 25, 3) := by decide +kernel
theorem dX5_isFull_7 : decode cX5_isFull 7 = .ok (.aload_n 0, 1) := by decide +kernel
theorem dX5_isFull_8 : decode cX5_isFull 8 = .ok (.getfield 15, 3) := by decide +kernel
theorem dX5_isFull_11 : decode cX5_isFull 11 = .ok (.iconst 0, 1) := by decide +kernel
theorem dX5_isFull_12 : decode cX5_isFull 12 = .ok (.iaload, 1) := by decide +kernel
theorem dX5_isFull_13 : decode cX5_isFull 13 = .ok (.if_icmp .lt 7, 3) := by decide +kernel
theorem dX5_isFull_16 : decode cX5_isFull 16 = .ok (.iconst 1, 1) := by decide +kernel
theorem dX5_isFull_17 : decode cX5_isFull 17 = .ok (.goto 4, 3) := by decide +kernel
theorem dX5_isFull_20 : decode cX5_isFull 20 = .ok (.iconst 0, 1) := by decide +kernel
theorem dX5_isFull_21 : decode cX5_isFull 21 = .ok (.ireturn, 1) := by decide +kernel
theorem dX5_useCell_0 : decode cX5_useCell 0 = .ok (.iload_n 1, 1) := by decide +kernel
theorem dX5_useCell_1 : decode cX5_useCell 1 = .ok (.bipush 16, 2) := by decide +kernel
theorem dX5_useCell_3 : decode cX5_useCell 3 = .ok (.invokestatic 29, 3) := by decide +kernel
theorem dX5_useCell_6 : decode cX5_useCell 6 = .ok (.ifCond .ne 6, 3) := by decide +kernel
theorem dX5_useCell_9 : decode cX5_useCell 9 = .ok (.bipush (-5), 2) := by decide +kernel
theorem dX5_useCell_11 : decode cX5_useCell 11 = .ok (.ireturn, 1) := by decide +kernel
theorem dX5_useCell_12 : decode cX5_useCell 12 = .ok (.aload_n 0, 1) := by decide +kernel
theorem dX5_useCell_13 : decode cX5_useCell 13 = .ok (.getfield 9, 3) := by decide +kernel
theorem dX5_useCell_16 : decode cX5_useCell 16 = .ok (.iload_n 1, 1) := by decide +kernel
theorem dX5_useCell_17 : decode cX5_useCell 17 = .ok (.iaload, 1) := by decide +kernel
theorem dX5_useCell_18 : decode cX5_useCell 18 = .ok (.istore_n 3, 1) := by decide +kernel
theorem dX5_useCell_19 : decode cX5_useCell 19 = .ok (.iload_n 2, 1) := by decide +kernel
theorem dX5_useCell_20 : decode cX5_useCell 20 = .ok (.bipush (-5), 2) := by decide +kernel
theorem dX5_useCell_22 : decode cX5_useCell 22 = .ok (.if_icmp .eq 10, 3) := by decide +kernel
theorem dX5_useCell_25 : decode cX5_useCell 25 = .ok (.aload_n 0, 1) := by decide +kernel
theorem dX5_useCell_26 : decode cX5_useCell 26 = .ok (.getfield 9, 3) := by decide +kernel
theorem dX5_useCell_29 : decode cX5_useCell 29 = .ok (.iload_n 1, 1) := by decide +kernel
theorem dX5_useCell_30 : decode cX5_useCell 30 = .ok (.iload_n 2, 1) := by decide +kernel
theorem dX5_useCell_31 : decode cX5_useCell 31 = .ok (.iastore, 1) := by decide +kernel
theorem dX5_useCell_32 : decode cX5_useCell 32 = .ok (.iload_n 3, 1) := by decide +kernel
theorem dX5_useCell_33 : decode cX5_useCell 33 = .ok (.ireturn, 1) := by decide +kernel
theorem dX5_copyFrom_0 : decode cX5_copyFrom 0 = .ok (.aload_n 1, 1) := by decide +kernel
theorem dX5_copyFrom_1 : decode cX5_copyFrom 1 = .ok (.getfield 9, 3) := by decide +kernel
theorem dX5_copyFrom_4 : decode cX5_copyFrom 4 = .ok (.iconst 0, 1) := by decide +kernel
theorem dX5_copyFrom_5 : decode cX5_copyFrom 5 = .ok (.aload_n 0, 1) := by decide +kernel
theorem dX5_copyFrom_6 : decode cX5_copyFrom 6 = .ok (.getfield 9, 3) := by decide +kernel
theorem dX5_copyFrom_9 : decode cX5_copyFrom 9 = .ok (.iconst 0, 1) := by decide +kernel
theorem dX5_copyFrom_10 : decode cX5_copyFrom 10 = .ok (.bipush 16, 2) := by decide +kernel
theorem dX5_copyFrom_12 : decode cX5_copyFrom 12 = .ok (.invokestatic 33, 3) := by decide +kernel
theorem dX5_copyFrom_15 : decode cX5_copyFrom 15 = .ok (.aload_n 1, 1) := by decide +kernel
theorem dX5_copyFrom_16 : decode cX5_copyFrom 16 = .ok (.getfield 15, 3) := by decide +kernel
theorem dX5_copyFrom_19 : decode cX5_copyFrom 19 = .ok (.iconst 0, 1) := by decide +kernel
theorem dX5_copyFrom_20 : decode cX5_copyFrom 20 = .ok (.aload_n 0, 1) := by decide +kernel
theorem dX5_copyFrom_21 : decode cX5_copyFrom 21 = .ok (.getfield 15, 3) := by decide +kernel
theorem dX5_copyFrom_24 : decode cX5_copyFrom 24 = .ok (.iconst 0, 1) := by decide +kernel
theorem dX5_copyFrom_25 : decode cX5_copyFrom 25 = .ok (.aload_n 0, 1) := by decide +kernel
theorem dX5_copyFrom_26 : decode cX5_copyFrom 26 = .ok (.getfield 15, 3) := by decide +kernel
theorem dX5_copyFrom_29 : decode cX5_copyFrom 29 = .ok (.arraylength, 1) := by decide +kernel
theorem dX5_copyFrom_30 : decode cX5_copyFrom 30 = .ok (.invokestatic 33, 3) := by decide +kernel
theorem dX5_copyFrom_33 : decode cX5_copyFrom 33 = .ok (.aload_n 0, 1) := by decide +kernel
theorem dX5_copyFrom_34 : decode cX5_copyFrom 34 = .ok (.getfield 21, 3) := by decide +kernel
theorem dX5_copyFrom_37 : decode cX5_copyFrom 37 = .ok (.aload_n 1, 1) := by decide +kernel
theorem dX5_copyFrom_38 : decode cX5_copyFrom 38 = .ok (.getfield 21, 3) := by decide +kernel
theorem dX5_copyFrom_41 : decode cX5_copyFrom 41 = .ok (.invokevirtual 39, 3) := by decide +kernel
theorem dX5_copyFrom_44 : decode cX5_copyFrom 44 = .ok (.return_, 1) := by decide +kernel
theorem dX6_init_0 : decode cX6_init 0 = .ok (.aload_n 0, 1) := by decide +kernel
theorem dX6_init_1 : decode cX6_init 1 = .ok (.invokespecial 1, 3) := by decide +kernel
theorem dX6_init_4 : decode cX6_init 4 = .ok (.aload_n 0, 1) := by decide +kernel
theorem dX6_init_5 : decode cX6_init 5 = .ok (.new 7, 3) := by decide +kernel
theorem dX6_init_8 : decode cX6_init 8 = .ok (.dup, 1) := by decide +kernel
theorem dX6_init_9 : decode cX6_init 9 = .ok (.invokespecial 9, 3) := by decide +kernel
theorem dX6_init_12 : decode cX6_init 12 = .ok (.putfield 10, 3) := by decide +kernel
theorem dX6_init_15 : decode cX6_init 15 = .ok (.aload_n 0, 1) := by decide +kernel
theorem dX6_init_16 : decode cX6_init 16 = .ok (.new 7, 3) := by decide +kernel
theorem dX6_init_19 : decode cX6_init 19 = .ok (.dup, 1) := by decide +kernel
theorem dX6_init_20 : decode cX6_init 20 = .ok (.invokespecial 9, 3) := by decide +kernel
theorem dX6_init_23 : decode cX6_init 23 = .ok (.putfield 16, 3) := by decide +kernel
theorem dX6_init_26 : decode cX6_init 26 = .ok (.aload_n 0, 1) := by decide +kernel
theorem dX6_init_27 : decode cX6_init 27 = .ok (.new 7, 3) := by decide +kernel
theorem dX6_init_30 : decode cX6_init 30 = .ok (.dup, 1) := by decide +kernel
theorem dX6_init_31 : decode cX6_init 31 = .ok (.invokespecial 9, 3) := by decide +kernel
theorem dX6_init_34 : decode cX6_init 34 = .ok (.putfield 19, 3) := by decide +kernel
theorem dX6_init_37 : decode cX6_init 37 = .ok (.aload_n 0, 1) := by decide +kernel
theorem dX6_init_38 : decode cX6_init 38 = .ok (.iconst 4, 1) := by decide +kernel
theorem dX6_init_39 : decode cX6_init 39 = .ok (.anewarray 7, 3) := by decide +kernel
theorem dX6_init_42 : decode cX6_init 42 = .ok (.putfield 22, 3) := by decide +kernel
theorem dX6_init_45 : decode cX6_init 45 = .ok (.aload_n 0, 1) := by decide +kernel
theorem dX6_init_46 : decode cX6_init 46 = .ok (.new 26, 3) := by decide +kernel
theorem dX6_init_49 : decode cX6_init 49 = .ok (.dup, 1) := by decide +kernel
theorem dX6_init_50 : decode cX6_init 50 = .ok (.invokespecial 28, 3) := by decide +kernel
theorem dX6_init_53 : decode cX6_init 53 = .ok (.putfield 29, 3) := by decide +kernel
theorem dX6_init_56 : decode cX6_init 56 = .ok (.iconst 0, 1) := by decide +kernel
theorem dX6_init_57 : decode cX6_init 57 = .ok (.istore_n 1, 1) := by decide +kernel
theorem dX6_init_58 : decode cX6_init 58 = .ok (.iload_n 1, 1) := by decide +kernel
theorem dX6_init_59 : decode cX6_init 59 = .ok (.iconst 4, 1) := by decide +kernel
theorem dX6_init_60 : decode cX6_init 60 = .ok (.if_icmp .ge 22, 3) := by decide +kernel
theorem dX6_init_63 : decode cX6_init 63 = .ok (.aload_n 0, 1) := by decide +kernel
theorem dX6_init_64 : decode cX6_init 64 = .ok (.getfield 22, 3) := by decide +kernel
theorem dX6_init_67 : decode cX6_init 67 = .ok (.iload_n 1, 1) := by decide +kernel
theorem dX6_init_68 : decode cX6_init 68 = .ok (.new 7, 3) := by decide +kernel
theorem dX6_init_71 : decode cX6_init 71 = .ok (.dup, 1) := by decide +kernel
theorem dX6_init_72 : decode cX6_init 72 = .ok (.invokespecial 9, 3) := by decide +kernel
theorem dX6_init_75 : decode cX6_init 75 = .ok (.aastore, 1) := by decide +kernel
theorem dX6_init_76 : decode cX6_init 76 = .ok (.iinc 1 1, 3) := by decide +kernel
theorem dX6_init_79 : decode cX6_init 79 = .ok (.goto (-21), 3) := by decide +kernel
theorem dX6_init_82 : decode cX6_init 82 = .ok (.return_, 1) := by decide +kernel
theorem dX6_set_0 : decode cX6_set 0 = .ok (.iload_n 1, 1) := by decide +kernel
theorem dX6_set_1 : decode cX6_set 1 = .ok (.getstatic 33, 3) := by decide +kernel
theorem dX6_set_4 : decode cX6_set 4 = .ok (.arraylength, 1) := by decide +kernel
theorem dX6_set_5 : decode cX6_set 5 = .ok (.invokestatic 37, 3) := by decide +kernel
theorem dX6_set_8 : decode cX6_set 8 = .ok (.ifCond .eq 20, 3) := by decide +kernel
theorem dX6_set_11 : decode cX6_set 11 = .ok (.iload_n 2, 1) := by decide +kernel
theorem dX6_set_12 : decode cX6_set 12 = .ok (.getstatic 33, 3) := by decide +kernel
theorem dX6_set_15 : decode cX6_set 15 = .ok (.iload_n 1, 1) := by decide +kernel
theorem dX6_set_16 : decode cX6_set 16 = .ok (.iaload, 1) := by decide +kernel
theorem dX6_set_17 : decode cX6_set 17 = .ok (.getstatic 41, 3) := by decide +kernel
theorem dX6_set_20 : decode cX6_set 20 = .ok (.iload_n 1, 1) := by decide +kernel
theorem dX6_set_21 : decode cX6_set 21 = .ok (.iaload, 1) := by decide +kernel
theorem dX6_set_22 : decode cX6_set 22 = .ok (.invokestatic 44, 3) := by decide +kernel
theorem dX6_set_25 : decode cX6_set 25 = .ok (.ifCond .ne 6, 3) := by decide +kernel
theorem dX6_set_28 : decode cX6_set 28 = .ok (.bipush (-2), 2) := by decide +kernel
theorem dX6_set_30 : decode cX6_set 30 = .ok (.ireturn, 1) := by decide +kernel
theorem dX6_set_31 : decode cX6_set 31 = .ok (.iload_n 1, 1) := by decide +kernel
theorem dX6_set_32 : decode cX6_set 32 = .ok (.ifCond .ne 17, 3) := by decide +kernel
theorem dX6_set_35 : decode cX6_set 35 = .ok (.aload_n 0, 1) := by decide +kernel
theorem dX6_set_36 : decode cX6_set 36 = .ok (.getfield 10, 3) := by decide +kernel
theorem dX6_set_39 : decode cX6_set 39 = .ok (.invokevirtual 48, 3) := by decide +kernel
theorem dX6_set_42 : decode cX6_set 42 = .ok (.iload_n 2, 1) := by decide +kernel
theorem dX6_set_43 : decode cX6_set 43 = .ok (.if_icmp .lt 6, 3) := by decide +kernel
theorem dX6_set_46 : decode cX6_set 46 = .ok (.bipush (-4), 2) := by decide +kernel
theorem dX6_set_48 : decode cX6_set 48 = .ok (.ireturn, 1) := by decide +kernel
theorem dX6_set_49 : decode cX6_set 49 = .ok (.aload_n 0, 1) := by decide +kernel
theorem dX6_set_50 : decode cX6_set 50 = .ok (.getfield 10, 3) := by decide +kernel
theorem dX6_set_53 : decode cX6_set 53 = .ok (.getfield 52, 3) := by decide +kernel
theorem dX6_set_56 : decode cX6_set 56 = .ok (.iload_n 1, 1) := by decide +kernel
theorem dX6_set_57 : decode cX6_set 57 = .ok (.iaload, 1) := by decide +kernel
theorem dX6_set_58 : decode cX6_set 58 = .ok (.istore_n 3, 1) := by decide +kernel
theorem dX6_set_59 : decode cX6_set 59 = .ok (.iload_n 3, 1) := by decide +kernel
theorem dX6_set_60 : decode cX6_set 60 = .ok (.iload_n 2, 1) := by decide +kernel
theorem dX6_set_61 : decode cX6_set 61 = .ok (.if_icmp .ne 6, 3) := by decide +kernel
theorem dX6_set_64 : decode cX6_set 64 = .ok (.bipush (-5), 2) := by decide +kernel
theorem dX6_set_66 : decode cX6_set 66 = .ok (.ireturn, 1) := by decide +kernel
theorem dX6_set_67 : decode cX6_set 67 = .ok (.aload_n 0, 1) := by decide +kernel
theorem dX6_set_68 : decode cX6_set 68 = .ok (.invokevirtual 55, 3) := by decide +kernel
theorem dX6_set_71 : decode cX6_set 71 = .ok (.aload_n 0, 1) := by decide +kernel
theorem dX6_set_72 : decode cX6_set 72 = .ok (.getfield 10, 3) := by decide +kernel
theorem dX6_set_75 : decode cX6_set 75 = .ok (.getfield 52, 3) := by decide +kernel
theorem dX6_set_78 : decode cX6_set 78 = .ok (.iload_n 1, 1) := by decide +kernel
theorem dX6_set_79 : decode cX6_set 79 = .ok (.iload_n 2, 1) := by decide +kernel
theorem dX6_set_80 : decode cX6_set 80 = .ok (.iastore, 1) := by decide +kernel
theorem dX6_set_81 : decode cX6_set 81 = .ok (.iload_n 3, 1) := by decide +kernel
theorem dX6_set_82 : decode cX6_set 82 = .ok (.ireturn, 1) := by decide +kernel
theorem dX6_setShare_0 : decode cX6_setShare 0 = .ok (.aload_n 0, 1) := by decide +kernel
theorem dX6_setShare_1 : decode cX6_setShare 1 = .ok (.getfield 10, 3) := by decide +kernel
theorem dX6_setShare_4 : decode cX6_setShare 4 = .ok (.iload_n 1, 1) := by decide +kernel
theorem dX6_setShare_5 : decode cX6_setShare 5 = .ok (.invokevirtual 58, 3) := by decide +kernel
theorem dX6_setShare_8 : decode cX6_setShare 8 = .ok (.astore_n 3, 1) := by decide +kernel
theorem dX6_setShare_9 : decode cX6_setShare 9 = .ok (.aload_n 3, 1) := by decide +kernel
theorem dX6_setShare_10 : decode cX6_setShare 10 = .ok (.ifnonnull 5, 3) := by decide +kernel
theorem dX6_setShare_13 : decode cX6_setShare 13 = .ok (.iconst (-1), 1) := by decide +kernel
theorem dX6_setShare_14 : decode cX6_setShare 14 = .ok (.ireturn, 1) := by decide +kernel
theorem dX6_setShare_15 : decode cX6_setShare 15 = .ok (.iload_n 2, 1) := by decide +kernel
theorem dX6_setShare_16 : decode cX6_setShare 16 = .ok (.iconst 1, 1) := by decide +kernel
theorem dX6_setShare_17 : decode cX6_setShare 17 = .ok (.bipush 8, 2) := by decide +kernel
theorem dX6_setShare_19 : decode cX6_setShare 19 = .ok (.invokestatic 44, 3) := by decide +kernel
theorem dX6_setShare_22 : decode cX6_setShare 22 = .ok (.ifCond .ne 6, 3) := by decide +kernel
theorem dX6_setShare_25 : decode cX6_setShare 25 = .ok (.bipush (-2), 2) := by decide +kernel
theorem dX6_setShare_27 : decode cX6_setShare 27 = .ok (.ireturn, 1) := by decide +kernel
theorem dX6_setShare_28 : decode cX6_setShare 28 = .ok (.aload_n 3, 1) := by decide +kernel
theorem dX6_setShare_29 : decode cX6_setShare 29 = .ok (.getfield 62, 3) := by decide +kernel
theorem dX6_setShare_32 : decode cX6_setShare 32 = .ok (.istore 4, 2) := by decide +kernel
theorem dX6_setShare_34 : decode cX6_setShare 34 = .ok (.iload 4, 2) := by decide +kernel
theorem dX6_setShare_36 : decode cX6_setShare 36 = .ok (.iload_n 2, 1) := by decide +kernel
theorem dX6_setShare_37 : decode cX6_setShare 37 = .ok (.if_icmp .ne 6, 3) := by decide +kernel
theorem dX6_setShare_40 : decode cX6_setShare 40 = .ok (.bipush (-5), 2) := by decide +kernel
theorem dX6_setShare_42 : decode cX6_setShare 42 = .ok (.ireturn, 1) := by decide +kernel
theorem dX6_setShare_43 : decode cX6_setShare 43 = .ok (.aload_n 0, 1) := by decide +kernel
theorem dX6_setShare_44 : decode cX6_setShare 44 = .ok (.invokevirtual 55, 3) := by decide +kernel
theorem dX6_setShare_47 : decode cX6_setShare 47 = .ok (.aload_n 3, 1) := by decide +kernel
theorem dX6_setShare_48 : decode cX6_setShare 48 = .ok (.iload_n 2, 1) := by decide +kernel
theorem dX6_setShare_49 : decode cX6_setShare 49 = .ok (.putfield 62, 3) := by decide +kernel
theorem dX6_setShare_52 : decode cX6_setShare 52 = .ok (.iload 4, 2) := by decide +kernel
theorem dX6_setShare_54 : decode cX6_setShare 54 = .ok (.ireturn, 1) := by decide +kernel
theorem dX6_setTarget_0 : decode cX6_setTarget 0 = .ok (.aload_n 0, 1) := by decide +kernel
theorem dX6_setTarget_1 : decode cX6_setTarget 1 = .ok (.getfield 10, 3) := by decide +kernel
theorem dX6_setTarget_4 : decode cX6_setTarget 4 = .ok (.iload_n 1, 1) := by decide +kernel
theorem dX6_setTarget_5 : decode cX6_setTarget 5 = .ok (.invokevirtual 68, 3) := by decide +kernel
theorem dX6_setTarget_8 : decode cX6_setTarget 8 = .ok (.astore 4, 2) := by decide +kernel
theorem dX6_setTarget_10 : decode cX6_setTarget 10 = .ok (.aload 4, 2) := by decide +kernel
theorem dX6_setTarget_12 : decode cX6_setTarget 12 = .ok (.ifnonnull 5, 3) := by decide +kernel
theorem dX6_setTarget_15 : decode cX6_setTarget 15 = .ok (.iconst (-1), 1) := by decide +kernel
theorem dX6_setTarget_16 : decode cX6_setTarget 16 = .ok (.ireturn, 1) := by decide +kernel
theorem dX6_setTarget_17 : decode cX6_setTarget 17 = .ok (.iload_n 2, 1) := by decide +kernel
theorem dX6_setTarget_18 : decode cX6_setTarget 18 = .ok (.getstatic 72, 3) := by decide +kernel
theorem dX6_setTarget_21 : decode cX6_setTarget 21 = .ok (.arraylength, 1) := by decide +kernel
theorem dX6_setTarget_22 : decode cX6_setTarget 22 = .ok (.invokestatic 37, 3) := by decide +kernel
theorem dX6_setTarget_25 : decode cX6_setTarget 25 = .ok (.ifCond .eq 20, 3) := by decide +kernel
theorem dX6_setTarget_28 : decode cX6_setTarget 28 = .ok (.iload_n 3, 1) := by decide +kernel
theorem dX6_setTarget_29 : decode cX6_setTarget 29 = .ok (.getstatic 72, 3) := by decide +kernel
theorem dX6_setTarget_32 : decode cX6_setTarget 32 = .ok (.iload_n 2, 1) := by decide +kernel
theorem dX6_setTarget_33 : decode cX6_setTarget 33 = .ok (.iaload, 1) := by decide +kernel
theorem dX6_setTarget_34 : decode cX6_setTarget 34 = .ok (.getstatic 75, 3) := by decide +kernel
theorem dX6_setTarget_37 : decode cX6_setTarget 37 = .ok (.iload_n 2, 1) := by decide +kernel
theorem dX6_setTarget_38 : decode cX6_setTarget 38 = .ok (.iaload, 1) := by decide +kernel
theorem dX6_setTarget_39 : decode cX6_setTarget 39 = .ok (.invokestatic 44, 3) := by decide +kernel
theorem dX6_setTarget_42 : decode cX6_setTarget 42 = .ok (.ifCond .ne 6, 3) := by decide +kernel
theorem dX6_setTarget_45 : decode cX6_setTarget 45 = .ok (.bipush (-2), 2) := by decide +kernel
theorem dX6_setTarget_47 : decode cX6_setTarget 47 = .ok (.ireturn, 1) := by decide +kernel
theorem dX6_setTarget_48 : decode cX6_setTarget 48 = .ok (.aload 4, 2) := by decide +kernel
theorem dX6_setTarget_50 : decode cX6_setTarget 50 = .ok (.getfield 78, 3) := by decide +kernel
theorem dX6_setTarget_53 : decode cX6_setTarget 53 = .ok (.iload_n 2, 1) := by decide +kernel
theorem dX6_setTarget_54 : decode cX6_setTarget 54 = .ok (.iaload, 1) := by decide +kernel
theorem dX6_setTarget_55 : decode cX6_setTarget 55 = .ok (.istore 5, 2) := by decide +kernel
theorem dX6_setTarget_57 : decode cX6_setTarget 57 = .ok (.iload 5, 2) := by decide +kernel
theorem dX6_setTarget_59 : decode cX6_setTarget 59 = .ok (.iload_n 3, 1) := by decide +kernel
theorem dX6_setTarget_60 : decode cX6_setTarget 60 = .ok (.if_icmp .ne 6, 3) := by decide +kernel
theorem dX6_setTarget_63 : decode cX6_setTarget 63 = .ok (.bipush (-5), 2) := by decide +kernel
theorem dX6_setTarget_65 : decode cX6_setTarget 65 = .ok (.ireturn, 1) := by decide +kernel
theorem dX6_setTarget_66 : decode cX6_setTarget 66 = .ok (.aload_n 0, 1) := by decide +kernel
theorem dX6_setTarget_67 : decode cX6_setTarget 67 = .ok (.invokevirtual 55, 3) := by decide +kernel
theorem dX6_setTarget_70 : decode cX6_setTarget 70 = .ok (.aload 4, 2) := by decide +kernel
theorem dX6_setTarget_72 : decode cX6_setTarget 72 = .ok (.getfield 78, 3) := by decide +kernel
theorem dX6_setTarget_75 : decode cX6_setTarget 75 = .ok (.iload_n 2, 1) := by decide +kernel
theorem dX6_setTarget_76 : decode cX6_setTarget 76 = .ok (.iload_n 3, 1) := by decide +kernel
theorem dX6_setTarget_77 : decode cX6_setTarget 77 = .ok (.iastore, 1) := by decide +kernel
theorem dX6_setTarget_78 : decode cX6_setTarget 78 = .ok (.iload 5, 2) := by decide +kernel
theorem dX6_setTarget_80 : decode cX6_setTarget 80 = .ok (.ireturn, 1) := by decide +kernel
theorem dX6_setCell_0 : decode cX6_setCell 0 = .ok (.aload_n 0, 1) := by decide +kernel
theorem dX6_setCell_1 : decode cX6_setCell 1 = .ok (.getfield 10, 3) := by decide +kernel
theorem dX6_setCell_4 : decode cX6_setCell 4 = .ok (.iload_n 1, 1) := by decide +kernel
theorem dX6_setCell_5 : decode cX6_setCell 5 = .ok (.invokevirtual 68, 3) := by decide +kernel
theorem dX6_setCell_8 : decode cX6_setCell 8 = .ok (.astore 4, 2) := by decide +kernel
theorem dX6_setCell_10 : decode cX6_setCell 10 = .ok (.aload 4, 2) := by decide +kernel
theorem dX6_setCell_12 : decode cX6_setCell 12 = .ok (.ifnonnull 5, 3) := by decide +kernel
theorem dX6_setCell_15 : decode cX6_setCell 15 = .ok (.iconst (-1), 1) := by decide +kernel
theorem dX6_setCell_16 : decode cX6_setCell 16 = .ok (.ireturn, 1) := by decide +kernel
theorem dX6_setCell_17 : decode cX6_setCell 17 = .ok (.iload_n 2, 1) := by decide +kernel
theorem dX6_setCell_18 : decode cX6_setCell 18 = .ok (.bipush 16, 2) := by decide +kernel
theorem dX6_setCell_20 : decode cX6_setCell 20 = .ok (.invokestatic 37, 3) := by decide +kernel
theorem dX6_setCell_23 : decode cX6_setCell 23 = .ok (.ifCond .eq 13, 3) := by decide +kernel
theorem dX6_setCell_26 : decode cX6_setCell 26 = .ok (.iload_n 3, 1) := by decide +kernel
theorem dX6_setCell_27 : decode cX6_setCell 27 = .ok (.iconst 0, 1) := by decide +kernel
theorem dX6_setCell_28 : decode cX6_setCell 28 = .ok (.bipush 99, 2) := by decide +kernel
theorem dX6_setCell_30 : decode cX6_setCell 30 = .ok (.invokestatic 44, 3) := by decide +kernel
theorem dX6_setCell_33 : decode cX6_setCell 33 = .ok (.ifCond .ne 6, 3) := by decide +kernel
theorem dX6_setCell_36 : decode cX6_setCell 36 = .ok (.bipush (-2), 2) := by decide +kernel
theorem dX6_setCell_38 : decode cX6_setCell 38 = .ok (.ireturn, 1) := by decide +kernel
theorem dX6_setCell_39 : decode cX6_setCell 39 = .ok (.aload 4, 2) := by decide +kernel
theorem dX6_setCell_41 : decode cX6_setCell 41 = .ok (.getfield 83, 3) := by decide +kernel
theorem dX6_setCell_44 : decode cX6_setCell 44 = .ok (.iload_n 2, 1) := by decide +kernel
theorem dX6_setCell_45 : decode cX6_setCell 45 = .ok (.iaload, 1) := by decide +kernel
theorem dX6_setCell_46 : decode cX6_setCell 46 = .ok (.istore 5, 2) := by decide +kernel
theorem dX6_setCell_48 : decode cX6_setCell 48 = .ok (.iload 5, 2) := by decide +kernel
theorem dX6_setCell_50 : decode cX6_setCell 50 = .ok (.iload_n 3, 1) := by decide +kernel
theorem dX6_setCell_51 : decode cX6_setCell 51 = .ok (.if_icmp .ne 6, 3) := by decide +kernel
theorem dX6_setCell_54 : decode cX6_setCell 54 = .ok (.bipush (-5), 2) := by decide +kernel
theorem dX6_setCell_56 : decode cX6_setCell 56 = .ok (.ireturn, 1) := by decide +kernel
theorem dX6_setCell_57 : decode cX6_setCell 57 = .ok (.aload_n 0, 1) := by decide +kernel
theorem dX6_setCell_58 : decode cX6_setCell 58 = .ok (.invokevirtual 55, 3) := by decide +kernel
theorem dX6_setCell_61 : decode cX6_setCell 61 = .ok (.aload 4, 2) := by decide +kernel
theorem dX6_setCell_63 : decode cX6_setCell 63 = .ok (.getfield 83, 3) := by decide +kernel
theorem dX6_setCell_66 : decode cX6_setCell 66 = .ok (.iload_n 2, 1) := by decide +kernel
theorem dX6_setCell_67 : decode cX6_setCell 67 = .ok (.iload_n 3, 1) := by decide +kernel
theorem dX6_setCell_68 : decode cX6_setCell 68 = .ok (.iastore, 1) := by decide +kernel
theorem dX6_setCell_69 : decode cX6_setCell 69 = .ok (.iload 5, 2) := by decide +kernel
theorem dX6_setCell_71 : decode cX6_setCell 71 = .ok (.ireturn, 1) := by decide +kernel
theorem dX6_read_0 : decode cX6_read 0 = .ok (.aload_n 0, 1) := by decide +kernel
theorem dX6_read_1 : decode cX6_read 1 = .ok (.iload_n 1, 1) := by decide +kernel
theorem dX6_read_2 : decode cX6_read 2 = .ok (.iload_n 2, 1) := by decide +kernel
theorem dX6_read_3 : decode cX6_read 3 = .ok (.iload_n 3, 1) := by decide +kernel
theorem dX6_read_4 : decode cX6_read 4 = .ok (.bipush (-5), 2) := by decide +kernel
theorem dX6_read_6 : decode cX6_read 6 = .ok (.invokevirtual 86, 3) := by decide +kernel
theorem dX6_read_9 : decode cX6_read 9 = .ok (.ireturn, 1) := by decide +kernel
theorem dX6_write_0 : decode cX6_write 0 = .ok (.aload_n 0, 1) := by decide +kernel
theorem dX6_write_1 : decode cX6_write 1 = .ok (.getfield 10, 3) := by decide +kernel
theorem dX6_write_4 : decode cX6_write 4 = .ok (.iload_n 1, 1) := by decide +kernel
theorem dX6_write_5 : decode cX6_write 5 = .ok (.invokevirtual 58, 3) := by decide +kernel
theorem dX6_write_8 : decode cX6_write 8 = .ok (.ifnull 14, 3) := by decide +kernel
theorem dX6_write_11 : decode cX6_write 11 = .ok (.aload_n 0, 1) := by decide +kernel
theorem dX6_write_12 : decode cX6_write 12 = .ok (.getfield 10, 3) := by decide +kernel
theorem dX6_write_15 : decode cX6_write 15 = .ok (.iload_n 2, 1) := by decide +kernel
theorem dX6_write_16 : decode cX6_write 16 = .ok (.invokevirtual 68, 3) := by decide +kernel
theorem dX6_write_19 : decode cX6_write 19 = .ok (.ifnonnull 5, 3) := by decide +kernel
theorem dX6_write_22 : decode cX6_write 22 = .ok (.iconst (-1), 1) := by decide +kernel
theorem dX6_write_23 : decode cX6_write 23 = .ok (.ireturn, 1) := by decide +kernel
theorem dX6_write_24 : decode cX6_write 24 = .ok (.iload 4, 2) := by decide +kernel
theorem dX6_write_26 : decode cX6_write 26 = .ok (.iconst 0, 1) := by decide +kernel
theorem dX6_write_27 : decode cX6_write 27 = .ok (.bipush 99, 2) := by decide +kernel
theorem dX6_write_29 : decode cX6_write 29 = .ok (.invokestatic 44, 3) := by decide +kernel
theorem dX6_write_32 : decode cX6_write 32 = .ok (.ifCond .ne 6, 3) := by decide +kernel
theorem dX6_write_35 : decode cX6_write 35 = .ok (.bipush (-2), 2) := by decide +kernel
theorem dX6_write_37 : decode cX6_write 37 = .ok (.ireturn, 1) := by decide +kernel
theorem dX6_write_38 : decode cX6_write 38 = .ok (.aload_n 0, 1) := by decide +kernel
theorem dX6_write_39 : decode cX6_write 39 = .ok (.iload_n 1, 1) := by decide +kernel
theorem dX6_write_40 : decode cX6_write 40 = .ok (.iload_n 2, 1) := by decide +kernel
theorem dX6_write_41 : decode cX6_write 41 = .ok (.iload_n 3, 1) := by decide +kernel
theorem dX6_write_42 : decode cX6_write 42 = .ok (.iload 4, 2) := by decide +kernel
theorem dX6_write_44 : decode cX6_write 44 = .ok (.invokevirtual 86, 3) := by decide +kernel
theorem dX6_write_47 : decode cX6_write 47 = .ok (.ireturn, 1) := by decide +kernel
theorem dX6_withdraw_0 : decode cX6_withdraw 0 = .ok (.aload_n 0, 1) := by decide +kernel
theorem dX6_withdraw_1 : decode cX6_withdraw 1 = .ok (.getfield 10, 3) := by decide +kernel
theorem dX6_withdraw_4 : decode cX6_withdraw 4 = .ok (.iload_n 1, 1) := by decide +kernel
theorem dX6_withdraw_5 : decode cX6_withdraw 5 = .ok (.invokevirtual 58, 3) := by decide +kernel
theorem dX6_withdraw_8 : decode cX6_withdraw 8 = .ok (.astore_n 2, 1) := by decide +kernel
theorem dX6_withdraw_9 : decode cX6_withdraw 9 = .ok (.aload_n 2, 1) := by decide +kernel
theorem dX6_withdraw_10 : decode cX6_withdraw 10 = .ok (.ifnonnull 5, 3) := by decide +kernel
theorem dX6_withdraw_13 : decode cX6_withdraw 13 = .ok (.iconst (-1), 1) := by decide +kernel
theorem dX6_withdraw_14 : decode cX6_withdraw 14 = .ok (.ireturn, 1) := by decide +kernel
theorem dX6_withdraw_15 : decode cX6_withdraw 15 = .ok (.aload_n 2, 1) := by decide +kernel
theorem dX6_withdraw_16 : decode cX6_withdraw 16 = .ok (.getfield 121, 3) := by decide +kernel
theorem dX6_withdraw_19 : decode cX6_withdraw 19 = .ok (.getfield 125, 3) := by decide +kernel
theorem dX6_withdraw_22 : decode cX6_withdraw 22 = .ok (.ifCond .ne 6, 3) := by decide +kernel
theorem dX6_withdraw_25 : decode cX6_withdraw 25 = .ok (.bipush (-5), 2) := by decide +kernel
theorem dX6_withdraw_27 : decode cX6_withdraw 27 = .ok (.ireturn, 1) := by decide +kernel
theorem dX6_withdraw_28 : decode cX6_withdraw 28 = .ok (.aload_n 0, 1) := by decide +kernel
theorem dX6_withdraw_29 : decode cX6_withdraw 29 = .ok (.invokevirtual 55, 3) := by decide +kernel
theorem dX6_withdraw_32 : decode cX6_withdraw 32 = .ok (.aload_n 0, 1) := by decide +kernel
theorem dX6_withdraw_33 : decode cX6_withdraw 33 = .ok (.getfield 10, 3) := by decide +kernel
theorem dX6_withdraw_36 : decode cX6_withdraw 36 = .ok (.aload_n 2, 1) := by decide +kernel
theorem dX6_withdraw_37 : decode cX6_withdraw 37 = .ok (.invokevirtual 130, 3) := by decide +kernel
theorem dX6_withdraw_40 : decode cX6_withdraw 40 = .ok (.ireturn, 1) := by decide +kernel
theorem dX6_pass_0 : decode cX6_pass 0 = .ok (.iload_n 1, 1) := by decide +kernel
theorem dX6_pass_1 : decode cX6_pass 1 = .ok (.iconst 1, 1) := by decide +kernel
theorem dX6_pass_2 : decode cX6_pass 2 = .ok (.bipush 99, 2) := by decide +kernel
theorem dX6_pass_4 : decode cX6_pass 4 = .ok (.invokestatic 44, 3) := by decide +kernel
theorem dX6_pass_7 : decode cX6_pass 7 = .ok (.ifCond .ne 6, 3) := by decide +kernel
theorem dX6_pass_10 : decode cX6_pass 10 = .ok (.bipush (-2), 2) := by decide +kernel
theorem dX6_pass_12 : decode cX6_pass 12 = .ok (.ireturn, 1) := by decide +kernel
theorem dX6_pass_13 : decode cX6_pass 13 = .ok (.aload_n 0, 1) := by decide +kernel
theorem dX6_pass_14 : decode cX6_pass 14 = .ok (.getfield 10, 3) := by decide +kernel
theorem dX6_pass_17 : decode cX6_pass 17 = .ok (.getfield 134, 3) := by decide +kernel
theorem dX6_pass_20 : decode cX6_pass 20 = .ok (.iload_n 1, 1) := by decide +kernel
theorem dX6_pass_21 : decode cX6_pass 21 = .ok (.iadd, 1) := by decide +kernel
theorem dX6_pass_22 : decode cX6_pass 22 = .ok (.sipush 9999, 3) := by decide +kernel
theorem dX6_pass_25 : decode cX6_pass 25 = .ok (.if_icmp .le 6, 3) := by decide +kernel
theorem dX6_pass_28 : decode cX6_pass 28 = .ok (.bipush (-3), 2) := by decide +kernel
theorem dX6_pass_30 : decode cX6_pass 30 = .ok (.ireturn, 1) := by decide +kernel
theorem dX6_pass_31 : decode cX6_pass 31 = .ok (.aload_n 0, 1) := by decide +kernel
theorem dX6_pass_32 : decode cX6_pass 32 = .ok (.invokevirtual 55, 3) := by decide +kernel
theorem dX6_pass_35 : decode cX6_pass 35 = .ok (.iconst 0, 1) := by decide +kernel
theorem dX6_pass_36 : decode cX6_pass 36 = .ok (.istore_n 2, 1) := by decide +kernel
theorem dX6_pass_37 : decode cX6_pass 37 = .ok (.iconst 0, 1) := by decide +kernel
theorem dX6_pass_38 : decode cX6_pass 38 = .ok (.istore_n 3, 1) := by decide +kernel
theorem dX6_pass_39 : decode cX6_pass 39 = .ok (.iload_n 3, 1) := by decide +kernel
theorem dX6_pass_40 : decode cX6_pass 40 = .ok (.iload_n 1, 1) := by decide +kernel
theorem dX6_pass_41 : decode cX6_pass 41 = .ok (.if_icmp .ge 24, 3) := by decide +kernel
theorem dX6_pass_44 : decode cX6_pass 44 = .ok (.aload_n 0, 1) := by decide +kernel
theorem dX6_pass_45 : decode cX6_pass 45 = .ok (.getfield 10, 3) := by decide +kernel
theorem dX6_pass_48 : decode cX6_pass 48 = .ok (.invokevirtual 137, 3) := by decide +kernel
theorem dX6_pass_51 : decode cX6_pass 51 = .ok (.bipush (-5), 2) := by decide +kernel
theorem dX6_pass_53 : decode cX6_pass 53 = .ok (.if_icmp .eq 6, 3) := by decide +kernel
theorem dX6_pass_56 : decode cX6_pass 56 = .ok (.iinc 2 1, 3) := by decide +kernel
theorem dX6_pass_59 : decode cX6_pass 59 = .ok (.iinc 3 1, 3) := by decide +kernel
theorem dX6_pass_62 : decode cX6_pass 62 = .ok (.goto (-23), 3) := by decide +kernel
theorem dX6_pass_65 : decode cX6_pass 65 = .ok (.iload_n 2, 1) := by decide +kernel
theorem dX6_pass_66 : decode cX6_pass 66 = .ok (.ireturn, 1) := by decide +kernel
theorem dX6_undo_0 : decode cX6_undo 0 = .ok (.aload_n 0, 1) := by decide +kernel
theorem dX6_undo_1 : decode cX6_undo 1 = .ok (.getfield 145, 3) := by decide +kernel
theorem dX6_undo_4 : decode cX6_undo 4 = .ok (.iconst 1, 1) := by decide +kernel
theorem dX6_undo_5 : decode cX6_undo 5 = .ok (.isub, 1) := by decide +kernel
theorem dX6_undo_6 : decode cX6_undo 6 = .ok (.istore_n 1, 1) := by decide +kernel
theorem dX6_undo_7 : decode cX6_undo 7 = .ok (.iload_n 1, 1) := by decide +kernel
theorem dX6_undo_8 : decode cX6_undo 8 = .ok (.iconst 4, 1) := by decide +kernel
theorem dX6_undo_9 : decode cX6_undo 9 = .ok (.invokestatic 37, 3) := by decide +kernel
theorem dX6_undo_12 : decode cX6_undo 12 = .ok (.ifCond .ne 6, 3) := by decide +kernel
theorem dX6_undo_15 : decode cX6_undo 15 = .ok (.bipush (-5), 2) := by decide +kernel
theorem dX6_undo_17 : decode cX6_undo 17 = .ok (.ireturn, 1) := by decide +kernel
theorem dX6_undo_18 : decode cX6_undo 18 = .ok (.aload_n 0, 1) := by decide +kernel
theorem dX6_undo_19 : decode cX6_undo 19 = .ok (.getfield 10, 3) := by decide +kernel
theorem dX6_undo_22 : decode cX6_undo 22 = .ok (.aload_n 0, 1) := by decide +kernel
theorem dX6_undo_23 : decode cX6_undo 23 = .ok (.getfield 22, 3) := by decide +kernel
theorem dX6_undo_26 : decode cX6_undo 26 = .ok (.iload_n 1, 1) := by decide +kernel
theorem dX6_undo_27 : decode cX6_undo 27 = .ok (.aaload, 1) := by decide +kernel
theorem dX6_undo_28 : decode cX6_undo 28 = .ok (.invokevirtual 148, 3) := by decide +kernel
theorem dX6_undo_31 : decode cX6_undo 31 = .ok (.aload_n 0, 1) := by decide +kernel
theorem dX6_undo_32 : decode cX6_undo 32 = .ok (.iload_n 1, 1) := by decide +kernel
theorem dX6_undo_33 : decode cX6_undo 33 = .ok (.putfield 145, 3) := by decide +kernel
theorem dX6_undo_36 : decode cX6_undo 36 = .ok (.aload_n 0, 1) := by decide +kernel
theorem dX6_undo_37 : decode cX6_undo 37 = .ok (.getfield 145, 3) := by decide +kernel
theorem dX6_undo_40 : decode cX6_undo 40 = .ok (.ireturn, 1) := by decide +kernel
theorem dX6_question_0 : decode cX6_question 0 = .ok (.aload_n 0, 1) := by decide +kernel
theorem dX6_question_1 : decode cX6_question 1 = .ok (.getfield 10, 3) := by decide +kernel
theorem dX6_question_4 : decode cX6_question 4 = .ok (.iload_n 1, 1) := by decide +kernel
theorem dX6_question_5 : decode cX6_question 5 = .ok (.invokevirtual 156, 3) := by decide +kernel
theorem dX6_question_8 : decode cX6_question 8 = .ok (.astore_n 3, 1) := by decide +kernel
theorem dX6_question_9 : decode cX6_question 9 = .ok (.aload_n 3, 1) := by decide +kernel
theorem dX6_question_10 : decode cX6_question 10 = .ok (.ifnonnull 5, 3) := by decide +kernel
theorem dX6_question_13 : decode cX6_question 13 = .ok (.iconst (-1), 1) := by decide +kernel
theorem dX6_question_14 : decode cX6_question 14 = .ok (.ireturn, 1) := by decide +kernel
theorem dX6_question_15 : decode cX6_question 15 = .ok (.iload_n 2, 1) := by decide +kernel
theorem dX6_question_16 : decode cX6_question 16 = .ok (.tableswitch 97 0 8 #[52, 57, 62, 67, 72, 77, 82, 87, 92], 52) := by decide +kernel
theorem dX6_question_68 : decode cX6_question 68 = .ok (.aload_n 3, 1) := by decide +kernel
theorem dX6_question_69 : decode cX6_question 69 = .ok (.getfield 104, 3) := by decide +kernel
theorem dX6_question_72 : decode cX6_question 72 = .ok (.ireturn, 1) := by decide +kernel
theorem dX6_question_73 : decode cX6_question 73 = .ok (.aload_n 3, 1) := by decide +kernel
theorem dX6_question_74 : decode cX6_question 74 = .ok (.getfield 109, 3) := by decide +kernel
theorem dX6_question_77 : decode cX6_question 77 = .ok (.ireturn, 1) := by decide +kernel
theorem dX6_question_78 : decode cX6_question 78 = .ok (.aload_n 3, 1) := by decide +kernel
theorem dX6_question_79 : decode cX6_question 79 = .ok (.getfield 112, 3) := by decide +kernel
theorem dX6_question_82 : decode cX6_question 82 = .ok (.ireturn, 1) := by decide +kernel
theorem dX6_question_83 : decode cX6_question 83 = .ok (.aload_n 3, 1) := by decide +kernel
theorem dX6_question_84 : decode cX6_question 84 = .ok (.getfield 115, 3) := by decide +kernel
theorem dX6_question_87 : decode cX6_question 87 = .ok (.ireturn, 1) := by decide +kernel
theorem dX6_question_88 : decode cX6_question 88 = .ok (.aload_n 3, 1) := by decide +kernel
theorem dX6_question_89 : decode cX6_question 89 = .ok (.getfield 157, 3) := by decide +kernel
theorem dX6_question_92 : decode cX6_question 92 = .ok (.ireturn, 1) := by decide +kernel
theorem dX6_question_93 : decode cX6_question 93 = .ok (.aload_n 3, 1) := by decide +kernel
theorem dX6_question_94 : decode cX6_question 94 = .ok (.getfield 160, 3) := by decide +kernel
theorem dX6_question_97 : decode cX6_question 97 = .ok (.ireturn, 1) := by decide +kernel
theorem dX6_question_98 : decode cX6_question 98 = .ok (.aload_n 3, 1) := by decide +kernel
theorem dX6_question_99 : decode cX6_question 99 = .ok (.getfield 163, 3) := by decide +kernel
theorem dX6_question_102 : decode cX6_question 102 = .ok (.ireturn, 1) := by decide +kernel
theorem dX6_question_103 : decode cX6_question 103 = .ok (.aload_n 3, 1) := by decide +kernel
theorem dX6_question_104 : decode cX6_question 104 = .ok (.getfield 166, 3) := by decide +kernel
theorem dX6_question_107 : decode cX6_question 107 = .ok (.ireturn, 1) := by decide +kernel
theorem dX6_question_108 : decode cX6_question 108 = .ok (.aload_n 3, 1) := by decide +kernel
theorem dX6_question_109 : decode cX6_question 109 = .ok (.getfield 169, 3) := by decide +kernel
theorem dX6_question_112 : decode cX6_question 112 = .ok (.ireturn, 1) := by decide +kernel
theorem dX6_question_113 : decode cX6_question 113 = .ok (.bipush (-2), 2) := by decide +kernel
theorem dX6_question_115 : decode cX6_question 115 = .ok (.ireturn, 1) := by decide +kernel
theorem dX6_tag_0 : decode cX6_tag 0 = .ok (.iload_n 1, 1) := by decide +kernel
theorem dX6_tag_1 : decode cX6_tag 1 = .ok (.aload_n 0, 1) := by decide +kernel
theorem dX6_tag_2 : decode cX6_tag 2 = .ok (.getfield 10, 3) := by decide +kernel
theorem dX6_tag_5 : decode cX6_tag 5 = .ok (.getfield 52, 3) := by decide +kernel
theorem dX6_tag_8 : decode cX6_tag 8 = .ok (.iconst 0, 1) := by decide +kernel
theorem dX6_tag_9 : decode cX6_tag 9 = .ok (.iaload, 1) := by decide +kernel
theorem dX6_tag_10 : decode cX6_tag 10 = .ok (.invokestatic 37, 3) := by decide +kernel
theorem dX6_tag_13 : decode cX6_tag 13 = .ok (.ifCond .eq 12, 3) := by decide +kernel
theorem dX6_tag_16 : decode cX6_tag 16 = .ok (.iload_n 1, 1) := by decide +kernel
theorem dX6_tag_17 : decode cX6_tag 17 = .ok (.bipush 8, 2) := by decide +kernel
theorem dX6_tag_19 : decode cX6_tag 19 = .ok (.invokestatic 37, 3) := by decide +kernel
theorem dX6_tag_22 : decode cX6_tag 22 = .ok (.ifCond .ne 5, 3) := by decide +kernel
theorem dX6_tag_25 : decode cX6_tag 25 = .ok (.iconst (-1), 1) := by decide +kernel
theorem dX6_tag_26 : decode cX6_tag 26 = .ok (.ireturn, 1) := by decide +kernel
theorem dX6_tag_27 : decode cX6_tag 27 = .ok (.aload_n 0, 1) := by decide +kernel
theorem dX6_tag_28 : decode cX6_tag 28 = .ok (.getfield 10, 3) := by decide +kernel
theorem dX6_tag_31 : decode cX6_tag 31 = .ok (.getfield 172, 3) := by decide +kernel
theorem dX6_tag_34 : decode cX6_tag 34 = .ok (.iload_n 1, 1) := by decide +kernel
theorem dX6_tag_35 : decode cX6_tag 35 = .ok (.iaload, 1) := by decide +kernel
theorem dX6_tag_36 : decode cX6_tag 36 = .ok (.ireturn, 1) := by decide +kernel
theorem dX6_master_0 : decode cX6_master 0 = .ok (.aload_n 0, 1) := by decide +kernel
theorem dX6_master_1 : decode cX6_master 1 = .ok (.getfield 10, 3) := by decide +kernel
theorem dX6_master_4 : decode cX6_master 4 = .ok (.iload_n 1, 1) := by decide +kernel
theorem dX6_master_5 : decode cX6_master 5 = .ok (.invokevirtual 58, 3) := by decide +kernel
theorem dX6_master_8 : decode cX6_master 8 = .ok (.astore_n 3, 1) := by decide +kernel
theorem dX6_master_9 : decode cX6_master 9 = .ok (.aload_n 3, 1) := by decide +kernel
theorem dX6_master_10 : decode cX6_master 10 = .ok (.ifnonnull 5, 3) := by decide +kernel
theorem dX6_master_13 : decode cX6_master 13 = .ok (.iconst (-1), 1) := by decide +kernel
theorem dX6_master_14 : decode cX6_master 14 = .ok (.ireturn, 1) := by decide +kernel
theorem dX6_master_15 : decode cX6_master 15 = .ok (.iload_n 2, 1) := by decide +kernel
theorem dX6_master_16 : decode cX6_master 16 = .ok (.tableswitch 124 0 8 #[52, 60, 65, 70, 75, 92, 97, 102, 107], 52) := by decide +kernel
theorem dX6_master_68 : decode cX6_master 68 = .ok (.aload_n 3, 1) := by decide +kernel
theorem dX6_master_69 : decode cX6_master 69 = .ok (.getfield 121, 3) := by decide +kernel
theorem dX6_master_72 : decode cX6_master 72 = .ok (.getfield 125, 3) := by decide +kernel
theorem dX6_master_75 : decode cX6_master 75 = .ok (.ireturn, 1) := by decide +kernel
theorem dX6_master_76 : decode cX6_master 76 = .ok (.aload_n 3, 1) := by decide +kernel
theorem dX6_master_77 : decode cX6_master 77 = .ok (.getfield 62, 3) := by decide +kernel
theorem dX6_master_80 : decode cX6_master 80 = .ok (.ireturn, 1) := by decide +kernel
theorem dX6_master_81 : decode cX6_master 81 = .ok (.aload_n 3, 1) := by decide +kernel
theorem dX6_master_82 : decode cX6_master 82 = .ok (.getfield 175, 3) := by decide +kernel
theorem dX6_master_85 : decode cX6_master 85 = .ok (.ireturn, 1) := by decide +kernel
theorem dX6_master_86 : decode cX6_master 86 = .ok (.aload_n 3, 1) := by decide +kernel
theorem dX6_master_87 : decode cX6_master 87 = .ok (.getfield 178, 3) := by decide +kernel
theorem dX6_master_90 : decode cX6_master 90 = .ok (.ireturn, 1) := by decide +kernel
theorem dX6_master_91 : decode cX6_master 91 = .ok (.iconst 0, 1) := by decide +kernel
theorem dX6_master_92 : decode cX6_master 92 = .ok (.aload_n 3, 1) := by decide +kernel
theorem dX6_master_93 : decode cX6_master 93 = .ok (.getfield 179, 3) := by decide +kernel
theorem dX6_master_96 : decode cX6_master 96 = .ok (.aload_n 0, 1) := by decide +kernel
theorem dX6_master_97 : decode cX6_master 97 = .ok (.getfield 10, 3) := by decide +kernel
theorem dX6_master_100 : decode cX6_master 100 = .ok (.getfield 134, 3) := by decide +kernel
theorem dX6_master_103 : decode cX6_master 103 = .ok (.isub, 1) := by decide +kernel
theorem dX6_master_104 : decode cX6_master 104 = .ok (.invokestatic 182, 3) := by decide +kernel
theorem dX6_master_107 : decode cX6_master 107 = .ok (.ireturn, 1) := by decide +kernel
theorem dX6_master_108 : decode cX6_master 108 = .ok (.aload_n 3, 1) := by decide +kernel
theorem dX6_master_109 : decode cX6_master 109 = .ok (.getfield 188, 3) := by decide +kernel
theorem dX6_master_112 : decode cX6_master 112 = .ok (.ireturn, 1) := by decide +kernel
theorem dX6_master_113 : decode cX6_master 113 = .ok (.aload_n 3, 1) := by decide +kernel
theorem dX6_master_114 : decode cX6_master 114 = .ok (.getfield 191, 3) := by decide +kernel
theorem dX6_master_117 : decode cX6_master 117 = .ok (.ireturn, 1) := by decide +kernel
theorem dX6_master_118 : decode cX6_master 118 = .ok (.aload_n 3, 1) := by decide +kernel
theorem dX6_master_119 : decode cX6_master 119 = .ok (.getfield 194, 3) := by decide +kernel
theorem dX6_master_122 : decode cX6_master 122 = .ok (.ireturn, 1) := by decide +kernel
theorem dX6_master_123 : decode cX6_master 123 = .ok (.aload_n 0, 1) := by decide +kernel
theorem dX6_master_124 : decode cX6_master 124 = .ok (.getfield 10, 3) := by decide +kernel
theorem dX6_master_127 : decode cX6_master 127 = .ok (.aload_n 3, 1) := by decide +kernel
theorem dX6_master_128 : decode cX6_master 128 = .ok (.invokevirtual 197, 3) := by decide +kernel
theorem dX6_master_131 : decode cX6_master 131 = .ok (.ifCond .eq 7, 3) := by decide +kernel
theorem dX6_master_134 : decode cX6_master 134 = .ok (.iconst 1, 1) := by decide +kernel
theorem dX6_master_135 : decode cX6_master 135 = .ok (.goto 4, 3) := by decide +kernel
theorem dX6_master_138 : decode cX6_master 138 = .ok (.iconst 0, 1) := by decide +kernel
theorem dX6_master_139 : decode cX6_master 139 = .ok (.ireturn, 1) := by decide +kernel
theorem dX6_master_140 : decode cX6_master 140 = .ok (.bipush (-2), 2) := by decide +kernel
theorem dX6_master_142 : decode cX6_master 142 = .ok (.ireturn, 1) := by decide +kernel
theorem dX6_row_0 : decode cX6_row 0 = .ok (.aload_n 0, 1) := by decide +kernel
theorem dX6_row_1 : decode cX6_row 1 = .ok (.getfield 10, 3) := by decide +kernel
theorem dX6_row_4 : decode cX6_row 4 = .ok (.iload_n 1, 1) := by decide +kernel
theorem dX6_row_5 : decode cX6_row 5 = .ok (.invokevirtual 58, 3) := by decide +kernel
theorem dX6_row_8 : decode cX6_row 8 = .ok (.astore_n 3, 1) := by decide +kernel
theorem dX6_row_9 : decode cX6_row 9 = .ok (.aload_n 3, 1) := by decide +kernel
theorem dX6_row_10 : decode cX6_row 10 = .ok (.ifnonnull 5, 3) := by decide +kernel
theorem dX6_row_13 : decode cX6_row 13 = .ok (.iconst (-1), 1) := by decide +kernel
theorem dX6_row_14 : decode cX6_row 14 = .ok (.ireturn, 1) := by decide +kernel
theorem dX6_row_15 : decode cX6_row 15 = .ok (.iload_n 2, 1) := by decide +kernel
theorem dX6_row_16 : decode cX6_row 16 = .ok (.ifCond .ge 6, 3) := by decide +kernel
theorem dX6_row_19 : decode cX6_row 19 = .ok (.bipush (-2), 2) := by decide +kernel
theorem dX6_row_21 : decode cX6_row 21 = .ok (.ireturn, 1) := by decide +kernel
theorem dX6_row_22 : decode cX6_row 22 = .ok (.aload_n 3, 1) := by decide +kernel
theorem dX6_row_23 : decode cX6_row 23 = .ok (.getfield 121, 3) := by decide +kernel
theorem dX6_row_26 : decode cX6_row 26 = .ok (.iload_n 2, 1) := by decide +kernel
theorem dX6_row_27 : decode cX6_row 27 = .ok (.invokevirtual 201, 3) := by decide +kernel
theorem dX6_row_30 : decode cX6_row 30 = .ok (.ireturn, 1) := by decide +kernel
theorem dX6_target_0 : decode cX6_target 0 = .ok (.aload_n 0, 1) := by decide +kernel
theorem dX6_target_1 : decode cX6_target 1 = .ok (.getfield 10, 3) := by decide +kernel
theorem dX6_target_4 : decode cX6_target 4 = .ok (.iload_n 1, 1) := by decide +kernel
theorem dX6_target_5 : decode cX6_target 5 = .ok (.invokevirtual 68, 3) := by decide +kernel
theorem dX6_target_8 : decode cX6_target 8 = .ok (.astore_n 3, 1) := by decide +kernel
theorem dX6_target_9 : decode cX6_target 9 = .ok (.aload_n 3, 1) := by decide +kernel
theorem dX6_target_10 : decode cX6_target 10 = .ok (.ifnonnull 5, 3) := by decide +kernel
theorem dX6_target_13 : decode cX6_target 13 = .ok (.iconst (-1), 1) := by decide +kernel
theorem dX6_target_14 : decode cX6_target 14 = .ok (.ireturn, 1) := by decide +kernel
theorem dX6_target_15 : decode cX6_target 15 = .ok (.iload_n 2, 1) := by decide +kernel
theorem dX6_target_16 : decode cX6_target 16 = .ok (.tableswitch 94 0 5 #[40, 47, 54, 61, 69, 78], 40) := by decide +kernel
theorem dX6_target_56 : decode cX6_target 56 = .ok (.aload_n 3, 1) := by decide +kernel
theorem dX6_target_57 : decode cX6_target 57 = .ok (.getfield 78, 3) := by decide +kernel
theorem dX6_target_60 : decode cX6_target 60 = .ok (.iconst 0, 1) := by decide +kernel
theorem dX6_target_61 : decode cX6_target 61 = .ok (.iaload, 1) := by decide +kernel
theorem dX6_target_62 : decode cX6_target 62 = .ok (.ireturn, 1) := by decide +kernel
theorem dX6_target_63 : decode cX6_target 63 = .ok (.aload_n 3, 1) := by decide +kernel
theorem dX6_target_64 : decode cX6_target 64 = .ok (.getfield 78, 3) := by decide +kernel
theorem dX6_target_67 : decode cX6_target 67 = .ok (.iconst 1, 1) := by decide +kernel
theorem dX6_target_68 : decode cX6_target 68 = .ok (.iaload, 1) := by decide +kernel
theorem dX6_target_69 : decode cX6_target 69 = .ok (.ireturn, 1) := by decide +kernel
theorem dX6_target_70 : decode cX6_target 70 = .ok (.aload_n 3, 1) := by decide +kernel
theorem dX6_target_71 : decode cX6_target 71 = .ok (.getfield 78, 3) := by decide +kernel
theorem dX6_target_74 : decode cX6_target 74 = .ok (.iconst 2, 1) := by decide +kernel
theorem dX6_target_75 : decode cX6_target 75 = .ok (.iaload, 1) := by decide +kernel
theorem dX6_target_76 : decode cX6_target 76 = .ok (.ireturn, 1) := by decide +kernel
theorem dX6_target_77 : decode cX6_target 77 = .ok (.aload_n 3, 1) := by decide +kernel
theorem dX6_target_78 : decode cX6_target 78 = .ok (.getfield 205, 3) := by decide +kernel
theorem dX6_target_81 : decode cX6_target 81 = .ok (.getfield 125, 3) := by decide +kernel
theorem dX6_target_84 : decode cX6_target 84 = .ok (.ireturn, 1) := by decide +kernel
theorem dX6_target_85 : decode cX6_target 85 = .ok (.aload_n 0, 1) := by decide +kernel
theorem dX6_target_86 : decode cX6_target 86 = .ok (.getfield 10, 3) := by decide +kernel
theorem dX6_target_89 : decode cX6_target 89 = .ok (.aload_n 3, 1) := by decide +kernel
theorem dX6_target_90 : decode cX6_target 90 = .ok (.invokevirtual 208, 3) := by decide +kernel
theorem dX6_target_93 : decode cX6_target 93 = .ok (.ireturn, 1) := by decide +kernel
theorem dX6_target_94 : decode cX6_target 94 = .ok (.aload_n 3, 1) := by decide +kernel
theorem dX6_target_95 : decode cX6_target 95 = .ok (.getfield 205, 3) := by decide +kernel
theorem dX6_target_98 : decode cX6_target 98 = .ok (.aload_n 0, 1) := by decide +kernel
theorem dX6_target_99 : decode cX6_target 99 = .ok (.getfield 10, 3) := by decide +kernel
theorem dX6_target_102 : decode cX6_target 102 = .ok (.aload_n 3, 1) := by decide +kernel
theorem dX6_target_103 : decode cX6_target 103 = .ok (.invokevirtual 212, 3) := by decide +kernel
theorem dX6_target_106 : decode cX6_target 106 = .ok (.invokevirtual 201, 3) := by decide +kernel
theorem dX6_target_109 : decode cX6_target 109 = .ok (.ireturn, 1) := by decide +kernel
theorem dX6_target_110 : decode cX6_target 110 = .ok (.bipush (-2), 2) := by decide +kernel
theorem dX6_target_112 : decode cX6_target 112 = .ok (.ireturn, 1) := by decide +kernel
theorem dX6_next_0 : decode cX6_next 0 = .ok (.iload_n 1, 1) := by decide +kernel
theorem dX6_next_1 : decode cX6_next 1 = .ok (.ifCond .eq 11, 3) := by decide +kernel
theorem dX6_next_4 : decode cX6_next 4 = .ok (.iload_n 1, 1) := by decide +kernel
theorem dX6_next_5 : decode cX6_next 5 = .ok (.iconst 1, 1) := by decide +kernel
theorem dX6_next_6 : decode cX6_next 6 = .ok (.if_icmp .eq 6, 3) := by decide +kernel
theorem dX6_next_9 : decode cX6_next 9 = .ok (.bipush (-2), 2) := by decide +kernel
theorem dX6_next_11 : decode cX6_next 11 = .ok (.ireturn, 1) := by decide +kernel
theorem dX6_next_12 : decode cX6_next 12 = .ok (.aload_n 0, 1) := by decide +kernel
theorem dX6_next_13 : decode cX6_next 13 = .ok (.getfield 16, 3) := by decide +kernel
theorem dX6_next_16 : decode cX6_next 16 = .ok (.aload_n 0, 1) := by decide +kernel
theorem dX6_next_17 : decode cX6_next 17 = .ok (.getfield 10, 3) := by decide +kernel
theorem dX6_next_20 : decode cX6_next 20 = .ok (.invokevirtual 148, 3) := by decide +kernel
theorem dX6_next_23 : decode cX6_next 23 = .ok (.aload_n 0, 1) := by decide +kernel
theorem dX6_next_24 : decode cX6_next 24 = .ok (.getfield 16, 3) := by decide +kernel
theorem dX6_next_27 : decode cX6_next 27 = .ok (.invokevirtual 137, 3) := by decide +kernel
theorem dX6_next_30 : decode cX6_next 30 = .ok (.istore_n 2, 1) := by decide +kernel
theorem dX6_next_31 : decode cX6_next 31 = .ok (.iload_n 2, 1) := by decide +kernel
theorem dX6_next_32 : decode cX6_next 32 = .ok (.bipush (-5), 2) := by decide +kernel
theorem dX6_next_34 : decode cX6_next 34 = .ok (.if_icmp .ne 6, 3) := by decide +kernel
