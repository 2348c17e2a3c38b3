theorem dX12_guardTold_17 : decode cX12_guardTold 17 = .ok (.istore_n 2, 1) := by decide +kernel
theorem dX12_guardTold_18 : decode cX12_guardTold 18 = .ok (.aload_n 0, 1) := by decide +kernel
theorem dX12_guardTold_19 : decode cX12_guardTold 19 = .ok (.invokevirtual 293, 3) := by decide +kernel
theorem dX12_guardTold_22 : decode cX12_guardTold 22 = .ok (.lstore_n 3, 1) := by decide +kernel
theorem dX12_guardTold_23 : decode cX12_guardTold 23 = .ok (.aload_n 0, 1) := by decide +kernel
theorem dX12_guardTold_24 : decode cX12_guardTold 24 = .ok (.aload_n 0, 1) := by decide +kernel
theorem dX12_guardTold_25 : decode cX12_guardTold 25 = .ok (.getfield 30, 3) := by decide +kernel
theorem dX12_guardTold_28 : decode cX12_guardTold 28 = .ok (.invokevirtual 296, 3) := by decide +kernel
theorem dX12_guardTold_31 : decode cX12_guardTold 31 = .ok (.aload_n 0, 1) := by decide +kernel
theorem dX12_guardTold_32 : decode cX12_guardTold 32 = .ok (.invokevirtual 276, 3) := by decide +kernel
theorem dX12_guardTold_35 : decode cX12_guardTold 35 = .ok (.istore 5, 2) := by decide +kernel
theorem dX12_guardTold_37 : decode cX12_guardTold 37 = .ok (.aload_n 0, 1) := by decide +kernel
theorem dX12_guardTold_38 : decode cX12_guardTold 38 = .ok (.getfield 201, 3) := by decide +kernel
theorem dX12_guardTold_41 : decode cX12_guardTold 41 = .ok (.ifCond .ne 22, 3) := by decide +kernel
theorem dX12_guardTold_44 : decode cX12_guardTold 44 = .ok (.aload_n 0, 1) := by decide +kernel
theorem dX12_guardTold_45 : decode cX12_guardTold 45 = .ok (.getfield 76, 3) := by decide +kernel
theorem dX12_guardTold_48 : decode cX12_guardTold 48 = .ok (.iload 5, 2) := by decide +kernel
theorem dX12_guardTold_50 : decode cX12_guardTold 50 = .ok (.baload, 1) := by decide +kernel
theorem dX12_guardTold_51 : decode cX12_guardTold 51 = .ok (.ifCond .eq 12, 3) := by decide +kernel
theorem dX12_guardTold_54 : decode cX12_guardTold 54 = .ok (.aload_n 0, 1) := by decide +kernel
theorem dX12_guardTold_55 : decode cX12_guardTold 55 = .ok (.iconst 2, 1) := by decide +kernel
theorem dX12_guardTold_56 : decode cX12_guardTold 56 = .ok (.aload_n 0, 1) := by decide +kernel
theorem dX12_guardTold_57 : decode cX12_guardTold 57 = .ok (.getfield 241, 3) := by decide +kernel
theorem dX12_guardTold_60 : decode cX12_guardTold 60 = .ok (.invokevirtual 231, 3) := by decide +kernel
theorem dX12_guardTold_63 : decode cX12_guardTold 63 = .ok (.aload_n 0, 1) := by decide +kernel
theorem dX12_guardTold_64 : decode cX12_guardTold 64 = .ok (.aload_n 0, 1) := by decide +kernel
theorem dX12_guardTold_65 : decode cX12_guardTold 65 = .ok (.getfield 51, 3) := by decide +kernel
theorem dX12_guardTold_68 : decode cX12_guardTold 68 = .ok (.invokevirtual 296, 3) := by decide +kernel
theorem dX12_guardTold_71 : decode cX12_guardTold 71 = .ok (.aload_n 0, 1) := by decide +kernel
theorem dX12_guardTold_72 : decode cX12_guardTold 72 = .ok (.iconst 1, 1) := by decide +kernel
theorem dX12_guardTold_73 : decode cX12_guardTold 73 = .ok (.bipush 9, 2) := by decide +kernel
theorem dX12_guardTold_75 : decode cX12_guardTold 75 = .ok (.invokevirtual 248, 3) := by decide +kernel
theorem dX12_guardTold_78 : decode cX12_guardTold 78 = .ok (.istore 6, 2) := by decide +kernel
theorem dX12_guardTold_80 : decode cX12_guardTold 80 = .ok (.aload_n 0, 1) := by decide +kernel
theorem dX12_guardTold_81 : decode cX12_guardTold 81 = .ok (.aload_n 0, 1) := by decide +kernel
theorem dX12_guardTold_82 : decode cX12_guardTold 82 = .ok (.getfield 54, 3) := by decide +kernel
theorem dX12_guardTold_85 : decode cX12_guardTold 85 = .ok (.invokevirtual 296, 3) := by decide +kernel
theorem dX12_guardTold_88 : decode cX12_guardTold 88 = .ok (.aload_n 0, 1) := by decide +kernel
theorem dX12_guardTold_89 : decode cX12_guardTold 89 = .ok (.iconst 1, 1) := by decide +kernel
theorem dX12_guardTold_90 : decode cX12_guardTold 90 = .ok (.bipush 20, 2) := by decide +kernel
theorem dX12_guardTold_92 : decode cX12_guardTold 92 = .ok (.invokevirtual 248, 3) := by decide +kernel
theorem dX12_guardTold_95 : decode cX12_guardTold 95 = .ok (.istore 7, 2) := by decide +kernel
theorem dX12_guardTold_97 : decode cX12_guardTold 97 = .ok (.aload_n 0, 1) := by decide +kernel
theorem dX12_guardTold_98 : decode cX12_guardTold 98 = .ok (.getfield 201, 3) := by decide +kernel
theorem dX12_guardTold_101 : decode cX12_guardTold 101 = .ok (.ifCond .eq 4, 3) := by decide +kernel
theorem dX12_guardTold_104 : decode cX12_guardTold 104 = .ok (.return_, 1) := by decide +kernel
theorem dX12_guardTold_105 : decode cX12_guardTold 105 = .ok (.aload_n 0, 1) := by decide +kernel
theorem dX12_guardTold_106 : decode cX12_guardTold 106 = .ok (.getfield 72, 3) := by decide +kernel
theorem dX12_guardTold_109 : decode cX12_guardTold 109 = .ok (.bipush 10, 2) := by decide +kernel
theorem dX12_guardTold_111 : decode cX12_guardTold 111 = .ok (.iload_n 2, 1) := by decide +kernel
theorem dX12_guardTold_112 : decode cX12_guardTold 112 = .ok (.iadd, 1) := by decide +kernel
theorem dX12_guardTold_113 : decode cX12_guardTold 113 = .ok (.lload_n 3, 1) := by decide +kernel
theorem dX12_guardTold_114 : decode cX12_guardTold 114 = .ok (.lastore, 1) := by decide +kernel
theorem dX12_guardTold_115 : decode cX12_guardTold 115 = .ok (.aload_n 0, 1) := by decide +kernel
theorem dX12_guardTold_116 : decode cX12_guardTold 116 = .ok (.getfield 83, 3) := by decide +kernel
theorem dX12_guardTold_119 : decode cX12_guardTold 119 = .ok (.iconst 3, 1) := by decide +kernel
theorem dX12_guardTold_120 : decode cX12_guardTold 120 = .ok (.iload_n 2, 1) := by decide +kernel
theorem dX12_guardTold_121 : decode cX12_guardTold 121 = .ok (.imul, 1) := by decide +kernel
theorem dX12_guardTold_122 : decode cX12_guardTold 122 = .ok (.iload 5, 2) := by decide +kernel
theorem dX12_guardTold_124 : decode cX12_guardTold 124 = .ok (.iastore, 1) := by decide +kernel
theorem dX12_guardTold_125 : decode cX12_guardTold 125 = .ok (.aload_n 0, 1) := by decide +kernel
theorem dX12_guardTold_126 : decode cX12_guardTold 126 = .ok (.getfield 83, 3) := by decide +kernel
theorem dX12_guardTold_129 : decode cX12_guardTold 129 = .ok (.iconst 3, 1) := by decide +kernel
theorem dX12_guardTold_130 : decode cX12_guardTold 130 = .ok (.iload_n 2, 1) := by decide +kernel
theorem dX12_guardTold_131 : decode cX12_guardTold 131 = .ok (.imul, 1) := by decide +kernel
theorem dX12_guardTold_132 : decode cX12_guardTold 132 = .ok (.iconst 1, 1) := by decide +kernel
theorem dX12_guardTold_133 : decode cX12_guardTold 133 = .ok (.iadd, 1) := by decide +kernel
theorem dX12_guardTold_134 : decode cX12_guardTold 134 = .ok (.iload 6, 2) := by decide +kernel
theorem dX12_guardTold_136 : decode cX12_guardTold 136 = .ok (.iastore, 1) := by decide +kernel
theorem dX12_guardTold_137 : decode cX12_guardTold 137 = .ok (.aload_n 0, 1) := by decide +kernel
theorem dX12_guardTold_138 : decode cX12_guardTold 138 = .ok (.getfield 83, 3) := by decide +kernel
theorem dX12_guardTold_141 : decode cX12_guardTold 141 = .ok (.iconst 3, 1) := by decide +kernel
theorem dX12_guardTold_142 : decode cX12_guardTold 142 = .ok (.iload_n 2, 1) := by decide +kernel
theorem dX12_guardTold_143 : decode cX12_guardTold 143 = .ok (.imul, 1) := by decide +kernel
theorem dX12_guardTold_144 : decode cX12_guardTold 144 = .ok (.iconst 2, 1) := by decide +kernel
theorem dX12_guardTold_145 : decode cX12_guardTold 145 = .ok (.iadd, 1) := by decide +kernel
theorem dX12_guardTold_146 : decode cX12_guardTold 146 = .ok (.iload 7, 2) := by decide +kernel
theorem dX12_guardTold_148 : decode cX12_guardTold 148 = .ok (.iastore, 1) := by decide +kernel
theorem dX12_guardTold_149 : decode cX12_guardTold 149 = .ok (.aload_n 0, 1) := by decide +kernel
theorem dX12_guardTold_150 : decode cX12_guardTold 150 = .ok (.getfield 69, 3) := by decide +kernel
theorem dX12_guardTold_153 : decode cX12_guardTold 153 = .ok (.iconst 1, 1) := by decide +kernel
theorem dX12_guardTold_154 : decode cX12_guardTold 154 = .ok (.dup2, 1) := by decide +kernel
theorem dX12_guardTold_155 : decode cX12_guardTold 155 = .ok (.iaload, 1) := by decide +kernel
theorem dX12_guardTold_156 : decode cX12_guardTold 156 = .ok (.iconst 1, 1) := by decide +kernel
theorem dX12_guardTold_157 : decode cX12_guardTold 157 = .ok (.iadd, 1) := by decide +kernel
theorem dX12_guardTold_158 : decode cX12_guardTold 158 = .ok (.iastore, 1) := by decide +kernel
theorem dX12_guardTold_159 : decode cX12_guardTold 159 = .ok (.return_, 1) := by decide +kernel
theorem dX12_statementTold_0 : decode cX12_statementTold 0 = .ok (.aload_n 0, 1) := by decide +kernel
theorem dX12_statementTold_1 : decode cX12_statementTold 1 = .ok (.getfield 207, 3) := by decide +kernel
theorem dX12_statementTold_4 : decode cX12_statementTold 4 = .ok (.istore_n 1, 1) := by decide +kernel
theorem dX12_statementTold_5 : decode cX12_statementTold 5 = .ok (.aload_n 0, 1) := by decide +kernel
theorem dX12_statementTold_6 : decode cX12_statementTold 6 = .ok (.getfield 306, 3) := by decide +kernel
theorem dX12_statementTold_9 : decode cX12_statementTold 9 = .ok (.bipush 70, 2) := by decide +kernel
theorem dX12_statementTold_11 : decode cX12_statementTold 11 = .ok (.if_icmp .ne 10, 3) := by decide +kernel
theorem dX12_statementTold_14 : decode cX12_statementTold 14 = .ok (.aload_n 0, 1) := by decide +kernel
theorem dX12_statementTold_15 : decode cX12_statementTold 15 = .ok (.iconst 5, 1) := by decide +kernel
theorem dX12_statementTold_16 : decode cX12_statementTold 16 = .ok (.iload_n 1, 1) := by decide +kernel
theorem dX12_statementTold_17 : decode cX12_statementTold 17 = .ok (.invokevirtual 231, 3) := by decide +kernel
theorem dX12_statementTold_20 : decode cX12_statementTold 20 = .ok (.return_, 1) := by decide +kernel
theorem dX12_statementTold_21 : decode cX12_statementTold 21 = .ok (.aload_n 0, 1) := by decide +kernel
theorem dX12_statementTold_22 : decode cX12_statementTold 22 = .ok (.aload_n 0, 1) := by decide +kernel
theorem dX12_statementTold_23 : decode cX12_statementTold 23 = .ok (.getfield 21, 3) := by decide +kernel
theorem dX12_statementTold_26 : decode cX12_statementTold 26 = .ok (.invokevirtual 228, 3) := by decide +kernel
theorem dX12_statementTold_29 : decode cX12_statementTold 29 = .ok (.ifCond .eq 11, 3) := by decide +kernel
theorem dX12_statementTold_32 : decode cX12_statementTold 32 = .ok (.aload_n 0, 1) := by decide +kernel
theorem dX12_statementTold_33 : decode cX12_statementTold 33 = .ok (.iload_n 1, 1) := by decide +kernel
theorem dX12_statementTold_34 : decode cX12_statementTold 34 = .ok (.invokevirtual 309, 3) := by decide +kernel
theorem dX12_statementTold_37 : decode cX12_statementTold 37 = .ok (.goto 161, 3) := by decide +kernel
theorem dX12_statementTold_40 : decode cX12_statementTold 40 = .ok (.aload_n 0, 1) := by decide +kernel
theorem dX12_statementTold_41 : decode cX12_statementTold 41 = .ok (.aload_n 0, 1) := by decide +kernel
theorem dX12_statementTold_42 : decode cX12_statementTold 42 = .ok (.getfield 24, 3) := by decide +kernel
theorem dX12_statementTold_45 : decode cX12_statementTold 45 = .ok (.invokevirtual 228, 3) := by decide +kernel
theorem dX12_statementTold_48 : decode cX12_statementTold 48 = .ok (.ifCond .eq 11, 3) := by decide +kernel
theorem dX12_statementTold_51 : decode cX12_statementTold 51 = .ok (.aload_n 0, 1) := by decide +kernel
theorem dX12_statementTold_52 : decode cX12_statementTold 52 = .ok (.iload_n 1, 1) := by decide +kernel
theorem dX12_statementTold_53 : decode cX12_statementTold 53 = .ok (.invokevirtual 313, 3) := by decide +kernel
theorem dX12_statementTold_56 : decode cX12_statementTold 56 = .ok (.goto 142, 3) := by decide +kernel
theorem dX12_statementTold_59 : decode cX12_statementTold 59 = .ok (.aload_n 0, 1) := by decide +kernel
theorem dX12_statementTold_60 : decode cX12_statementTold 60 = .ok (.aload_n 0, 1) := by decide +kernel
theorem dX12_statementTold_61 : decode cX12_statementTold 61 = .ok (.getfield 27, 3) := by decide +kernel
theorem dX12_statementTold_64 : decode cX12_statementTold 64 = .ok (.invokevirtual 228, 3) := by decide +kernel
theorem dX12_statementTold_67 : decode cX12_statementTold 67 = .ok (.ifCond .eq 11, 3) := by decide +kernel
theorem dX12_statementTold_70 : decode cX12_statementTold 70 = .ok (.aload_n 0, 1) := by decide +kernel
theorem dX12_statementTold_71 : decode cX12_statementTold 71 = .ok (.iload_n 1, 1) := by decide +kernel
theorem dX12_statementTold_72 : decode cX12_statementTold 72 = .ok (.invokevirtual 316, 3) := by decide +kernel
theorem dX12_statementTold_75 : decode cX12_statementTold 75 = .ok (.goto 123, 3) := by decide +kernel
theorem dX12_statementTold_78 : decode cX12_statementTold 78 = .ok (.aload_n 0, 1) := by decide +kernel
theorem dX12_statementTold_79 : decode cX12_statementTold 79 = .ok (.aload_n 0, 1) := by decide +kernel
theorem dX12_statementTold_80 : decode cX12_statementTold 80 = .ok (.getfield 48, 3) := by decide +kernel
theorem dX12_statementTold_83 : decode cX12_statementTold 83 = .ok (.invokevirtual 228, 3) := by decide +kernel
theorem dX12_statementTold_86 : decode cX12_statementTold 86 = .ok (.ifCond .eq 11, 3) := by decide +kernel
theorem dX12_statementTold_89 : decode cX12_statementTold 89 = .ok (.aload_n 0, 1) := by decide +kernel
theorem dX12_statementTold_90 : decode cX12_statementTold 90 = .ok (.iload_n 1, 1) := by decide +kernel
theorem dX12_statementTold_91 : decode cX12_statementTold 91 = .ok (.invokevirtual 319, 3) := by decide +kernel
theorem dX12_statementTold_94 : decode cX12_statementTold 94 = .ok (.goto 104, 3) := by decide +kernel
theorem dX12_statementTold_97 : decode cX12_statementTold 97 = .ok (.aload_n 0, 1) := by decide +kernel
theorem dX12_statementTold_98 : decode cX12_statementTold 98 = .ok (.aload_n 0, 1) := by decide +kernel
theorem dX12_statementTold_99 : decode cX12_statementTold 99 = .ok (.getfield 57, 3) := by decide +kernel
theorem dX12_statementTold_102 : decode cX12_statementTold 102 = .ok (.invokevirtual 228, 3) := by decide +kernel
theorem dX12_statementTold_105 : decode cX12_statementTold 105 = .ok (.ifCond .eq 19, 3) := by decide +kernel
theorem dX12_statementTold_108 : decode cX12_statementTold 108 = .ok (.aload_n 0, 1) := by decide +kernel
theorem dX12_statementTold_109 : decode cX12_statementTold 109 = .ok (.getfield 89, 3) := by decide +kernel
theorem dX12_statementTold_112 : decode cX12_statementTold 112 = .ok (.iconst 0, 1) := by decide +kernel
theorem dX12_statementTold_113 : decode cX12_statementTold 113 = .ok (.aload_n 0, 1) := by decide +kernel
theorem dX12_statementTold_114 : decode cX12_statementTold 114 = .ok (.iconst 1, 1) := by decide +kernel
theorem dX12_statementTold_115 : decode cX12_statementTold 115 = .ok (.bipush 99, 2) := by decide +kernel
theorem dX12_statementTold_117 : decode cX12_statementTold 117 = .ok (.invokevirtual 248, 3) := by decide +kernel
theorem dX12_statementTold_120 : decode cX12_statementTold 120 = .ok (.iastore, 1) := by decide +kernel
theorem dX12_statementTold_121 : decode cX12_statementTold 121 = .ok (.goto 77, 3) := by decide +kernel
theorem dX12_statementTold_124 : decode cX12_statementTold 124 = .ok (.aload_n 0, 1) := by decide +kernel
theorem dX12_statementTold_125 : decode cX12_statementTold 125 = .ok (.aload_n 0, 1) := by decide +kernel
theorem dX12_statementTold_126 : decode cX12_statementTold 126 = .ok (.getfield 60, 3) := by decide +kernel
theorem dX12_statementTold_129 : decode cX12_statementTold 129 = .ok (.invokevirtual 228, 3) := by decide +kernel
theorem dX12_statementTold_132 : decode cX12_statementTold 132 = .ok (.ifCond .eq 19, 3) := by decide +kernel
theorem dX12_statementTold_135 : decode cX12_statementTold 135 = .ok (.aload_n 0, 1) := by decide +kernel
theorem dX12_statementTold_136 : decode cX12_statementTold 136 = .ok (.getfield 89, 3) := by decide +kernel
theorem dX12_statementTold_139 : decode cX12_statementTold 139 = .ok (.iconst 1, 1) := by decide +kernel
theorem dX12_statementTold_140 : decode cX12_statementTold 140 = .ok (.aload_n 0, 1) := by decide +kernel
theorem dX12_statementTold_141 : decode cX12_statementTold 141 = .ok (.iconst 1, 1) := by decide +kernel
theorem dX12_statementTold_142 : decode cX12_statementTold 142 = .ok (.bipush 30, 2) := by decide +kernel
theorem dX12_statementTold_144 : decode cX12_statementTold 144 = .ok (.invokevirtual 248, 3) := by decide +kernel
theorem dX12_statementTold_147 : decode cX12_statementTold 147 = .ok (.iastore, 1) := by decide +kernel
theorem dX12_statementTold_148 : decode cX12_statementTold 148 = .ok (.goto 50, 3) := by decide +kernel
theorem dX12_statementTold_151 : decode cX12_statementTold 151 = .ok (.aload_n 0, 1) := by decide +kernel
theorem dX12_statementTold_152 : decode cX12_statementTold 152 = .ok (.aload_n 0, 1) := by decide +kernel
theorem dX12_statementTold_153 : decode cX12_statementTold 153 = .ok (.getfield 63, 3) := by decide +kernel
theorem dX12_statementTold_156 : decode cX12_statementTold 156 = .ok (.invokevirtual 228, 3) := by decide +kernel
theorem dX12_statementTold_159 : decode cX12_statementTold 159 = .ok (.ifCond .eq 18, 3) := by decide +kernel
theorem dX12_statementTold_162 : decode cX12_statementTold 162 = .ok (.aload_n 0, 1) := by decide +kernel
theorem dX12_statementTold_163 : decode cX12_statementTold 163 = .ok (.getfield 89, 3) := by decide +kernel
theorem dX12_statementTold_166 : decode cX12_statementTold 166 = .ok (.iconst 2, 1) := by decide +kernel
theorem dX12_statementTold_167 : decode cX12_statementTold 167 = .ok (.aload_n 0, 1) := by decide +kernel
theorem dX12_statementTold_168 : decode cX12_statementTold 168 = .ok (.iconst 1, 1) := by decide +kernel
theorem dX12_statementTold_169 : decode cX12_statementTold 169 = .ok (.iconst 5, 1) := by decide +kernel
theorem dX12_statementTold_170 : decode cX12_statementTold 170 = .ok (.invokevirtual 248, 3) := by decide +kernel
theorem dX12_statementTold_173 : decode cX12_statementTold 173 = .ok (.iastore, 1) := by decide +kernel
theorem dX12_statementTold_174 : decode cX12_statementTold 174 = .ok (.goto 24, 3) := by decide +kernel
theorem dX12_statementTold_177 : decode cX12_statementTold 177 = .ok (.aload_n 0, 1) := by decide +kernel
theorem dX12_statementTold_178 : decode cX12_statementTold 178 = .ok (.aload_n 0, 1) := by decide +kernel
theorem dX12_statementTold_179 : decode cX12_statementTold 179 = .ok (.getfield 66, 3) := by decide +kernel
theorem dX12_statementTold_182 : decode cX12_statementTold 182 = .ok (.invokevirtual 296, 3) := by decide +kernel
theorem dX12_statementTold_185 : decode cX12_statementTold 185 = .ok (.aload_n 0, 1) := by decide +kernel
theorem dX12_statementTold_186 : decode cX12_statementTold 186 = .ok (.getfield 89, 3) := by decide +kernel
theorem dX12_statementTold_189 : decode cX12_statementTold 189 = .ok (.iconst 3, 1) := by decide +kernel
theorem dX12_statementTold_190 : decode cX12_statementTold 190 = .ok (.aload_n 0, 1) := by decide +kernel
theorem dX12_statementTold_191 : decode cX12_statementTold 191 = .ok (.iconst 1, 1) := by decide +kernel
theorem dX12_statementTold_192 : decode cX12_statementTold 192 = .ok (.bipush 9, 2) := by decide +kernel
theorem dX12_statementTold_194 : decode cX12_statementTold 194 = .ok (.invokevirtual 248, 3) := by decide +kernel
theorem dX12_statementTold_197 : decode cX12_statementTold 197 = .ok (.iastore, 1) := by decide +kernel
theorem dX12_statementTold_198 : decode cX12_statementTold 198 = .ok (.aload_n 0, 1) := by decide +kernel
theorem dX12_statementTold_199 : decode cX12_statementTold 199 = .ok (.bipush 59, 2) := by decide +kernel
theorem dX12_statementTold_201 : decode cX12_statementTold 201 = .ok (.invokevirtual 322, 3) := by decide +kernel
theorem dX12_statementTold_204 : decode cX12_statementTold 204 = .ok (.aload_n 0, 1) := by decide +kernel
theorem dX12_statementTold_205 : decode cX12_statementTold 205 = .ok (.dup, 1) := by decide +kernel
theorem dX12_statementTold_206 : decode cX12_statementTold 206 = .ok (.getfield 306, 3) := by decide +kernel
theorem dX12_statementTold_209 : decode cX12_statementTold 209 = .ok (.iconst 1, 1) := by decide +kernel
theorem dX12_statementTold_210 : decode cX12_statementTold 210 = .ok (.iadd, 1) := by decide +kernel
theorem dX12_statementTold_211 : decode cX12_statementTold 211 = .ok (.putfield 306, 3) := by decide +kernel
theorem dX12_statementTold_214 : decode cX12_statementTold 214 = .ok (.return_, 1) := by decide +kernel
theorem dX12_text_0 : decode cX12_text 0 = .ok (.aload_n 0, 1) := by decide +kernel
theorem dX12_text_1 : decode cX12_text 1 = .ok (.aload_n 0, 1) := by decide +kernel
theorem dX12_text_2 : decode cX12_text 2 = .ok (.getfield 198, 3) := by decide +kernel
theorem dX12_text_5 : decode cX12_text 5 = .ok (.putfield 210, 3) := by decide +kernel
theorem dX12_text_8 : decode cX12_text 8 = .ok (.aload_n 0, 1) := by decide +kernel
theorem dX12_text_9 : decode cX12_text 9 = .ok (.iconst 0, 1) := by decide +kernel
theorem dX12_text_10 : decode cX12_text 10 = .ok (.putfield 198, 3) := by decide +kernel
theorem dX12_text_13 : decode cX12_text 13 = .ok (.aload_n 0, 1) := by decide +kernel
theorem dX12_text_14 : decode cX12_text 14 = .ok (.iconst 0, 1) := by decide +kernel
theorem dX12_text_15 : decode cX12_text 15 = .ok (.putfield 207, 3) := by decide +kernel
theorem dX12_text_18 : decode cX12_text 18 = .ok (.aload_n 0, 1) := by decide +kernel
theorem dX12_text_19 : decode cX12_text 19 = .ok (.iconst (-1), 1) := by decide +kernel
theorem dX12_text_20 : decode cX12_text 20 = .ok (.putfield 221, 3) := by decide +kernel
theorem dX12_text_23 : decode cX12_text 23 = .ok (.aload_n 0, 1) := by decide +kernel
theorem dX12_text_24 : decode cX12_text 24 = .ok (.iconst 0, 1) := by decide +kernel
theorem dX12_text_25 : decode cX12_text 25 = .ok (.putfield 201, 3) := by decide +kernel
theorem dX12_text_28 : decode cX12_text 28 = .ok (.aload_n 0, 1) := by decide +kernel
theorem dX12_text_29 : decode cX12_text 29 = .ok (.iconst (-1), 1) := by decide +kernel
theorem dX12_text_30 : decode cX12_text 30 = .ok (.putfield 204, 3) := by decide +kernel
theorem dX12_text_33 : decode cX12_text 33 = .ok (.aload_n 0, 1) := by decide +kernel
theorem dX12_text_34 : decode cX12_text 34 = .ok (.iconst 0, 1) := by decide +kernel
theorem dX12_text_35 : decode cX12_text 35 = .ok (.putfield 273, 3) := by decide +kernel
theorem dX12_text_38 : decode cX12_text 38 = .ok (.aload_n 0, 1) := by decide +kernel
theorem dX12_text_39 : decode cX12_text 39 = .ok (.getfield 89, 3) := by decide +kernel
theorem dX12_text_42 : decode cX12_text 42 = .ok (.iconst 0, 1) := by decide +kernel
theorem dX12_text_43 : decode cX12_text 43 = .ok (.bipush 60, 2) := by decide +kernel
theorem dX12_text_45 : decode cX12_text 45 = .ok (.iastore, 1) := by decide +kernel
theorem dX12_text_46 : decode cX12_text 46 = .ok (.aload_n 0, 1) := by decide +kernel
theorem dX12_text_47 : decode cX12_text 47 = .ok (.getfield 89, 3) := by decide +kernel
theorem dX12_text_50 : decode cX12_text 50 = .ok (.iconst 1, 1) := by decide +kernel
theorem dX12_text_51 : decode cX12_text 51 = .ok (.bipush 20, 2) := by decide +kernel
theorem dX12_text_53 : decode cX12_text 53 = .ok (.iastore, 1) := by decide +kernel
theorem dX12_text_54 : decode cX12_text 54 = .ok (.aload_n 0, 1) := by decide +kernel
theorem dX12_text_55 : decode cX12_text 55 = .ok (.getfield 89, 3) := by decide +kernel
theorem dX12_text_58 : decode cX12_text 58 = .ok (.iconst 2, 1) := by decide +kernel
theorem dX12_text_59 : decode cX12_text 59 = .ok (.iconst 1, 1) := by decide +kernel
theorem dX12_text_60 : decode cX12_text 60 = .ok (.iastore, 1) := by decide +kernel
theorem dX12_text_61 : decode cX12_text 61 = .ok (.aload_n 0, 1) := by decide +kernel
theorem dX12_text_62 : decode cX12_text 62 = .ok (.getfield 89, 3) := by decide +kernel
theorem dX12_text_65 : decode cX12_text 65 = .ok (.iconst 3, 1) := by decide +kernel
theorem dX12_text_66 : decode cX12_text 66 = .ok (.iconst 3, 1) := by decide +kernel
theorem dX12_text_67 : decode cX12_text 67 = .ok (.iastore, 1) := by decide +kernel
theorem dX12_text_68 : decode cX12_text 68 = .ok (.iconst 0, 1) := by decide +kernel
theorem dX12_text_69 : decode cX12_text 69 = .ok (.istore_n 1, 1) := by decide +kernel
theorem dX12_text_70 : decode cX12_text 70 = .ok (.iload_n 1, 1) := by decide +kernel
theorem dX12_text_71 : decode cX12_text 71 = .ok (.iconst 3, 1) := by decide +kernel
theorem dX12_text_72 : decode cX12_text 72 = .ok (.if_icmp .ge 16, 3) := by decide +kernel
theorem dX12_text_75 : decode cX12_text 75 = .ok (.aload_n 0, 1) := by decide +kernel
theorem dX12_text_76 : decode cX12_text 76 = .ok (.getfield 69, 3) := by decide +kernel
theorem dX12_text_79 : decode cX12_text 79 = .ok (.iload_n 1, 1) := by decide +kernel
theorem dX12_text_80 : decode cX12_text 80 = .ok (.iconst 0, 1) := by decide +kernel
theorem dX12_text_81 : decode cX12_text 81 = .ok (.iastore, 1) := by decide +kernel
theorem dX12_text_82 : decode cX12_text 82 = .ok (.iinc 1 1, 3) := by decide +kernel
theorem dX12_text_85 : decode cX12_text 85 = .ok (.goto (-15), 3) := by decide +kernel
theorem dX12_text_88 : decode cX12_text 88 = .ok (.iconst 0, 1) := by decide +kernel
theorem dX12_text_89 : decode cX12_text 89 = .ok (.istore_n 1, 1) := by decide +kernel
theorem dX12_text_90 : decode cX12_text 90 = .ok (.iload_n 1, 1) := by decide +kernel
theorem dX12_text_91 : decode cX12_text 91 = .ok (.bipush 54, 2) := by decide +kernel
theorem dX12_text_93 : decode cX12_text 93 = .ok (.if_icmp .ge 16, 3) := by decide +kernel
theorem dX12_text_96 : decode cX12_text 96 = .ok (.aload_n 0, 1) := by decide +kernel
theorem dX12_text_97 : decode cX12_text 97 = .ok (.getfield 76, 3) := by decide +kernel
theorem dX12_text_100 : decode cX12_text 100 = .ok (.iload_n 1, 1) := by decide +kernel
theorem dX12_text_101 : decode cX12_text 101 = .ok (.iconst 0, 1) := by decide +kernel
theorem dX12_text_102 : decode cX12_text 102 = .ok (.bastore, 1) := by decide +kernel
theorem dX12_text_103 : decode cX12_text 103 = .ok (.iinc 1 1, 3) := by decide +kernel
theorem dX12_text_106 : decode cX12_text 106 = .ok (.goto (-16), 3) := by decide +kernel
theorem dX12_text_109 : decode cX12_text 109 = .ok (.aload_n 0, 1) := by decide +kernel
theorem dX12_text_110 : decode cX12_text 110 = .ok (.aload_n 0, 1) := by decide +kernel
theorem dX12_text_111 : decode cX12_text 111 = .ok (.getfield 17, 3) := by decide +kernel
theorem dX12_text_114 : decode cX12_text 114 = .ok (.invokevirtual 296, 3) := by decide +kernel
theorem dX12_text_117 : decode cX12_text 117 = .ok (.aload_n 0, 1) := by decide +kernel
theorem dX12_text_118 : decode cX12_text 118 = .ok (.aload_n 0, 1) := by decide +kernel
theorem dX12_text_119 : decode cX12_text 119 = .ok (.iconst 2, 1) := by decide +kernel
theorem dX12_text_120 : decode cX12_text 120 = .ok (.bipush 9, 2) := by decide +kernel
theorem dX12_text_122 : decode cX12_text 122 = .ok (.invokevirtual 248, 3) := by decide +kernel
theorem dX12_text_125 : decode cX12_text 125 = .ok (.putfield 267, 3) := by decide +kernel
theorem dX12_text_128 : decode cX12_text 128 = .ok (.aload_n 0, 1) := by decide +kernel
theorem dX12_text_129 : decode cX12_text 129 = .ok (.aload_n 0, 1) := by decide +kernel
theorem dX12_text_130 : decode cX12_text 130 = .ok (.iconst 2, 1) := by decide +kernel
theorem dX12_text_131 : decode cX12_text 131 = .ok (.bipush 6, 2) := by decide +kernel
theorem dX12_text_133 : decode cX12_text 133 = .ok (.invokevirtual 248, 3) := by decide +kernel
theorem dX12_text_136 : decode cX12_text 136 = .ok (.putfield 270, 3) := by decide +kernel
theorem dX12_text_139 : decode cX12_text 139 = .ok (.aload_n 0, 1) := by decide +kernel
theorem dX12_text_140 : decode cX12_text 140 = .ok (.bipush 59, 2) := by decide +kernel
theorem dX12_text_142 : decode cX12_text 142 = .ok (.invokevirtual 322, 3) := by decide +kernel
theorem dX12_text_145 : decode cX12_text 145 = .ok (.aload_n 0, 1) := by decide +kernel
theorem dX12_text_146 : decode cX12_text 146 = .ok (.iconst 1, 1) := by decide +kernel
theorem dX12_text_147 : decode cX12_text 147 = .ok (.putfield 306, 3) := by decide +kernel
theorem dX12_text_150 : decode cX12_text 150 = .ok (.aload_n 0, 1) := by decide +kernel
theorem dX12_text_151 : decode cX12_text 151 = .ok (.getfield 201, 3) := by decide +kernel
theorem dX12_text_154 : decode cX12_text 154 = .ok (.ifCond .ne 18, 3) := by decide +kernel
theorem dX12_text_157 : decode cX12_text 157 = .ok (.aload_n 0, 1) := by decide +kernel
theorem dX12_text_158 : decode cX12_text 158 = .ok (.invokevirtual 213, 3) := by decide +kernel
theorem dX12_text_161 : decode cX12_text 161 = .ok (.iconst (-1), 1) := by decide +kernel
theorem dX12_text_162 : decode cX12_text 162 = .ok (.if_icmp .eq 10, 3) := by decide +kernel
theorem dX12_text_165 : decode cX12_text 165 = .ok (.aload_n 0, 1) := by decide +kernel
theorem dX12_text_166 : decode cX12_text 166 = .ok (.invokevirtual 325, 3) := by decide +kernel
theorem dX12_text_169 : decode cX12_text 169 = .ok (.goto (-19), 3) := by decide +kernel
theorem dX12_text_172 : decode cX12_text 172 = .ok (.aload_n 0, 1) := by decide +kernel
theorem dX12_text_173 : decode cX12_text 173 = .ok (.aload_n 0, 1) := by decide +kernel
theorem dX12_text_174 : decode cX12_text 174 = .ok (.getfield 201, 3) := by decide +kernel
theorem dX12_text_177 : decode cX12_text 177 = .ok (.putfield 328, 3) := by decide +kernel
theorem dX12_text_180 : decode cX12_text 180 = .ok (.aload_n 0, 1) := by decide +kernel
theorem dX12_text_181 : decode cX12_text 181 = .ok (.aload_n 0, 1) := by decide +kernel
theorem dX12_text_182 : decode cX12_text 182 = .ok (.getfield 204, 3) := by decide +kernel
theorem dX12_text_185 : decode cX12_text 185 = .ok (.putfield 13, 3) := by decide +kernel
theorem dX12_text_188 : decode cX12_text 188 = .ok (.aload_n 0, 1) := by decide +kernel
theorem dX12_text_189 : decode cX12_text 189 = .ok (.getfield 201, 3) := by decide +kernel
theorem dX12_text_192 : decode cX12_text 192 = .ok (.ifCond .eq 5, 3) := by decide +kernel
theorem dX12_text_195 : decode cX12_text 195 = .ok (.iconst (-1), 1) := by decide +kernel
theorem dX12_text_196 : decode cX12_text 196 = .ok (.ireturn, 1) := by decide +kernel
theorem dX12_text_197 : decode cX12_text 197 = .ok (.aload_n 0, 1) := by decide +kernel
theorem dX12_text_198 : decode cX12_text 198 = .ok (.invokevirtual 331, 3) := by decide +kernel
theorem dX12_text_201 : decode cX12_text 201 = .ok (.aload_n 0, 1) := by decide +kernel
theorem dX12_text_202 : decode cX12_text 202 = .ok (.getfield 306, 3) := by decide +kernel
theorem dX12_text_205 : decode cX12_text 205 = .ok (.ireturn, 1) := by decide +kernel
theorem dX12_stands_0 : decode cX12_stands 0 = .ok (.aload_n 0, 1) := by decide +kernel
theorem dX12_stands_1 : decode cX12_stands 1 = .ok (.aload_n 0, 1) := by decide +kernel
theorem dX12_stands_2 : decode cX12_stands 2 = .ok (.getfield 267, 3) := by decide +kernel
theorem dX12_stands_5 : decode cX12_stands 5 = .ok (.putfield 334, 3) := by decide +kernel
theorem dX12_stands_8 : decode cX12_stands 8 = .ok (.aload_n 0, 1) := by decide +kernel
theorem dX12_stands_9 : decode cX12_stands 9 = .ok (.aload_n 0, 1) := by decide +kernel
theorem dX12_stands_10 : decode cX12_stands 10 = .ok (.getfield 270, 3) := by decide +kernel
theorem dX12_stands_13 : decode cX12_stands 13 = .ok (.putfield 337, 3) := by decide +kernel
theorem dX12_stands_16 : decode cX12_stands 16 = .ok (.iconst 0, 1) := by decide +kernel
theorem dX12_stands_17 : decode cX12_stands 17 = .ok (.istore_n 1, 1) := by decide +kernel
theorem dX12_stands_18 : decode cX12_stands 18 = .ok (.iload_n 1, 1) := by decide +kernel
theorem dX12_stands_19 : decode cX12_stands 19 = .ok (.iconst 3, 1) := by decide +kernel
theorem dX12_stands_20 : decode cX12_stands 20 = .ok (.if_icmp .ge 23, 3) := by decide +kernel
theorem dX12_stands_23 : decode cX12_stands 23 = .ok (.aload_n 0, 1) := by decide +kernel
theorem dX12_stands_24 : decode cX12_stands 24 = .ok (.getfield 69, 3) := by decide +kernel
theorem dX12_stands_27 : decode cX12_stands 27 = .ok (.iconst 3, 1) := by decide +kernel
theorem dX12_stands_28 : decode cX12_stands 28 = .ok (.iload_n 1, 1) := by decide +kernel
theorem dX12_stands_29 : decode cX12_stands 29 = .ok (.iadd, 1) := by decide +kernel
theorem dX12_stands_30 : decode cX12_stands 30 = .ok (.aload_n 0, 1) := by decide +kernel
theorem dX12_stands_31 : decode cX12_stands 31 = .ok (.getfield 69, 3) := by decide +kernel
theorem dX12_stands_34 : decode cX12_stands 34 = .ok (.iload_n 1, 1) := by decide +kernel
theorem dX12_stands_35 : decode cX12_stands 35 = .ok (.iaload, 1) := by decide +kernel
theorem dX12_stands_36 : decode cX12_stands 36 = .ok (.iastore, 1) := by decide +kernel
theorem dX12_stands_37 : decode cX12_stands 37 = .ok (.iinc 1 1, 3) := by decide +kernel
theorem dX12_stands_40 : decode cX12_stands 40 = .ok (.goto (-22), 3) := by decide +kernel
theorem dX12_stands_43 : decode cX12_stands 43 = .ok (.iconst 0, 1) := by decide +kernel
theorem dX12_stands_44 : decode cX12_stands 44 = .ok (.istore_n 1, 1) := by decide +kernel
theorem dX12_stands_45 : decode cX12_stands 45 = .ok (.iload_n 1, 1) := by decide +kernel
theorem dX12_stands_46 : decode cX12_stands 46 = .ok (.bipush 20, 2) := by decide +kernel
theorem dX12_stands_48 : decode cX12_stands 48 = .ok (.if_icmp .ge 24, 3) := by decide +kernel
theorem dX12_stands_51 : decode cX12_stands 51 = .ok (.aload_n 0, 1) := by decide +kernel
theorem dX12_stands_52 : decode cX12_stands 52 = .ok (.getfield 72, 3) := by decide +kernel
theorem dX12_stands_55 : decode cX12_stands 55 = .ok (.bipush 20, 2) := by decide +kernel
theorem dX12_stands_57 : decode cX12_stands 57 = .ok (.iload_n 1, 1) := by decide +kernel
theorem dX12_stands_58 : decode cX12_stands 58 = .ok (.iadd, 1) := by decide +kernel
theorem dX12_stands_59 : decode cX12_stands 59 = .ok (.aload_n 0, 1) := by decide +kernel
theorem dX12_stands_60 : decode cX12_stands 60 = .ok (.getfield 72, 3) := by decide +kernel
theorem dX12_stands_63 : decode cX12_stands 63 = .ok (.iload_n 1, 1) := by decide +kernel
theorem dX12_stands_64 : decode cX12_stands 64 = .ok (.laload, 1) := by decide +kernel
theorem dX12_stands_65 : decode cX12_stands 65 = .ok (.lastore, 1) := by decide +kernel
theorem dX12_stands_66 : decode cX12_stands 66 = .ok (.iinc 1 1, 3) := by decide +kernel
theorem dX12_stands_69 : decode cX12_stands 69 = .ok (.goto (-24), 3) := by decide +kernel
theorem dX12_stands_72 : decode cX12_stands 72 = .ok (.iconst 0, 1) := by decide +kernel
theorem dX12_stands_73 : decode cX12_stands 73 = .ok (.istore_n 1, 1) := by decide +kernel
theorem dX12_stands_74 : decode cX12_stands 74 = .ok (.iload_n 1, 1) := by decide +kernel
theorem dX12_stands_75 : decode cX12_stands 75 = .ok (.bipush 54, 2) := by decide +kernel
theorem dX12_stands_77 : decode cX12_stands 77 = .ok (.if_icmp .ge 24, 3) := by decide +kernel
theorem dX12_stands_80 : decode cX12_stands 80 = .ok (.aload_n 0, 1) := by decide +kernel
theorem dX12_stands_81 : decode cX12_stands 81 = .ok (.getfield 76, 3) := by decide +kernel
theorem dX12_stands_84 : decode cX12_stands 84 = .ok (.bipush 54, 2) := by decide +kernel
theorem dX12_stands_86 : decode cX12_stands 86 = .ok (.iload_n 1, 1) := by decide +kernel
theorem dX12_stands_87 : decode cX12_stands 87 = .ok (.iadd, 1) := by decide +kernel
theorem dX12_stands_88 : decode cX12_stands 88 = .ok (.aload_n 0, 1) := by decide +kernel
theorem dX12_stands_89 : decode cX12_stands 89 = .ok (.getfield 76, 3) := by decide +kernel
theorem dX12_stands_92 : decode cX12_stands 92 = .ok (.iload_n 1, 1) := by decide +kernel
theorem dX12_stands_93 : decode cX12_stands 93 = .ok (.baload, 1) := by decide +kernel
theorem dX12_stands_94 : decode cX12_stands 94 = .ok (.bastore, 1) := by decide +kernel
theorem dX12_stands_95 : decode cX12_stands 95 = .ok (.iinc 1 1, 3) := by decide +kernel
theorem dX12_stands_98 : decode cX12_stands 98 = .ok (.goto (-24), 3) := by decide +kernel
theorem dX12_stands_101 : decode cX12_stands 101 = .ok (.iconst 0, 1) := by decide +kernel
theorem dX12_stands_102 : decode cX12_stands 102 = .ok (.istore_n 1, 1) := by decide +kernel
theorem dX12_stands_103 : decode cX12_stands 103 = .ok (.iload_n 1, 1) := by decide +kernel
theorem dX12_stands_104 : decode cX12_stands 104 = .ok (.sipush 162, 3) := by decide +kernel
theorem dX12_stands_107 : decode cX12_stands 107 = .ok (.if_icmp .ge 25, 3) := by decide +kernel
theorem dX12_stands_110 : decode cX12_stands 110 = .ok (.aload_n 0, 1) := by decide +kernel
theorem dX12_stands_111 : decode cX12_stands 111 = .ok (.getfield 80, 3) := by decide +kernel
theorem dX12_stands_114 : decode cX12_stands 114 = .ok (.sipush 162, 3) := by decide +kernel
theorem dX12_stands_117 : decode cX12_stands 117 = .ok (.iload_n 1, 1) := by decide +kernel
theorem dX12_stands_118 : decode cX12_stands 118 = .ok (.iadd, 1) := by decide +kernel
theorem dX12_stands_119 : decode cX12_stands 119 = .ok (.aload_n 0, 1) := by decide +kernel
theorem dX12_stands_120 : decode cX12_stands 120 = .ok (.getfield 80, 3) := by decide +kernel
theorem dX12_stands_123 : decode cX12_stands 123 = .ok (.iload_n 1, 1) := by decide +kernel
theorem dX12_stands_124 : decode cX12_stands 124 = .ok (.iaload, 1) := by decide +kernel
theorem dX12_stands_125 : decode cX12_stands 125 = .ok (.iastore, 1) := by decide +kernel
theorem dX12_stands_126 : decode cX12_stands 126 = .ok (.iinc 1 1, 3) := by decide +kernel
theorem dX12_stands_129 : decode cX12_stands 129 = .ok (.goto (-26), 3) := by decide +kernel
theorem dX12_stands_132 : decode cX12_stands 132 = .ok (.iconst 0, 1) := by decide +kernel
theorem dX12_stands_133 : decode cX12_stands 133 = .ok (.istore_n 1, 1) := by decide +kernel
theorem dX12_stands_134 : decode cX12_stands 134 = .ok (.iload_n 1, 1) := by decide +kernel
theorem dX12_stands_135 : decode cX12_stands 135 = .ok (.bipush 12, 2) := by decide +kernel
theorem dX12_stands_137 : decode cX12_stands 137 = .ok (.if_icmp .ge 24, 3) := by decide +kernel
theorem dX12_stands_140 : decode cX12_stands 140 = .ok (.aload_n 0, 1) := by decide +kernel
theorem dX12_stands_141 : decode cX12_stands 141 = .ok (.getfield 83, 3) := by decide +kernel
theorem dX12_stands_144 : decode cX12_stands 144 = .ok (.bipush 12, 2) := by decide +kernel
theorem dX12_stands_146 : decode cX12_stands 146 = .ok (.iload_n 1, 1) := by decide +kernel
theorem dX12_stands_147 : decode cX12_stands 147 = .ok (.iadd, 1) := by decide +kernel
theorem dX12_stands_148 : decode cX12_stands 148 = .ok (.aload_n 0, 1) := by decide +kernel
theorem dX12_stands_149 : decode cX12_stands 149 = .ok (.getfield 83, 3) := by decide +kernel
theorem dX12_stands_152 : decode cX12_stands 152 = .ok (.iload_n 1, 1) := by decide +kernel
theorem dX12_stands_153 : decode cX12_stands 153 = .ok (.iaload, 1) := by decide +kernel
theorem dX12_stands_154 : decode cX12_stands 154 = .ok (.iastore, 1) := by decide +kernel
theorem dX12_stands_155 : decode cX12_stands 155 = .ok (.iinc 1 1, 3) := by decide +kernel
theorem dX12_stands_158 : decode cX12_stands 158 = .ok (.goto (-24), 3) := by decide +kernel
theorem dX12_stands_161 : decode cX12_stands 161 = .ok (.iconst 0, 1) := by decide +kernel
theorem dX12_stands_162 : decode cX12_stands 162 = .ok (.istore_n 1, 1) := by decide +kernel
theorem dX12_stands_163 : decode cX12_stands 163 = .ok (.iload_n 1, 1) := by decide +kernel
theorem dX12_stands_164 : decode cX12_stands 164 = .ok (.bipush 6, 2) := by decide +kernel
theorem dX12_stands_166 : decode cX12_stands 166 = .ok (.if_icmp .ge 31, 3) := by decide +kernel
theorem dX12_stands_169 : decode cX12_stands 169 = .ok (.aload_n 0, 1) := by decide +kernel
theorem dX12_stands_170 : decode cX12_stands 170 = .ok (.getfield 86, 3) := by decide +kernel
theorem dX12_stands_173 : decode cX12_stands 173 = .ok (.bipush 6, 2) := by decide +kernel
theorem dX12_stands_175 : decode cX12_stands 175 = .ok (.iload_n 1, 1) := by decide +kernel
theorem dX12_stands_176 : decode cX12_stands 176 = .ok (.iadd, 1) := by decide +kernel
theorem dX12_stands_177 : decode cX12_stands 177 = .ok (.aload_n 0, 1) := by decide +kernel
theorem dX12_stands_178 : decode cX12_stands 178 = .ok (.getfield 86, 3) := by decide +kernel
theorem dX12_stands_181 : decode cX12_stands 181 = .ok (.iload_n 1, 1) := by decide +kernel
theorem dX12_stands_182 : decode cX12_stands 182 = .ok (.iaload, 1) := by decide +kernel
theorem dX12_stands_183 : decode cX12_stands 183 = .ok (.iastore, 1) := by decide +kernel
theorem dX12_stands_184 : decode cX12_stands 184 = .ok (.aload_n 0, 1) := by decide +kernel
theorem dX12_stands_185 : decode cX12_stands 185 = .ok (.getfield 92, 3) := by decide +kernel
theorem dX12_stands_188 : decode cX12_stands 188 = .ok (.iload_n 1, 1) := by decide +kernel
theorem dX12_stands_189 : decode cX12_stands 189 = .ok (.iconst 0, 1) := by decide +kernel
theorem dX12_stands_190 : decode cX12_stands 190 = .ok (.iastore, 1) := by decide +kernel
theorem dX12_stands_191 : decode cX12_stands 191 = .ok (.iinc 1 1, 3) := by decide +kernel
theorem dX12_stands_194 : decode cX12_stands 194 = .ok (.goto (-31), 3) := by decide +kernel
theorem dX12_stands_197 : decode cX12_stands 197 = .ok (.iconst 0, 1) := by decide +kernel
theorem dX12_stands_198 : decode cX12_stands 198 = .ok (.istore_n 1, 1) := by decide +kernel
theorem dX12_stands_199 : decode cX12_stands 199 = .ok (.iload_n 1, 1) := by decide +kernel
theorem dX12_stands_200 : decode cX12_stands 200 = .ok (.iconst 4, 1) := by decide +kernel
theorem dX12_stands_201 : decode cX12_stands 201 = .ok (.if_icmp .ge 23, 3) := by decide +kernel
theorem dX12_stands_204 : decode cX12_stands 204 = .ok (.aload_n 0, 1) := by decide +kernel
theorem dX12_stands_205 : decode cX12_stands 205 = .ok (.getfield 89, 3) := by decide +kernel
theorem dX12_stands_208 : decode cX12_stands 208 = .ok (.iconst 4, 1) := by decide +kernel
theorem dX12_stands_209 : decode cX12_stands 209 = .ok (.iload_n 1, 1) := by decide +kernel
theorem dX12_stands_210 : decode cX12_stands 210 = .ok (.iadd, 1) := by decide +kernel
theorem dX12_stands_211 : decode cX12_stands 211 = .ok (.aload_n 0, 1) := by decide +kernel
theorem dX12_stands_212 : decode cX12_stands 212 = .ok (.getfield 89, 3) := by decide +kernel
theorem dX12_stands_215 : decode cX12_stands 215 = .ok (.iload_n 1, 1) := by decide +kernel
theorem dX12_stands_216 : decode cX12_stands 216 = .ok (.iaload, 1) := by decide +kernel
theorem dX12_stands_217 : decode cX12_stands 217 = .ok (.iastore, 1) := by decide +kernel
theorem dX12_stands_218 : decode cX12_stands 218 = .ok (.iinc 1 1, 3) := by decide +kernel
theorem dX12_stands_221 : decode cX12_stands 221 = .ok (.goto (-22), 3) := by decide +kernel
theorem dX12_stands_224 : decode cX12_stands 224 = .ok (.aload_n 0, 1) := by decide +kernel
theorem dX12_stands_225 : decode cX12_stands 225 = .ok (.iconst 1, 1) := by decide +kernel
theorem dX12_stands_226 : decode cX12_stands 226 = .ok (.aload_n 0, 1) := by decide +kernel
theorem dX12_stands_227 : decode cX12_stands 227 = .ok (.getfield 69, 3) := by decide +kernel
theorem dX12_stands_230 : decode cX12_stands 230 = .ok (.iconst 0, 1) := by decide +kernel
theorem dX12_stands_231 : decode cX12_stands 231 = .ok (.iaload, 1) := by decide +kernel
theorem dX12_stands_232 : decode cX12_stands 232 = .ok (.ishl, 1) := by decide +kernel
theorem dX12_stands_233 : decode cX12_stands 233 = .ok (.iconst 1, 1) := by decide +kernel
theorem dX12_stands_234 : decode cX12_stands 234 = .ok (.isub, 1) := by decide +kernel
theorem dX12_stands_235 : decode cX12_stands 235 = .ok (.putfield 340, 3) := by decide +kernel
theorem dX12_stands_238 : decode cX12_stands 238 = .ok (.aload_n 0, 1) := by decide +kernel
theorem dX12_stands_239 : decode cX12_stands 239 = .ok (.iconst 0, 1) := by decide +kernel
theorem dX12_stands_240 : decode cX12_stands 240 = .ok (.putfield 343, 3) := by decide +kernel
theorem dX12_stands_243 : decode cX12_stands 243 = .ok (.return_, 1) := by decide +kernel
theorem dX12_fault_0 : decode cX12_fault 0 = .ok (.iload_n 1, 1) := by decide +kernel
theorem dX12_fault_1 : decode cX12_fault 1 = .ok (.ifCond .ne 10, 3) := by decide +kernel
theorem dX12_fault_4 : decode cX12_fault 4 = .ok (.aload_n 0, 1) := by decide +kernel
theorem dX12_fault_5 : decode cX12_fault 5 = .ok (.getfield 328, 3) := by decide +kernel
theorem dX12_fault_8 : decode cX12_fault 8 = .ok (.goto 16, 3) := by decide +kernel
theorem dX12_fault_11 : decode cX12_fault 11 = .ok (.iload_n 1, 1) := by decide +kernel
theorem dX12_fault_12 : decode cX12_fault 12 = .ok (.iconst 1, 1) := by decide +kernel
theorem dX12_fault_13 : decode cX12_fault 13 = .ok (.if_icmp .ne 10, 3) := by decide +kernel
theorem dX12_fault_16 : decode cX12_fault 16 = .ok (.aload_n 0, 1) := by decide +kernel
theorem dX12_fault_17 : decode cX12_fault 17 = .ok (.getfield 13, 3) := by decide +kernel
theorem dX12_fault_20 : decode cX12_fault 20 = .ok (.goto 4, 3) := by decide +kernel
theorem dX12_fault_23 : decode cX12_fault 23 = .ok (.iconst (-1), 1) := by decide +kernel
theorem dX12_fault_24 : decode cX12_fault 24 = .ok (.ireturn, 1) := by decide +kernel
theorem dX12_cells_0 : decode cX12_cells 0 = .ok (.aload_n 0, 1) := by decide +kernel
theorem dX12_cells_1 : decode cX12_cells 1 = .ok (.getfield 334, 3) := by decide +kernel
theorem dX12_cells_4 : decode cX12_cells 4 = .ok (.aload_n 0, 1) := by decide +kernel
theorem dX12_cells_5 : decode cX12_cells 5 = .ok (.getfield 337, 3) := by decide +kernel
theorem dX12_cells_8 : decode cX12_cells 8 = .ok (.imul, 1) := by decide +kernel
theorem dX12_cells_9 : decode cX12_cells 9 = .ok (.ireturn, 1) := by decide +kernel
theorem dX12_isCell_0 : decode cX12_isCell 0 = .ok (.iload_n 1, 1) := by decide +kernel
theorem dX12_isCell_1 : decode cX12_isCell 1 = .ok (.i2l, 1) := by decide +kernel
theorem dX12_isCell_2 : decode cX12_isCell 2 = .ok (.lconst 0, 1) := by decide +kernel
theorem dX12_isCell_3 : decode cX12_isCell 3 = .ok (.aload_n 0, 1) := by decide +kernel
theorem dX12_isCell_4 : decode cX12_isCell 4 = .ok (.invokevirtual 346, 3) := by decide +kernel
theorem dX12_isCell_7 : decode cX12_isCell 7 = .ok (.iconst 1, 1) := by decide +kernel
theorem dX12_isCell_8 : decode cX12_isCell 8 = .ok (.isub, 1) := by decide +kernel
theorem dX12_isCell_9 : decode cX12_isCell 9 = .ok (.i2l, 1) := by decide +kernel
theorem dX12_isCell_10 : decode cX12_isCell 10 = .ok (.invokestatic 244, 3) := by decide +kernel
theorem dX12_isCell_13 : decode cX12_isCell 13 = .ok (.ireturn, 1) := by decide +kernel
theorem dX12_peopleMany_0 : decode cX12_peopleMany 0 = .ok (.aload_n 0, 1) := by decide +kernel
theorem dX12_peopleMany_1 : decode cX12_peopleMany 1 = .ok (.getfield 69, 3) := by decide +kernel
theorem dX12_peopleMany_4 : decode cX12_peopleMany 4 = .ok (.iconst 3, 1) := by decide +kernel
theorem dX12_peopleMany_5 : decode cX12_peopleMany 5 = .ok (.iaload, 1) := by decide +kernel
theorem dX12_peopleMany_6 : decode cX12_peopleMany 6 = .ok (.ireturn, 1) := by decide +kernel
theorem dX12_guardMany_0 : decode cX12_guardMany 0 = .ok (.aload_n 0, 1) := by decide +kernel
theorem dX12_guardMany_1 : decode cX12_guardMany 1 = .ok (.getfield 69, 3) := by decide +kernel
theorem dX12_guardMany_4 : decode cX12_guardMany 4 = .ok (.iconst 4, 1) := by decide +kernel
theorem dX12_guardMany_5 : decode cX12_guardMany 5 = .ok (.iaload, 1) := by decide +kernel
theorem dX12_guardMany_6 : decode cX12_guardMany 6 = .ok (.ireturn, 1) := by decide +kernel
theorem dX12_doorMany_0 : decode cX12_doorMany 0 = .ok (.aload_n 0, 1) := by decide +kernel
theorem dX12_doorMany_1 : decode cX12_doorMany 1 = .ok (.getfield 69, 3) := by decide +kernel
theorem dX12_doorMany_4 : decode cX12_doorMany 4 = .ok (.iconst 5, 1) := by decide +kernel
theorem dX12_doorMany_5 : decode cX12_doorMany 5 = .ok (.iaload, 1) := by decide +kernel
theorem dX12_doorMany_6 : decode cX12_doorMany 6 = .ok (.ireturn, 1) := by decide +kernel
theorem dX12_isPerson_0 : decode cX12_isPerson 0 = .ok (.iload_n 1, 1) := by decide +kernel
theorem dX12_isPerson_1 : decode cX12_isPerson 1 = .ok (.i2l, 1) := by decide +kernel
theorem dX12_isPerson_2 : decode cX12_isPerson 2 = .ok (.lconst 0, 1) := by decide +kernel
theorem dX12_isPerson_3 : decode cX12_isPerson 3 = .ok (.aload_n 0, 1) := by decide +kernel
theorem dX12_isPerson_4 : decode cX12_isPerson 4 = .ok (.invokevirtual 349, 3) := by decide +kernel
theorem dX12_isPerson_7 : decode cX12_isPerson 7 = .ok (.iconst 1, 1) := by decide +kernel
theorem dX12_isPerson_8 : decode cX12_isPerson 8 = .ok (.isub, 1) := by decide +kernel
theorem dX12_isPerson_9 : decode cX12_isPerson 9 = .ok (.i2l, 1) := by decide +kernel
theorem dX12_isPerson_10 : decode cX12_isPerson 10 = .ok (.invokestatic 244, 3) := by decide +kernel
theorem dX12_isPerson_13 : decode cX12_isPerson 13 = .ok (.ireturn, 1) := by decide +kernel
theorem dX12_isComing_0 : decode cX12_isComing 0 = .ok (.aload_n 0, 1) := by decide +kernel
theorem dX12_isComing_1 : decode cX12_isComing 1 = .ok (.iload_n 1, 1) := by decide +kernel
theorem dX12_isComing_2 : decode cX12_isComing 2 = .ok (.invokevirtual 352, 3) := by decide +kernel
theorem dX12_isComing_5 : decode cX12_isComing 5 = .ok (.ifCond .eq 19, 3) := by decide +kernel
theorem dX12_isComing_8 : decode cX12_isComing 8 = .ok (.aload_n 0, 1) := by decide +kernel
theorem dX12_isComing_9 : decode cX12_isComing 9 = .ok (.getfield 340, 3) := by decide +kernel
theorem dX12_isComing_12 : decode cX12_isComing 12 = .ok (.iload_n 1, 1) := by decide +kernel
theorem dX12_isComing_13 : decode cX12_isComing 13 = .ok (.ishr, 1) := by decide +kernel
theorem dX12_isComing_14 : decode cX12_isComing 14 = .ok (.iconst 1, 1) := by decide +kernel
theorem dX12_isComing_15 : decode cX12_isComing 15 = .ok (.iand, 1) := by decide +kernel
theorem dX12_isComing_16 : decode cX12_isComing 16 = .ok (.iconst 1, 1) := by decide +kernel
theorem dX12_isComing_17 : decode cX12_isComing 17 = .ok (.if_icmp .ne 7, 3) := by decide +kernel
theorem dX12_isComing_20 : decode cX12_isComing 20 = .ok (.iconst 1, 1) := by decide +kernel
theorem dX12_isComing_21 : decode cX12_isComing 21 = .ok (.goto 4, 3) := by decide +kernel
theorem dX12_isComing_24 : decode cX12_isComing 24 = .ok (.iconst 0, 1) := by decide +kernel
theorem dX12_isComing_25 : decode cX12_isComing 25 = .ok (.ireturn, 1) := by decide +kernel
theorem dX12_personOf_0 : decode cX12_personOf 0 = .ok (.aload_n 0, 1) := by decide +kernel
theorem dX12_personOf_1 : decode cX12_personOf 1 = .ok (.getfield 80, 3) := by decide +kernel
theorem dX12_personOf_4 : decode cX12_personOf 4 = .ok (.sipush 162, 3) := by decide +kernel
theorem dX12_personOf_7 : decode cX12_personOf 7 = .ok (.bipush 18, 2) := by decide +kernel
theorem dX12_personOf_9 : decode cX12_personOf 9 = .ok (.iload_n 1, 1) := by decide +kernel
theorem dX12_personOf_10 : decode cX12_personOf 10 = .ok (.imul, 1) := by decide +kernel
theorem dX12_personOf_11 : decode cX12_personOf 11 = .ok (.iadd, 1) := by decide +kernel
theorem dX12_personOf_12 : decode cX12_personOf 12 = .ok (.iload_n 2, 1) := by decide +kernel
theorem dX12_personOf_13 : decode cX12_personOf 13 = .ok (.iadd, 1) := by decide +kernel
theorem dX12_personOf_14 : decode cX12_personOf 14 = .ok (.iaload, 1) := by decide +kernel
theorem dX12_personOf_15 : decode cX12_personOf 15 = .ok (.ireturn, 1) := by decide +kernel
theorem dX12_makes_0 : decode cX12_makes 0 = .ok (.aload_n 0, 1) := by decide +kernel
theorem dX12_makes_1 : decode cX12_makes 1 = .ok (.getfield 80, 3) := by decide +kernel
theorem dX12_makes_4 : decode cX12_makes 4 = .ok (.sipush 162, 3) := by decide +kernel
theorem dX12_makes_7 : decode cX12_makes 7 = .ok (.bipush 18, 2) := by decide +kernel
theorem dX12_makes_9 : decode cX12_makes 9 = .ok (.iload_n 1, 1) := by decide +kernel
theorem dX12_makes_10 : decode cX12_makes 10 = .ok (.imul, 1) := by decide +kernel
theorem dX12_makes_11 : decode cX12_makes 11 = .ok (.iadd, 1) := by decide +kernel
theorem dX12_makes_12 : decode cX12_makes 12 = .ok (.iload_n 2, 1) := by decide +kernel
theorem dX12_makes_13 : decode cX12_makes 13 = .ok (.iadd, 1) := by decide +kernel
theorem dX12_makes_14 : decode cX12_makes 14 = .ok (.iload_n 3, 1) := by decide +kernel
theorem dX12_makes_15 : decode cX12_makes 15 = .ok (.iastore, 1) := by decide +kernel
theorem dX12_makes_16 : decode cX12_makes 16 = .ok (.return_, 1) := by decide +kernel
theorem dX12_isWallNow_0 : decode cX12_isWallNow 0 = .ok (.aload_n 0, 1) := by decide +kernel
theorem dX12_isWallNow_1 : decode cX12_isWallNow 1 = .ok (.getfield 76, 3) := by decide +kernel
theorem dX12_isWallNow_4 : decode cX12_isWallNow 4 = .ok (.bipush 54, 2) := by decide +kernel
theorem dX12_isWallNow_6 : decode cX12_isWallNow 6 = .ok (.iload_n 1, 1) := by decide +kernel
theorem dX12_isWallNow_7 : decode cX12_isWallNow 7 = .ok (.iadd, 1) := by decide +kernel
theorem dX12_isWallNow_8 : decode cX12_isWallNow 8 = .ok (.baload, 1) := by decide +kernel
theorem dX12_isWallNow_9 : decode cX12_isWallNow 9 = .ok (.ireturn, 1) := by decide +kernel
theorem dX12_stepped_0 : decode cX12_stepped 0 = .ok (.iload_n 1, 1) := by decide +kernel
theorem dX12_stepped_1 : decode cX12_stepped 1 = .ok (.aload_n 0, 1) := by decide +kernel
theorem dX12_stepped_2 : decode cX12_stepped 2 = .ok (.getfield 334, 3) := by decide +kernel
theorem dX12_stepped_5 : decode cX12_stepped 5 = .ok (.irem, 1) := by decide +kernel
theorem dX12_stepped_6 : decode cX12_stepped 6 = .ok (.iload_n 2, 1) := by decide +kernel
theorem dX12_stepped_7 : decode cX12_stepped 7 = .ok (.iconst 1, 1) := by decide +kernel
theorem dX12_stepped_8 : decode cX12_stepped 8 = .ok (.if_icmp .ne 7, 3) := by decide +kernel
theorem dX12_stepped_11 : decode cX12_stepped 11 = .ok (.iconst 1, 1) := by decide +kernel
theorem dX12_stepped_12 : decode cX12_stepped 12 = .ok (.goto 13, 3) := by decide +kernel
theorem dX12_stepped_15 : decode cX12_stepped 15 = .ok (.iload_n 2, 1) := by decide +kernel
theorem dX12_stepped_16 : decode cX12_stepped 16 = .ok (.iconst 3, 1) := by decide +kernel
theorem dX12_stepped_17 : decode cX12_stepped 17 = .ok (.if_icmp .ne 7, 3) := by decide +kernel
theorem dX12_stepped_20 : decode cX12_stepped 20 = .ok (.iconst (-1), 1) := by decide +kernel
theorem dX12_stepped_21 : decode cX12_stepped 21 = .ok (.goto 4, 3) := by decide +kernel
theorem dX12_stepped_24 : decode cX12_stepped 24 = .ok (.iconst 0, 1) := by decide +kernel
theorem dX12_stepped_25 : decode cX12_stepped 25 = .ok (.iadd, 1) := by decide +kernel
theorem dX12_stepped_26 : decode cX12_stepped 26 = .ok (.istore_n 3, 1) := by decide +kernel
theorem dX12_stepped_27 : decode cX12_stepped 27 = .ok (.iload_n 1, 1) := by decide +kernel
theorem dX12_stepped_28 : decode cX12_stepped 28 = .ok (.aload_n 0, 1) := by decide +kernel
theorem dX12_stepped_29 : decode cX12_stepped 29 = .ok (.getfield 334, 3) := by decide +kernel
theorem dX12_stepped_32 : decode cX12_stepped 32 = .ok (.idiv, 1) := by decide +kernel
theorem dX12_stepped_33 : decode cX12_stepped 33 = .ok (.iload_n 2, 1) := by decide +kernel
theorem dX12_stepped_34 : decode cX12_stepped 34 = .ok (.iconst 2, 1) := by decide +kernel
theorem dX12_stepped_35 : decode cX12_stepped 35 = .ok (.if_icmp .ne 7, 3) := by decide +kernel
theorem dX12_stepped_38 : decode cX12_stepped 38 = .ok (.iconst 1, 1) := by decide +kernel
theorem dX12_stepped_39 : decode cX12_stepped 39 = .ok (.goto 12, 3) := by decide +kernel
theorem dX12_stepped_42 : decode cX12_stepped 42 = .ok (.iload_n 2, 1) := by decide +kernel
theorem dX12_stepped_43 : decode cX12_stepped 43 = .ok (.ifCond .ne 7, 3) := by decide +kernel
theorem dX12_stepped_46 : decode cX12_stepped 46 = .ok (.iconst (-1), 1) := by decide +kernel
theorem dX12_stepped_47 : decode cX12_stepped 47 = .ok (.goto 4, 3) := by decide +kernel
theorem dX12_stepped_50 : decode cX12_stepped 50 = .ok (.iconst 0, 1) := by decide +kernel
theorem dX12_stepped_51 : decode cX12_stepped 51 = .ok (.iadd, 1) := by decide +kernel
theorem dX12_stepped_52 : decode cX12_stepped 52 = .ok (.istore 4, 2) := by decide +kernel
theorem dX12_stepped_54 : decode cX12_stepped 54 = .ok (.iload_n 3, 1) := by decide +kernel
theorem dX12_stepped_55 : decode cX12_stepped 55 = .ok (.i2l, 1) := by decide +kernel
theorem dX12_stepped_56 : decode cX12_stepped 56 = .ok (.lconst 0, 1) := by decide +kernel
theorem dX12_stepped_57 : decode cX12_stepped 57 = .ok (.aload_n 0, 1) := by decide +kernel
theorem dX12_stepped_58 : decode cX12_stepped 58 = .ok (.getfield 334, 3) := by decide +kernel
theorem dX12_stepped_61 : decode cX12_stepped 61 = .ok (.iconst 1, 1) := by decide +kernel
theorem dX12_stepped_62 : decode cX12_stepped 62 = .ok (.isub, 1) := by decide +kernel
theorem dX12_stepped_63 : decode cX12_stepped 63 = .ok (.i2l, 1) := by decide +kernel
theorem dX12_stepped_64 : decode cX12_stepped 64 = .ok (.invokestatic 244, 3) := by decide +kernel
theorem dX12_stepped_67 : decode cX12_stepped 67 = .ok (.ifCond .eq 36, 3) := by decide +kernel
theorem dX12_stepped_70 : decode cX12_stepped 70 = .ok (.iload 4, 2) := by decide +kernel
theorem dX12_stepped_72 : decode cX12_stepped 72 = .ok (.i2l, 1) := by decide +kernel
theorem dX12_stepped_73 : decode cX12_stepped 73 = .ok (.lconst 0, 1) := by decide +kernel
theorem dX12_stepped_74 : decode cX12_stepped 74 = .ok (.aload_n 0, 1) := by decide +kernel
theorem dX12_stepped_75 : decode cX12_stepped 75 = .ok (.getfield 337, 3) := by decide +kernel
theorem dX12_stepped_78 : decode cX12_stepped 78 = .ok (.iconst 1, 1) := by decide +kernel
theorem dX12_stepped_79 : decode cX12_stepped 79 = .ok (.isub, 1) := by decide +kernel
theorem dX12_stepped_80 : decode cX12_stepped 80 = .ok (.i2l, 1) := by decide +kernel
theorem dX12_stepped_81 : decode cX12_stepped 81 = .ok (.invokestatic 244, 3) := by decide +kernel
theorem dX12_stepped_84 : decode cX12_stepped 84 = .ok (.ifCond .eq 19, 3) := by decide +kernel
theorem dX12_stepped_87 : decode cX12_stepped 87 = .ok (.aload_n 0, 1) := by decide +kernel
theorem dX12_stepped_88 : decode cX12_stepped 88 = .ok (.aload_n 0, 1) := by decide +kernel
theorem dX12_stepped_89 : decode cX12_stepped 89 = .ok (.getfield 334, 3) := by decide +kernel
theorem dX12_stepped_92 : decode cX12_stepped 92 = .ok (.iload 4, 2) := by decide +kernel
theorem dX12_stepped_94 : decode cX12_stepped 94 = .ok (.imul, 1) := by decide +kernel
theorem dX12_stepped_95 : decode cX12_stepped 95 = .ok (.iload_n 3, 1) := by decide +kernel
theorem dX12_stepped_96 : decode cX12_stepped 96 = .ok (.iadd, 1) := by decide +kernel
theorem dX12_stepped_97 : decode cX12_stepped 97 = .ok (.invokevirtual 355, 3) := by decide +kernel
theorem dX12_stepped_100 : decode cX12_stepped 100 = .ok (.ifCond .eq 5, 3) := by decide +kernel
theorem dX12_stepped_103 : decode cX12_stepped 103 = .ok (.iload_n 1, 1) := by decide +kernel
theorem dX12_stepped_104 : decode cX12_stepped 104 = .ok (.ireturn, 1) := by decide +kernel
theorem dX12_stepped_105 : decode cX12_stepped 105 = .ok (.aload_n 0, 1) := by decide +kernel
theorem dX12_stepped_106 : decode cX12_stepped 106 = .ok (.getfield 334, 3) := by decide +kernel
theorem dX12_stepped_109 : decode cX12_stepped 109 = .ok (.iload 4, 2) := by decide +kernel
theorem dX12_stepped_111 : decode cX12_stepped 111 = .ok (.imul, 1) := by decide +kernel
theorem dX12_stepped_112 : decode cX12_stepped 112 = .ok (.iload_n 3, 1) := by decide +kernel
theorem dX12_stepped_113 : decode cX12_stepped 113 = .ok (.iadd, 1) := by decide +kernel
theorem dX12_stepped_114 : decode cX12_stepped 114 = .ok (.ireturn, 1) := by decide +kernel
theorem dX12_size_0 : decode cX12_size 0 = .ok (.iload_n 0, 1) := by decide +kernel
theorem dX12_size_1 : decode cX12_size 1 = .ok (.ifCond .ge 8, 3) := by decide +kernel
theorem dX12_size_4 : decode cX12_size 4 = .ok (.iload_n 0, 1) := by decide +kernel
theorem dX12_size_5 : decode cX12_size 5 = .ok (.ineg, 1) := by decide +kernel
theorem dX12_size_6 : decode cX12_size 6 = .ok (.goto 4, 3) := by decide +kernel
theorem dX12_size_9 : decode cX12_size 9 = .ok (.iload_n 0, 1) := by decide +kernel
theorem dX12_size_10 : decode cX12_size 10 = .ok (.ireturn, 1) := by decide +kernel
theorem dX12_apart_0 : decode cX12_apart 0 = .ok (.iload_n 1, 1) := by decide +kernel
theorem dX12_apart_1 : decode cX12_apart 1 = .ok (.aload_n 0, 1) := by decide +kernel
theorem dX12_apart_2 : decode cX12_apart 2 = .ok (.getfield 334, 3) := by decide +kernel
theorem dX12_apart_5 : decode cX12_apart 5 = .ok (.irem, 1) := by decide +kernel
theorem dX12_apart_6 : decode cX12_apart 6 = .ok (.iload_n 2, 1) := by decide +kernel
theorem dX12_apart_7 : decode cX12_apart 7 = .ok (.aload_n 0, 1) := by decide +kernel
theorem dX12_apart_8 : decode cX12_apart 8 = .ok (.getfield 334, 3) := by decide +kernel
theorem dX12_apart_11 : decode cX12_apart 11 = .ok (.irem, 1) := by decide +kernel
theorem dX12_apart_12 : decode cX12_apart 12 = .ok (.isub, 1) := by decide +kernel
theorem dX12_apart_13 : decode cX12_apart 13 = .ok (.invokestatic 358, 3) := by decide +kernel
theorem dX12_apart_16 : decode cX12_apart 16 = .ok (.iload_n 1, 1) := by decide +kernel
theorem dX12_apart_17 : decode cX12_apart 17 = .ok (.aload_n 0, 1) := by decide +kernel
theorem dX12_apart_18 : decode cX12_apart 18 = .ok (.getfield 334, 3) := by decide +kernel
theorem dX12_apart_21 : decode cX12_apart 21 = .ok (.idiv, 1) := by decide +kernel
theorem dX12_apart_22 : decode cX12_apart 22 = .ok (.iload_n 2, 1) := by decide +kernel
theorem dX12_apart_23 : decode cX12_apart 23 = .ok (.aload_n 0, 1) := by decide +kernel
theorem dX12_apart_24 : decode cX12_apart 24 = .ok (.getfield 334, 3) := by decide +kernel
theorem dX12_apart_27 : decode cX12_apart 27 = .ok (.idiv, 1) := by decide +kernel
theorem dX12_apart_28 : decode cX12_apart 28 = .ok (.isub, 1) := by decide +kernel
theorem dX12_apart_29 : decode cX12_apart 29 = .ok (.invokestatic 358, 3) := by decide +kernel
theorem dX12_apart_32 : decode cX12_apart 32 = .ok (.iadd, 1) := by decide +kernel
theorem dX12_apart_33 : decode cX12_apart 33 = .ok (.ireturn, 1) := by decide +kernel
theorem dX12_spreads_0 : decode cX12_spreads 0 = .ok (.iconst 0, 1) := by decide +kernel
theorem dX12_spreads_1 : decode cX12_spreads 1 = .ok (.istore_n 1, 1) := by decide +kernel
theorem dX12_spreads_2 : decode cX12_spreads 2 = .ok (.iconst 0, 1) := by decide +kernel
theorem dX12_spreads_3 : decode cX12_spreads 3 = .ok (.istore_n 2, 1) := by decide +kernel
theorem dX12_spreads_4 : decode cX12_spreads 4 = .ok (.iload_n 2, 1) := by decide +kernel
theorem dX12_spreads_5 : decode cX12_spreads 5 = .ok (.bipush 54, 2) := by decide +kernel
theorem dX12_spreads_7 : decode cX12_spreads 7 = .ok (.if_icmp .ge 18, 3) := by decide +kernel
theorem dX12_spreads_10 : decode cX12_spreads 10 = .ok (.aload_n 0, 1) := by decide +kernel
theorem dX12_spreads_11 : decode cX12_spreads 11 = .ok (.getfield 95, 3) := by decide +kernel
theorem dX12_spreads_14 : decode cX12_spreads 14 = .ok (.iload_n 2, 1) := by decide +kernel
theorem dX12_spreads_15 : decode cX12_spreads 15 = .ok (.sipush 1000, 3) := by decide +kernel
theorem dX12_spreads_18 : decode cX12_spreads 18 = .ok (.iastore, 1) := by decide +kernel
theorem dX12_spreads_19 : decode cX12_spreads 19 = .ok (.iinc 2 1, 3) := by decide +kernel
theorem dX12_spreads_22 : decode cX12_spreads 22 = .ok (.goto (-18), 3) := by decide +kernel
theorem dX12_spreads_25 : decode cX12_spreads 25 = .ok (.iconst 0, 1) := by decide +kernel
theorem dX12_spreads_26 : decode cX12_spreads 26 = .ok (.istore_n 2, 1) := by decide +kernel
theorem dX12_spreads_27 : decode cX12_spreads 27 = .ok (.iload_n 2, 1) := by decide +kernel
theorem dX12_spreads_28 : decode cX12_spreads 28 = .ok (.aload_n 0, 1) := by decide +kernel
theorem dX12_spreads_29 : decode cX12_spreads 29 = .ok (.invokevirtual 361, 3) := by decide +kernel
theorem dX12_spreads_32 : decode cX12_spreads 32 = .ok (.if_icmp .ge 51, 3) := by decide +kernel
theorem dX12_spreads_35 : decode cX12_spreads 35 = .ok (.aload_n 0, 1) := by decide +kernel
theorem dX12_spreads_36 : decode cX12_spreads 36 = .ok (.getfield 92, 3) := by decide +kernel
theorem dX12_spreads_39 : decode cX12_spreads 39 = .ok (.iload_n 2, 1) := by decide +kernel
theorem dX12_spreads_40 : decode cX12_spreads 40 = .ok (.iaload, 1) := by decide +kernel
theorem dX12_spreads_41 : decode cX12_spreads 41 = .ok (.ifCond .ne 36, 3) := by decide +kernel
theorem dX12_spreads_44 : decode cX12_spreads 44 = .ok (.aload_n 0, 1) := by decide +kernel
theorem dX12_spreads_45 : decode cX12_spreads 45 = .ok (.getfield 95, 3) := by decide +kernel
theorem dX12_spreads_48 : decode cX12_spreads 48 = .ok (.aload_n 0, 1) := by decide +kernel
theorem dX12_spreads_49 : decode cX12_spreads 49 = .ok (.getfield 86, 3) := by decide +kernel
theorem dX12_spreads_52 : decode cX12_spreads 52 = .ok (.bipush 6, 2) := by decide +kernel
theorem dX12_spreads_54 : decode cX12_spreads 54 = .ok (.iload_n 2, 1) := by decide +kernel
theorem dX12_spreads_55 : decode cX12_spreads 55 = .ok (.iadd, 1) := by decide +kernel
theorem dX12_spreads_56 : decode cX12_spreads 56 = .ok (.iaload, 1) := by decide +kernel
theorem dX12_spreads_57 : decode cX12_spreads 57 = .ok (.iconst 0, 1) := by decide +kernel
theorem dX12_spreads_58 : decode cX12_spreads 58 = .ok (.iastore, 1) := by decide +kernel
theorem dX12_spreads_59 : decode cX12_spreads 59 = .ok (.aload_n 0, 1) := by decide +kernel
theorem dX12_spreads_60 : decode cX12_spreads 60 = .ok (.getfield 98, 3) := by decide +kernel
theorem dX12_spreads_63 : decode cX12_spreads 63 = .ok (.iload_n 1, 1) := by decide +kernel
theorem dX12_spreads_64 : decode cX12_spreads 64 = .ok (.aload_n 0, 1) := by decide +kernel
theorem dX12_spreads_65 : decode cX12_spreads 65 = .ok (.getfield 86, 3) := by decide +kernel
theorem dX12_spreads_68 : decode cX12_spreads 68 = .ok (.bipush 6, 2) := by decide +kernel
theorem dX12_spreads_70 : decode cX12_spreads 70 = .ok (.iload_n 2, 1) := by decide +kernel
theorem dX12_spreads_71 : decode cX12_spreads 71 = .ok (.iadd, 1) := by decide +kernel
theorem dX12_spreads_72 : decode cX12_spreads 72 = .ok (.iaload, 1) := by decide +kernel
theorem dX12_spreads_73 : decode cX12_spreads 73 = .ok (.iastore, 1) := by decide +kernel
theorem dX12_spreads_74 : decode cX12_spreads 74 = .ok (.iinc 1 1, 3) := by decide +kernel
theorem dX12_spreads_77 : decode cX12_spreads 77 = .ok (.iinc 2 1, 3) := by decide +kernel
theorem dX12_spreads_80 : decode cX12_spreads 80 = .ok (.goto (-53), 3) := by decide +kernel
theorem dX12_spreads_83 : decode cX12_spreads 83 = .ok (.iconst 0, 1) := by decide +kernel
theorem dX12_spreads_84 : decode cX12_spreads 84 = .ok (.istore_n 2, 1) := by decide +kernel
theorem dX12_spreads_85 : decode cX12_spreads 85 = .ok (.iload_n 2, 1) := by decide +kernel
theorem dX12_spreads_86 : decode cX12_spreads 86 = .ok (.iload_n 1, 1) := by decide +kernel
theorem dX12_spreads_87 : decode cX12_spreads 87 = .ok (.if_icmp .ge 82, 3) := by decide +kernel
theorem dX12_spreads_90 : decode cX12_spreads 90 = .ok (.iconst 0, 1) := by decide +kernel
theorem dX12_spreads_91 : decode cX12_spreads 91 = .ok (.istore_n 3, 1) := by decide +kernel
theorem dX12_spreads_92 : decode cX12_spreads 92 = .ok (.iload_n 3, 1) := by decide +kernel
theorem dX12_spreads_93 : decode cX12_spreads 93 = .ok (.iconst 4, 1) := by decide +kernel
theorem dX12_spreads_94 : decode cX12_spreads 94 = .ok (.if_icmp .ge 69, 3) := by decide +kernel
theorem dX12_spreads_97 : decode cX12_spreads 97 = .ok (.aload_n 0, 1) := by decide +kernel
theorem dX12_spreads_98 : decode cX12_spreads 98 = .ok (.aload_n 0, 1) := by decide +kernel
theorem dX12_spreads_99 : decode cX12_spreads 99 = .ok (.getfield 98, 3) := by decide +kernel
theorem dX12_spreads_102 : decode cX12_spreads 102 = .ok (.iload_n 2, 1) := by decide +kernel
theorem dX12_spreads_103 : decode cX12_spreads 103 = .ok (.iaload, 1) := by decide +kernel
theorem dX12_spreads_104 : decode cX12_spreads 104 = .ok (.iload_n 3, 1) := by decide +kernel
theorem dX12_spreads_105 : decode cX12_spreads 105 = .ok (.invokevirtual 364, 3) := by decide +kernel
theorem dX12_spreads_108 : decode cX12_spreads 108 = .ok (.istore 4, 2) := by decide +kernel
theorem dX12_spreads_110 : decode cX12_spreads 110 = .ok (.aload_n 0, 1) := by decide +kernel
theorem dX12_spreads_111 : decode cX12_spreads 111 = .ok (.getfield 95, 3) := by decide +kernel
theorem dX12_spreads_114 : decode cX12_spreads 114 = .ok (.iload 4, 2) := by decide +kernel
theorem dX12_spreads_116 : decode cX12_spreads 116 = .ok (.iaload, 1) := by decide +kernel
theorem dX12_spreads_117 : decode cX12_spreads 117 = .ok (.sipush 1000, 3) := by decide +kernel
theorem dX12_spreads_120 : decode cX12_spreads 120 = .ok (.if_icmp .eq 6, 3) := by decide +kernel
theorem dX12_spreads_123 : decode cX12_spreads 123 = .ok (.goto 34, 3) := by decide +kernel
theorem dX12_spreads_126 : decode cX12_spreads 126 = .ok (.aload_n 0, 1) := by decide +kernel
theorem dX12_spreads_127 : decode cX12_spreads 127 = .ok (.getfield 95, 3) := by decide +kernel
theorem dX12_spreads_130 : decode cX12_spreads 130 = .ok (.iload 4, 2) := by decide +kernel
theorem dX12_spreads_132 : decode cX12_spreads 132 = .ok (.aload_n 0, 1) := by decide +kernel
theorem dX12_spreads_133 : decode cX12_spreads 133 = .ok (.getfield 95, 3) := by decide +kernel
theorem dX12_spreads_136 : decode cX12_spreads 136 = .ok (.aload_n 0, 1) := by decide +kernel
theorem dX12_spreads_137 : decode cX12_spreads 137 = .ok (.getfield 98, 3) := by decide +kernel
theorem dX12_spreads_140 : decode cX12_spreads 140 = .ok (.iload_n 2, 1) := by decide +kernel
theorem dX12_spreads_141 : decode cX12_spreads 141 = .ok (.iaload, 1) := by decide +kernel
theorem dX12_spreads_142 : decode cX12_spreads 142 = .ok (.iaload, 1) := by decide +kernel
theorem dX12_spreads_143 : decode cX12_spreads 143 = .ok (.iconst 1, 1) := by decide +kernel
theorem dX12_spreads_144 : decode cX12_spreads 144 = .ok (.iadd, 1) := by decide +kernel
theorem dX12_spreads_145 : decode cX12_spreads 145 = .ok (.iastore, 1) := by decide +kernel
theorem dX12_spreads_146 : decode cX12_spreads 146 = .ok (.aload_n 0, 1) := by decide +kernel
theorem dX12_spreads_147 : decode cX12_spreads 147 = .ok (.getfield 98, 3) := by decide +kernel
theorem dX12_spreads_150 : decode cX12_spreads 150 = .ok (.iload_n 1, 1) := by decide +kernel
theorem dX12_spreads_151 : decode cX12_spreads 151 = .ok (.iload 4, 2) := by decide +kernel
theorem dX12_spreads_153 : decode cX12_spreads 153 = .ok (.iastore, 1) := by decide +kernel
theorem dX12_spreads_154 : decode cX12_spreads 154 = .ok (.iinc 1 1, 3) := by decide +kernel
theorem dX12_spreads_157 : decode cX12_spreads 157 = .ok (.iinc 3 1, 3) := by decide +kernel
theorem dX12_spreads_160 : decode cX12_spreads 160 = .ok (.goto (-68), 3) := by decide +kernel
theorem dX12_spreads_163 : decode cX12_spreads 163 = .ok (.iinc 2 1, 3) := by decide +kernel
theorem dX12_spreads_166 : decode cX12_spreads 166 = .ok (.goto (-81), 3) := by decide +kernel
theorem dX12_spreads_169 : decode cX12_spreads 169 = .ok (.return_, 1) := by decide +kernel
theorem dX12_nearer_0 : decode cX12_nearer 0 = .ok (.iconst 0, 1) := by decide +kernel
theorem dX12_nearer_1 : decode cX12_nearer 1 = .ok (.istore_n 2, 1) := by decide +kernel
theorem dX12_nearer_2 : decode cX12_nearer 2 = .ok (.iload_n 2, 1) := by decide +kernel
theorem dX12_nearer_3 : decode cX12_nearer 3 = .ok (.iconst 4, 1) := by decide +kernel
theorem dX12_nearer_4 : decode cX12_nearer 4 = .ok (.if_icmp .ge 33, 3) := by decide +kernel
theorem dX12_nearer_7 : decode cX12_nearer 7 = .ok (.aload_n 0, 1) := by decide +kernel
theorem dX12_nearer_8 : decode cX12_nearer 8 = .ok (.iload_n 1, 1) := by decide +kernel
theorem dX12_nearer_9 : decode cX12_nearer 9 = .ok (.iload_n 2, 1) := by decide +kernel
theorem dX12_nearer_10 : decode cX12_nearer 10 = .ok (.invokevirtual 364, 3) := by decide +kernel
theorem dX12_nearer_13 : decode cX12_nearer 13 = .ok (.istore_n 3, 1) := by decide +kernel
theorem dX12_nearer_14 : decode cX12_nearer 14 = .ok (.aload_n 0, 1) := by decide +kernel
theorem dX12_nearer_15 : decode cX12_nearer 15 = .ok (.getfield 95, 3) := by decide +kernel
theorem dX12_nearer_18 : decode cX12_nearer 18 = .ok (.iload_n 3, 1) := by decide +kernel
theorem dX12_nearer_19 : decode cX12_nearer 19 = .ok (.iaload, 1) := by decide +kernel
theorem dX12_nearer_20 : decode cX12_nearer 20 = .ok (.aload_n 0, 1) := by decide +kernel
theorem dX12_nearer_21 : decode cX12_nearer 21 = .ok (.getfield 95, 3) := by decide +kernel
theorem dX12_nearer_24 : decode cX12_nearer 24 = .ok (.iload_n 1, 1) := by decide +kernel
theorem dX12_nearer_25 : decode cX12_nearer 25 = .ok (.iaload, 1) := by decide +kernel
theorem dX12_nearer_26 : decode cX12_nearer 26 = .ok (.if_icmp .ge 5, 3) := by decide +kernel
theorem dX12_nearer_29 : decode cX12_nearer 29 = .ok (.iload_n 3, 1) := by decide +kernel
theorem dX12_nearer_30 : decode cX12_nearer 30 = .ok (.ireturn, 1) := by decide +kernel
theorem dX12_nearer_31 : decode cX12_nearer 31 = .ok (.iinc 2 1, 3) := by decide +kernel
theorem dX12_nearer_34 : decode cX12_nearer 34 = .ok (.goto (-32), 3) := by decide +kernel
theorem dX12_nearer_37 : decode cX12_nearer 37 = .ok (.iload_n 1, 1) := by decide +kernel
theorem dX12_nearer_38 : decode cX12_nearer 38 = .ok (.ireturn, 1) := by decide +kernel
theorem dX12_openTime_0 : decode cX12_openTime 0 = .ok (.aload_n 0, 1) := by decide +kernel
theorem dX12_openTime_1 : decode cX12_openTime 1 = .ok (.getfield 89, 3) := by decide +kernel
theorem dX12_openTime_4 : decode cX12_openTime 4 = .ok (.iconst 5, 1) := by decide +kernel
theorem dX12_openTime_5 : decode cX12_openTime 5 = .ok (.iaload, 1) := by decide +kernel
theorem dX12_openTime_6 : decode cX12_openTime 6 = .ok (.ireturn, 1) := by decide +kernel
theorem dX12_isOpen_0 : decode cX12_isOpen 0 = .ok (.aload_n 0, 1) := by decide +kernel
theorem dX12_isOpen_1 : decode cX12_isOpen 1 = .ok (.getfield 104, 3) := by decide +kernel
theorem dX12_isOpen_4 : decode cX12_isOpen 4 = .ok (.iload_n 1, 1) := by decide +kernel
theorem dX12_isOpen_5 : decode cX12_isOpen 5 = .ok (.iaload, 1) := by decide +kernel
theorem dX12_isOpen_6 : decode cX12_isOpen 6 = .ok (.iconst (-1), 1) := by decide +kernel
theorem dX12_isOpen_7 : decode cX12_isOpen 7 = .ok (.if_icmp .eq 32, 3) := by decide +kernel
theorem dX12_isOpen_10 : decode cX12_isOpen 10 = .ok (.aload_n 0, 1) := by decide +kernel
theorem dX12_isOpen_11 : decode cX12_isOpen 11 = .ok (.getfield 104, 3) := by decide +kernel
theorem dX12_isOpen_14 : decode cX12_isOpen 14 = .ok (.iload_n 1, 1) := by decide +kernel
theorem dX12_isOpen_15 : decode cX12_isOpen 15 = .ok (.iaload, 1) := by decide +kernel
theorem dX12_isOpen_16 : decode cX12_isOpen 16 = .ok (.iload_n 2, 1) := by decide +kernel
theorem dX12_isOpen_17 : decode cX12_isOpen 17 = .ok (.if_icmp .gt 22, 3) := by decide +kernel
theorem dX12_isOpen_20 : decode cX12_isOpen 20 = .ok (.iload_n 2, 1) := by decide +kernel
theorem dX12_isOpen_21 : decode cX12_isOpen 21 = .ok (.aload_n 0, 1) := by decide +kernel
theorem dX12_isOpen_22 : decode cX12_isOpen 22 = .ok (.getfield 104, 3) := by decide +kernel
theorem dX12_isOpen_25 : decode cX12_isOpen 25 = .ok (.iload_n 1, 1) := by decide +kernel
theorem dX12_isOpen_26 : decode cX12_isOpen 26 = .ok (.iaload, 1) := by decide +kernel
theorem dX12_isOpen_27 : decode cX12_isOpen 27 = .ok (.aload_n 0, 1) := by decide +kernel
theorem dX12_isOpen_28 : decode cX12_isOpen 28 = .ok (.invokevirtual 367, 3) := by decide +kernel
theorem dX12_isOpen_31 : decode cX12_isOpen 31 = .ok (.iadd, 1) := by decide +kernel
theorem dX12_isOpen_32 : decode cX12_isOpen 32 = .ok (.if_icmp .ge 7, 3) := by decide +kernel
theorem dX12_isOpen_35 : decode cX12_isOpen 35 = .ok (.iconst 1, 1) := by decide +kernel
theorem dX12_isOpen_36 : decode cX12_isOpen 36 = .ok (.goto 4, 3) := by decide +kernel
theorem dX12_isOpen_39 : decode cX12_isOpen 39 = .ok (.iconst 0, 1) := by decide +kernel
theorem dX12_isOpen_40 : decode cX12_isOpen 40 = .ok (.ireturn, 1) := by decide +kernel
theorem dX12_isWaiting_0 : decode cX12_isWaiting 0 = .ok (.aload_n 0, 1) := by decide +kernel
theorem dX12_isWaiting_1 : decode cX12_isWaiting 1 = .ok (.getfield 104, 3) := by decide +kernel
theorem dX12_isWaiting_4 : decode cX12_isWaiting 4 = .ok (.iload_n 1, 1) := by decide +kernel
theorem dX12_isWaiting_5 : decode cX12_isWaiting 5 = .ok (.iaload, 1) := by decide +kernel
theorem dX12_isWaiting_6 : decode cX12_isWaiting 6 = .ok (.iconst (-1), 1) := by decide +kernel
theorem dX12_isWaiting_7 : decode cX12_isWaiting 7 = .ok (.if_icmp .eq 13, 3) := by decide +kernel
theorem dX12_isWaiting_10 : decode cX12_isWaiting 10 = .ok (.aload_n 0, 1) := by decide +kernel
theorem dX12_isWaiting_11 : decode cX12_isWaiting 11 = .ok (.getfield 104, 3) := by decide +kernel
theorem dX12_isWaiting_14 : decode cX12_isWaiting 14 = .ok (.iload_n 1, 1) := by decide +kernel
theorem dX12_isWaiting_15 : decode cX12_isWaiting 15 = .ok (.iaload, 1) := by decide +kernel
theorem dX12_isWaiting_16 : decode cX12_isWaiting 16 = .ok (.iload_n 2, 1) := by decide +kernel
theorem dX12_isWaiting_17 : decode cX12_isWaiting 17 = .ok (.if_icmp .le 7, 3) := by decide +kernel
theorem dX12_isWaiting_20 : decode cX12_isWaiting 20 = .ok (.iconst 1, 1) := by decide +kernel
theorem dX12_isWaiting_21 : decode cX12_isWaiting 21 = .ok (.goto 4, 3) := by decide +kernel
theorem dX12_isWaiting_24 : decode cX12_isWaiting 24 = .ok (.iconst 0, 1) := by decide +kernel
theorem dX12_isWaiting_25 : decode cX12_isWaiting 25 = .ok (.ireturn, 1) := by decide +kernel
theorem dX12_isOut_0 : decode cX12_isOut 0 = .ok (.aload_n 0, 1) := by decide +kernel
theorem dX12_isOut_1 : decode cX12_isOut 1 = .ok (.getfield 110, 3) := by decide +kernel
theorem dX12_isOut_4 : decode cX12_isOut 4 = .ok (.iload_n 1, 1) := by decide +kernel
theorem dX12_isOut_5 : decode cX12_isOut 5 = .ok (.iaload, 1) := by decide +kernel
theorem dX12_isOut_6 : decode cX12_isOut 6 = .ok (.iconst (-1), 1) := by decide +kernel
theorem dX12_isOut_7 : decode cX12_isOut 7 = .ok (.if_icmp .eq 17, 3) := by decide +kernel
theorem dX12_isOut_10 : decode cX12_isOut 10 = .ok (.aload_n 0, 1) := by decide +kernel
theorem dX12_isOut_11 : decode cX12_isOut 11 = .ok (.getfield 110, 3) := by decide +kernel
theorem dX12_isOut_14 : decode cX12_isOut 14 = .ok (.iload_n 1, 1) := by decide +kernel
theorem dX12_isOut_15 : decode cX12_isOut 15 = .ok (.iaload, 1) := by decide +kernel
theorem dX12_isOut_16 : decode cX12_isOut 16 = .ok (.iload_n 2, 1) := by decide +kernel
theorem dX12_isOut_17 : decode cX12_isOut 17 = .ok (.if_icmp .gt 7, 3) := by decide +kernel
theorem dX12_isOut_20 : decode cX12_isOut 20 = .ok (.iconst 1, 1) := by decide +kernel
theorem dX12_isOut_21 : decode cX12_isOut 21 = .ok (.goto 4, 3) := by decide +kernel
theorem dX12_isOut_24 : decode cX12_isOut 24 = .ok (.iconst 0, 1) := by decide +kernel
theorem dX12_isOut_25 : decode cX12_isOut 25 = .ok (.ireturn, 1) := by decide +kernel
theorem dX12_whereIn_0 : decode cX12_whereIn 0 = .ok (.aload_n 0, 1) := by decide +kernel
theorem dX12_whereIn_1 : decode cX12_whereIn 1 = .ok (.getfield 101, 3) := by decide +kernel
theorem dX12_whereIn_4 : decode cX12_whereIn 4 = .ok (.bipush 9, 2) := by decide +kernel
theorem dX12_whereIn_6 : decode cX12_whereIn 6 = .ok (.iload_n 2, 1) := by decide +kernel
theorem dX12_whereIn_7 : decode cX12_whereIn 7 = .ok (.imul, 1) := by decide +kernel
theorem dX12_whereIn_8 : decode cX12_whereIn 8 = .ok (.iload_n 1, 1) := by decide +kernel
theorem dX12_whereIn_9 : decode cX12_whereIn 9 = .ok (.iadd, 1) := by decide +kernel
theorem dX12_whereIn_10 : decode cX12_whereIn 10 = .ok (.iaload, 1) := by decide +kernel
theorem dX12_whereIn_11 : decode cX12_whereIn 11 = .ok (.ireturn, 1) := by decide +kernel
theorem dX12_opensBy_0 : decode cX12_opensBy 0 = .ok (.aload_n 0, 1) := by decide +kernel
theorem dX12_opensBy_1 : decode cX12_opensBy 1 = .ok (.getfield 370, 3) := by decide +kernel
theorem dX12_opensBy_4 : decode cX12_opensBy 4 = .ok (.iconst (-1), 1) := by decide +kernel
theorem dX12_opensBy_5 : decode cX12_opensBy 5 = .ok (.if_icmp .eq 15, 3) := by decide +kernel
theorem dX12_opensBy_8 : decode cX12_opensBy 8 = .ok (.aload_n 0, 1) := by decide +kernel
theorem dX12_opensBy_9 : decode cX12_opensBy 9 = .ok (.getfield 370, 3) := by decide +kernel
theorem dX12_opensBy_12 : decode cX12_opensBy 12 = .ok (.iload_n 2, 1) := by decide +kernel
theorem dX12_opensBy_13 : decode cX12_opensBy 13 = .ok (.if_icmp .ge 7, 3) := by decide +kernel
theorem dX12_opensBy_16 : decode cX12_opensBy 16 = .ok (.iconst 1, 1) := by decide +kernel
theorem dX12_opensBy_17 : decode cX12_opensBy 17 = .ok (.goto 4, 3) := by decide +kernel
theorem dX12_opensBy_20 : decode cX12_opensBy 20 = .ok (.iconst 0, 1) := by decide +kernel
theorem dX12_opensBy_21 : decode cX12_opensBy 21 = .ok (.istore_n 3, 1) := by decide +kernel
theorem dX12_opensBy_22 : decode cX12_opensBy 22 = .ok (.iload_n 3, 1) := by decide +kernel
theorem dX12_opensBy_23 : decode cX12_opensBy 23 = .ok (.ifCond .ne 31, 3) := by decide +kernel
theorem dX12_opensBy_26 : decode cX12_opensBy 26 = .ok (.aload_n 0, 1) := by decide +kernel
theorem dX12_opensBy_27 : decode cX12_opensBy 27 = .ok (.iload_n 1, 1) := by decide +kernel
theorem dX12_opensBy_28 : decode cX12_opensBy 28 = .ok (.iconst 4, 1) := by decide +kernel
theorem dX12_opensBy_29 : decode cX12_opensBy 29 = .ok (.invokevirtual 373, 3) := by decide +kernel
theorem dX12_opensBy_32 : decode cX12_opensBy 32 = .ok (.ifCond .ne 22, 3) := by decide +kernel
theorem dX12_opensBy_35 : decode cX12_opensBy 35 = .ok (.iload_n 2, 1) := by decide +kernel
theorem dX12_opensBy_36 : decode cX12_opensBy 36 = .ok (.aload_n 0, 1) := by decide +kernel
theorem dX12_opensBy_37 : decode cX12_opensBy 37 = .ok (.getfield 89, 3) := by decide +kernel
theorem dX12_opensBy_40 : decode cX12_opensBy 40 = .ok (.iconst 4, 1) := by decide +kernel
theorem dX12_opensBy_41 : decode cX12_opensBy 41 = .ok (.iaload, 1) := by decide +kernel
theorem dX12_opensBy_42 : decode cX12_opensBy 42 = .ok (.aload_n 0, 1) := by decide +kernel
theorem dX12_opensBy_43 : decode cX12_opensBy 43 = .ok (.iload_n 1, 1) := by decide +kernel
theorem dX12_opensBy_44 : decode cX12_opensBy 44 = .ok (.iconst 1, 1) := by decide +kernel
theorem dX12_opensBy_45 : decode cX12_opensBy 45 = .ok (.invokevirtual 373, 3) := by decide +kernel
theorem dX12_opensBy_48 : decode cX12_opensBy 48 = .ok (.iadd, 1) := by decide +kernel
theorem dX12_opensBy_49 : decode cX12_opensBy 49 = .ok (.if_icmp .lt 5, 3) := by decide +kernel
theorem dX12_opensBy_52 : decode cX12_opensBy 52 = .ok (.iconst 1, 1) := by decide +kernel
theorem dX12_opensBy_53 : decode cX12_opensBy 53 = .ok (.ireturn, 1) := by decide +kernel
theorem dX12_opensBy_54 : decode cX12_opensBy 54 = .ok (.aload_n 0, 1) := by decide +kernel
theorem dX12_opensBy_55 : decode cX12_opensBy 55 = .ok (.iload_n 1, 1) := by decide +kernel
theorem dX12_opensBy_56 : decode cX12_opensBy 56 = .ok (.iconst 2, 1) := by decide +kernel
theorem dX12_opensBy_57 : decode cX12_opensBy 57 = .ok (.invokevirtual 373, 3) := by decide +kernel
theorem dX12_opensBy_60 : decode cX12_opensBy 60 = .ok (.ifCond .ne 5, 3) := by decide +kernel
theorem dX12_opensBy_63 : decode cX12_opensBy 63 = .ok (.iconst 0, 1) := by decide +kernel
theorem dX12_opensBy_64 : decode cX12_opensBy 64 = .ok (.ireturn, 1) := by decide +kernel
theorem dX12_opensBy_65 : decode cX12_opensBy 65 = .ok (.iconst 0, 1) := by decide +kernel
theorem dX12_opensBy_66 : decode cX12_opensBy 66 = .ok (.istore 4, 2) := by decide +kernel
theorem dX12_opensBy_68 : decode cX12_opensBy 68 = .ok (.iconst 0, 1) := by decide +kernel
theorem dX12_opensBy_69 : decode cX12_opensBy 69 = .ok (.istore 5, 2) := by decide +kernel
theorem dX12_opensBy_71 : decode cX12_opensBy 71 = .ok (.iload 5, 2) := by decide +kernel
theorem dX12_opensBy_73 : decode cX12_opensBy 73 = .ok (.aload_n 0, 1) := by decide +kernel
theorem dX12_opensBy_74 : decode cX12_opensBy 74 = .ok (.invokevirtual 349, 3) := by decide +kernel
theorem dX12_opensBy_77 : decode cX12_opensBy 77 = .ok (.if_icmp .ge 64, 3) := by decide +kernel
theorem dX12_opensBy_80 : decode cX12_opensBy 80 = .ok (.aload_n 0, 1) := by decide +kernel
theorem dX12_opensBy_81 : decode cX12_opensBy 81 = .ok (.iload 5, 2) := by decide +kernel
theorem dX12_opensBy_83 : decode cX12_opensBy 83 = .ok (.invokevirtual 376, 3) := by decide +kernel
theorem dX12_opensBy_86 : decode cX12_opensBy 86 = .ok (.ifCond .eq 49, 3) := by decide +kernel
theorem dX12_opensBy_89 : decode cX12_opensBy 89 = .ok (.aload_n 0, 1) := by decide +kernel
theorem dX12_opensBy_90 : decode cX12_opensBy 90 = .ok (.iload 5, 2) := by decide +kernel
theorem dX12_opensBy_92 : decode cX12_opensBy 92 = .ok (.iload_n 2, 1) := by decide +kernel
theorem dX12_opensBy_93 : decode cX12_opensBy 93 = .ok (.iconst 1, 1) := by decide +kernel
theorem dX12_opensBy_94 : decode cX12_opensBy 94 = .ok (.isub, 1) := by decide +kernel
theorem dX12_opensBy_95 : decode cX12_opensBy 95 = .ok (.invokevirtual 379, 3) := by decide +kernel
theorem dX12_opensBy_98 : decode cX12_opensBy 98 = .ok (.ifCond .eq 37, 3) := by decide +kernel
theorem dX12_opensBy_101 : decode cX12_opensBy 101 = .ok (.aload_n 0, 1) := by decide +kernel
theorem dX12_opensBy_102 : decode cX12_opensBy 102 = .ok (.aload_n 0, 1) := by decide +kernel
theorem dX12_opensBy_103 : decode cX12_opensBy 103 = .ok (.iload_n 1, 1) := by decide +kernel
theorem dX12_opensBy_104 : decode cX12_opensBy 104 = .ok (.iload_n 2, 1) := by decide +kernel
theorem dX12_opensBy_105 : decode cX12_opensBy 105 = .ok (.iconst 1, 1) := by decide +kernel
theorem dX12_opensBy_106 : decode cX12_opensBy 106 = .ok (.isub, 1) := by decide +kernel
theorem dX12_opensBy_107 : decode cX12_opensBy 107 = .ok (.invokevirtual 383, 3) := by decide +kernel
theorem dX12_opensBy_110 : decode cX12_opensBy 110 = .ok (.aload_n 0, 1) := by decide +kernel
theorem dX12_opensBy_111 : decode cX12_opensBy 111 = .ok (.iload 5, 2) := by decide +kernel
theorem dX12_opensBy_113 : decode cX12_opensBy 113 = .ok (.iload_n 2, 1) := by decide +kernel
theorem dX12_opensBy_114 : decode cX12_opensBy 114 = .ok (.iconst 1, 1) := by decide +kernel
theorem dX12_opensBy_115 : decode cX12_opensBy 115 = .ok (.isub, 1) := by decide +kernel
theorem dX12_opensBy_116 : decode cX12_opensBy 116 = .ok (.invokevirtual 383, 3) := by decide +kernel
theorem dX12_opensBy_119 : decode cX12_opensBy 119 = .ok (.invokevirtual 386, 3) := by decide +kernel
theorem dX12_opensBy_122 : decode cX12_opensBy 122 = .ok (.aload_n 0, 1) := by decide +kernel
theorem dX12_opensBy_123 : decode cX12_opensBy 123 = .ok (.getfield 89, 3) := by decide +kernel
theorem dX12_opensBy_126 : decode cX12_opensBy 126 = .ok (.bipush 6, 2) := by decide +kernel
theorem dX12_opensBy_128 : decode cX12_opensBy 128 = .ok (.iaload, 1) := by decide +kernel
theorem dX12_opensBy_129 : decode cX12_opensBy 129 = .ok (.if_icmp .gt 6, 3) := by decide +kernel
theorem dX12_opensBy_132 : decode cX12_opensBy 132 = .ok (.iinc 4 1, 3) := by decide +kernel
theorem dX12_opensBy_135 : decode cX12_opensBy 135 = .ok (.iinc 5 1, 3) := by decide +kernel
theorem dX12_opensBy_138 : decode cX12_opensBy 138 = .ok (.goto (-67), 3) := by decide +kernel
theorem dX12_opensBy_141 : decode cX12_opensBy 141 = .ok (.iload 4, 2) := by decide +kernel
theorem dX12_opensBy_143 : decode cX12_opensBy 143 = .ok (.aload_n 0, 1) := by decide +kernel
theorem dX12_opensBy_144 : decode cX12_opensBy 144 = .ok (.iload_n 1, 1) := by decide +kernel
theorem dX12_opensBy_145 : decode cX12_opensBy 145 = .ok (.iconst 2, 1) := by decide +kernel
theorem dX12_opensBy_146 : decode cX12_opensBy 146 = .ok (.invokevirtual 373, 3) := by decide +kernel
theorem dX12_opensBy_149 : decode cX12_opensBy 149 = .ok (.if_icmp .lt 7, 3) := by decide +kernel
theorem dX12_opensBy_152 : decode cX12_opensBy 152 = .ok (.iconst 2, 1) := by decide +kernel
theorem dX12_opensBy_153 : decode cX12_opensBy 153 = .ok (.goto 4, 3) := by decide +kernel
theorem dX12_opensBy_156 : decode cX12_opensBy 156 = .ok (.iconst 0, 1) := by decide +kernel
theorem dX12_opensBy_157 : decode cX12_opensBy 157 = .ok (.ireturn, 1) := by decide +kernel
theorem dX12_doorIn_0 : decode cX12_doorIn 0 = .ok (.iconst 0, 1) := by decide +kernel
theorem dX12_doorIn_1 : decode cX12_doorIn 1 = .ok (.istore_n 2, 1) := by decide +kernel
theorem dX12_doorIn_2 : decode cX12_doorIn 2 = .ok (.iload_n 2, 1) := by decide +kernel
theorem dX12_doorIn_3 : decode cX12_doorIn 3 = .ok (.aload_n 0, 1) := by decide +kernel
theorem dX12_doorIn_4 : decode cX12_doorIn 4 = .ok (.invokevirtual 361, 3) := by decide +kernel
theorem dX12_doorIn_7 : decode cX12_doorIn 7 = .ok (.if_icmp .ge 33, 3) := by decide +kernel
theorem dX12_doorIn_10 : decode cX12_doorIn 10 = .ok (.aload_n 0, 1) := by decide +kernel
theorem dX12_doorIn_11 : decode cX12_doorIn 11 = .ok (.getfield 86, 3) := by decide +kernel
theorem dX12_doorIn_14 : decode cX12_doorIn 14 = .ok (.bipush 6, 2) := by decide +kernel
theorem dX12_doorIn_16 : decode cX12_doorIn 16 = .ok (.iload_n 2, 1) := by decide +kernel
theorem dX12_doorIn_17 : decode cX12_doorIn 17 = .ok (.iadd, 1) := by decide +kernel
theorem dX12_doorIn_18 : decode cX12_doorIn 18 = .ok (.iaload, 1) := by decide +kernel
theorem dX12_doorIn_19 : decode cX12_doorIn 19 = .ok (.iload_n 1, 1) := by decide +kernel
theorem dX12_doorIn_20 : decode cX12_doorIn 20 = .ok (.if_icmp .ne 14, 3) := by decide +kernel
theorem dX12_doorIn_23 : decode cX12_doorIn 23 = .ok (.aload_n 0, 1) := by decide +kernel
theorem dX12_doorIn_24 : decode cX12_doorIn 24 = .ok (.getfield 92, 3) := by decide +kernel
theorem dX12_doorIn_27 : decode cX12_doorIn 27 = .ok (.iload_n 2, 1) := by decide +kernel
theorem dX12_doorIn_28 : decode cX12_doorIn 28 = .ok (.iaload, 1) := by decide +kernel
theorem dX12_doorIn_29 : decode cX12_doorIn 29 = .ok (.ifCond .ne 5, 3) := by decide +kernel
theorem dX12_doorIn_32 : decode cX12_doorIn 32 = .ok (.iload_n 2, 1) := by decide +kernel
theorem dX12_doorIn_33 : decode cX12_doorIn 33 = .ok (.ireturn, 1) := by decide +kernel
theorem dX12_doorIn_34 : decode cX12_doorIn 34 = .ok (.iinc 2 1, 3) := by decide +kernel
theorem dX12_doorIn_37 : decode cX12_doorIn 37 = .ok (.goto (-35), 3) := by decide +kernel
theorem dX12_doorIn_40 : decode cX12_doorIn 40 = .ok (.iconst (-1), 1) := by decide +kernel
theorem dX12_doorIn_41 : decode cX12_doorIn 41 = .ok (.ireturn, 1) := by decide +kernel
theorem dX12_moves_0 : decode cX12_moves 0 = .ok (.aload_n 0, 1) := by decide +kernel
theorem dX12_moves_1 : decode cX12_moves 1 = .ok (.iload_n 1, 1) := by decide +kernel
theorem dX12_moves_2 : decode cX12_moves 2 = .ok (.iload_n 2, 1) := by decide +kernel
theorem dX12_moves_3 : decode cX12_moves 3 = .ok (.iconst 1, 1) := by decide +kernel
theorem dX12_moves_4 : decode cX12_moves 4 = .ok (.isub, 1) := by decide +kernel
theorem dX12_moves_5 : decode cX12_moves 5 = .ok (.invokevirtual 383, 3) := by decide +kernel
theorem dX12_moves_8 : decode cX12_moves 8 = .ok (.istore_n 3, 1) := by decide +kernel
theorem dX12_moves_9 : decode cX12_moves 9 = .ok (.iload_n 3, 1) := by decide +kernel
theorem dX12_moves_10 : decode cX12_moves 10 = .ok (.istore 4, 2) := by decide +kernel
theorem dX12_moves_12 : decode cX12_moves 12 = .ok (.aload_n 0, 1) := by decide +kernel
theorem dX12_moves_13 : decode cX12_moves 13 = .ok (.getfield 113, 3) := by decide +kernel
theorem dX12_moves_16 : decode cX12_moves 16 = .ok (.iload_n 1, 1) := by decide +kernel
theorem dX12_moves_17 : decode cX12_moves 17 = .ok (.iconst 0, 1) := by decide +kernel
theorem dX12_moves_18 : decode cX12_moves 18 = .ok (.iastore, 1) := by decide +kernel
theorem dX12_moves_19 : decode cX12_moves 19 = .ok (.aload_n 0, 1) := by decide +kernel
theorem dX12_moves_20 : decode cX12_moves 20 = .ok (.iload_n 1, 1) := by decide +kernel
theorem dX12_moves_21 : decode cX12_moves 21 = .ok (.iload_n 2, 1) := by decide +kernel
theorem dX12_moves_22 : decode cX12_moves 22 = .ok (.iconst 1, 1) := by decide +kernel
theorem dX12_moves_23 : decode cX12_moves 23 = .ok (.isub, 1) := by decide +kernel
theorem dX12_moves_24 : decode cX12_moves 24 = .ok (.invokevirtual 389, 3) := by decide +kernel
theorem dX12_moves_27 : decode cX12_moves 27 = .ok (.ifCond .eq 52, 3) := by decide +kernel
theorem dX12_moves_30 : decode cX12_moves 30 = .ok (.aload_n 0, 1) := by decide +kernel
theorem dX12_moves_31 : decode cX12_moves 31 = .ok (.getfield 113, 3) := by decide +kernel
theorem dX12_moves_34 : decode cX12_moves 34 = .ok (.iload_n 1, 1) := by decide +kernel
theorem dX12_moves_35 : decode cX12_moves 35 = .ok (.aload_n 0, 1) := by decide +kernel
theorem dX12_moves_36 : decode cX12_moves 36 = .ok (.iload_n 1, 1) := by decide +kernel
theorem dX12_moves_37 : decode cX12_moves 37 = .ok (.iload_n 2, 1) := by decide +kernel
theorem dX12_moves_38 : decode cX12_moves 38 = .ok (.invokevirtual 392, 3) := by decide +kernel
theorem dX12_moves_41 : decode cX12_moves 41 = .ok (.iastore, 1) := by decide +kernel
theorem dX12_moves_42 : decode cX12_moves 42 = .ok (.aload_n 0, 1) := by decide +kernel
theorem dX12_moves_43 : decode cX12_moves 43 = .ok (.getfield 113, 3) := by decide +kernel
theorem dX12_moves_46 : decode cX12_moves 46 = .ok (.iload_n 1, 1) := by decide +kernel
theorem dX12_moves_47 : decode cX12_moves 47 = .ok (.iaload, 1) := by decide +kernel
theorem dX12_moves_48 : decode cX12_moves 48 = .ok (.ifCond .ne 105, 3) := by decide +kernel
theorem dX12_moves_51 : decode cX12_moves 51 = .ok (.aload_n 0, 1) := by decide +kernel
theorem dX12_moves_52 : decode cX12_moves 52 = .ok (.iload_n 3, 1) := by decide +kernel
theorem dX12_moves_53 : decode cX12_moves 53 = .ok (.aload_n 0, 1) := by decide +kernel
theorem dX12_moves_54 : decode cX12_moves 54 = .ok (.iload_n 1, 1) := by decide +kernel
theorem dX12_moves_55 : decode cX12_moves 55 = .ok (.bipush 6, 2) := by decide +kernel
theorem dX12_moves_57 : decode cX12_moves 57 = .ok (.iload_n 2, 1) := by decide +kernel
theorem dX12_moves_58 : decode cX12_moves 58 = .ok (.iconst 1, 1) := by decide +kernel
theorem dX12_moves_59 : decode cX12_moves 59 = .ok (.isub, 1) := by decide +kernel
theorem dX12_moves_60 : decode cX12_moves 60 = .ok (.aload_n 0, 1) := by decide +kernel
theorem dX12_moves_61 : decode cX12_moves 61 = .ok (.iload_n 1, 1) := by decide +kernel
theorem dX12_moves_62 : decode cX12_moves 62 = .ok (.iconst 5, 1) := by decide +kernel
theorem dX12_moves_63 : decode cX12_moves 63 = .ok (.invokevirtual 373, 3) := by decide +kernel
theorem dX12_moves_66 : decode cX12_moves 66 = .ok (.irem, 1) := by decide +kernel
theorem dX12_moves_67 : decode cX12_moves 67 = .ok (.iadd, 1) := by decide +kernel
theorem dX12_moves_68 : decode cX12_moves 68 = .ok (.invokevirtual 373, 3) := by decide +kernel
theorem dX12_moves_71 : decode cX12_moves 71 = .ok (.invokevirtual 364, 3) := by decide +kernel
theorem dX12_moves_74 : decode cX12_moves 74 = .ok (.istore 4, 2) := by decide +kernel
theorem dX12_moves_76 : decode cX12_moves 76 = .ok (.goto 77, 3) := by decide +kernel
theorem dX12_moves_79 : decode cX12_moves 79 = .ok (.aload_n 0, 1) := by decide +kernel
theorem dX12_moves_80 : decode cX12_moves 80 = .ok (.iload_n 1, 1) := by decide +kernel
theorem dX12_moves_81 : decode cX12_moves 81 = .ok (.iload_n 2, 1) := by decide +kernel
theorem dX12_moves_82 : decode cX12_moves 82 = .ok (.iconst 1, 1) := by decide +kernel
theorem dX12_moves_83 : decode cX12_moves 83 = .ok (.isub, 1) := by decide +kernel
theorem dX12_moves_84 : decode cX12_moves 84 = .ok (.invokevirtual 395, 3) := by decide +kernel
theorem dX12_moves_87 : decode cX12_moves 87 = .ok (.ifCond .ne 66, 3) := by decide +kernel
theorem dX12_moves_90 : decode cX12_moves 90 = .ok (.aload_n 0, 1) := by decide +kernel
theorem dX12_moves_91 : decode cX12_moves 91 = .ok (.iload_n 1, 1) := by decide +kernel
theorem dX12_moves_92 : decode cX12_moves 92 = .ok (.iload_n 2, 1) := by decide +kernel
theorem dX12_moves_93 : decode cX12_moves 93 = .ok (.invokevirtual 379, 3) := by decide +kernel
theorem dX12_moves_96 : decode cX12_moves 96 = .ok (.ifCond .ne 57, 3) := by decide +kernel
theorem dX12_moves_99 : decode cX12_moves 99 = .ok (.aload_n 0, 1) := by decide +kernel
theorem dX12_moves_100 : decode cX12_moves 100 = .ok (.getfield 370, 3) := by decide +kernel
theorem dX12_moves_103 : decode cX12_moves 103 = .ok (.iconst (-1), 1) := by decide +kernel
theorem dX12_moves_104 : decode cX12_moves 104 = .ok (.if_icmp .eq 15, 3) := by decide +kernel
theorem dX12_moves_107 : decode cX12_moves 107 = .ok (.aload_n 0, 1) := by decide +kernel
theorem dX12_moves_108 : decode cX12_moves 108 = .ok (.getfield 370, 3) := by decide +kernel
theorem dX12_moves_111 : decode cX12_moves 111 = .ok (.iload_n 2, 1) := by decide +kernel
theorem dX12_moves_112 : decode cX12_moves 112 = .ok (.if_icmp .ge 7, 3) := by decide +kernel
theorem dX12_moves_115 : decode cX12_moves 115 = .ok (.iconst 1, 1) := by decide +kernel
theorem dX12_moves_116 : decode cX12_moves 116 = .ok (.goto 4, 3) := by decide +kernel
theorem dX12_moves_119 : decode cX12_moves 119 = .ok (.iconst 0, 1) := by decide +kernel
theorem dX12_moves_120 : decode cX12_moves 120 = .ok (.istore 5, 2) := by decide +kernel
theorem dX12_moves_122 : decode cX12_moves 122 = .ok (.aload_n 0, 1) := by decide +kernel
theorem dX12_moves_123 : decode cX12_moves 123 = .ok (.iload_n 3, 1) := by decide +kernel
theorem dX12_moves_124 : decode cX12_moves 124 = .ok (.invokevirtual 398, 3) := by decide +kernel
theorem dX12_moves_127 : decode cX12_moves 127 = .ok (.iconst (-1), 1) := by decide +kernel
theorem dX12_moves_128 : decode cX12_moves 128 = .ok (.if_icmp .eq 18, 3) := by decide +kernel
theorem dX12_moves_131 : decode cX12_moves 131 = .ok (.iload 5, 2) := by decide +kernel
theorem dX12_moves_133 : decode cX12_moves 133 = .ok (.ifCond .ne 13, 3) := by decide +kernel
theorem dX12_moves_136 : decode cX12_moves 136 = .ok (.aload_n 0, 1) := by decide +kernel
theorem dX12_moves_137 : decode cX12_moves 137 = .ok (.getfield 110, 3) := by decide +kernel
theorem dX12_moves_140 : decode cX12_moves 140 = .ok (.iload_n 1, 1) := by decide +kernel
theorem dX12_moves_141 : decode cX12_moves 141 = .ok (.iload_n 2, 1) := by decide +kernel
theorem dX12_moves_142 : decode cX12_moves 142 = .ok (.iastore, 1) := by decide +kernel
theorem dX12_moves_143 : decode cX12_moves 143 = .ok (.goto 10, 3) := by decide +kernel
theorem dX12_moves_146 : decode cX12_moves 146 = .ok (.aload_n 0, 1) := by decide +kernel
theorem dX12_moves_147 : decode cX12_moves 147 = .ok (.iload_n 3, 1) := by decide +kernel
theorem dX12_moves_148 : decode cX12_moves 148 = .ok (.invokevirtual 401, 3) := by decide +kernel
theorem dX12_moves_151 : decode cX12_moves 151 = .ok (.istore 4, 2) := by decide +kernel
theorem dX12_moves_153 : decode cX12_moves 153 = .ok (.aload_n 0, 1) := by decide +kernel
theorem dX12_moves_154 : decode cX12_moves 154 = .ok (.getfield 101, 3) := by decide +kernel
theorem dX12_moves_157 : decode cX12_moves 157 = .ok (.bipush 9, 2) := by decide +kernel
theorem dX12_moves_159 : decode cX12_moves 159 = .ok (.iload_n 2, 1) := by decide +kernel
theorem dX12_moves_160 : decode cX12_moves 160 = .ok (.imul, 1) := by decide +kernel
theorem dX12_moves_161 : decode cX12_moves 161 = .ok (.iload_n 1, 1) := by decide +kernel
theorem dX12_moves_162 : decode cX12_moves 162 = .ok (.iadd, 1) := by decide +kernel
theorem dX12_moves_163 : decode cX12_moves 163 = .ok (.iload 4, 2) := by decide +kernel
theorem dX12_moves_165 : decode cX12_moves 165 = .ok (.iastore, 1) := by decide +kernel
theorem dX12_moves_166 : decode cX12_moves 166 = .ok (.return_, 1) := by decide +kernel
theorem dX12_waitingNear_0 : decode cX12_waitingNear 0 = .ok (.iconst 0, 1) := by decide +kernel
theorem dX12_waitingNear_1 : decode cX12_waitingNear 1 = .ok (.istore_n 3, 1) := by decide +kernel
theorem dX12_waitingNear_2 : decode cX12_waitingNear 2 = .ok (.iconst 0, 1) := by decide +kernel
theorem dX12_waitingNear_3 : decode cX12_waitingNear 3 = .ok (.istore 4, 2) := by decide +kernel
theorem dX12_waitingNear_5 : decode cX12_waitingNear 5 = .ok (.iload 4, 2) := by decide +kernel
theorem dX12_waitingNear_7 : decode cX12_waitingNear 7 = .ok (.aload_n 0, 1) := by decide +kernel
theorem dX12_waitingNear_8 : decode cX12_waitingNear 8 = .ok (.invokevirtual 349, 3) := by decide +kernel
theorem dX12_waitingNear_11 : decode cX12_waitingNear 11 = .ok (.if_icmp .ge 69, 3) := by decide +kernel
theorem dX12_waitingNear_14 : decode cX12_waitingNear 14 = .ok (.aload_n 0, 1) := by decide +kernel
theorem dX12_waitingNear_15 : decode cX12_waitingNear 15 = .ok (.iload 4, 2) := by decide +kernel
theorem dX12_waitingNear_17 : decode cX12_waitingNear 17 = .ok (.invokevirtual 376, 3) := by decide +kernel
theorem dX12_waitingNear_20 : decode cX12_waitingNear 20 = .ok (.ifCond .eq 54, 3) := by decide +kernel
theorem dX12_waitingNear_23 : decode cX12_waitingNear 23 = .ok (.aload_n 0, 1) := by decide +kernel
theorem dX12_waitingNear_24 : decode cX12_waitingNear 24 = .ok (.iload 4, 2) := by decide +kernel
theorem dX12_waitingNear_26 : decode cX12_waitingNear 26 = .ok (.iload_n 2, 1) := by decide +kernel
theorem dX12_waitingNear_27 : decode cX12_waitingNear 27 = .ok (.invokevirtual 389, 3) := by decide +kernel
theorem dX12_waitingNear_30 : decode cX12_waitingNear 30 = .ok (.ifCond .eq 44, 3) := by decide +kernel
theorem dX12_waitingNear_33 : decode cX12_waitingNear 33 = .ok (.aload_n 0, 1) := by decide +kernel
theorem dX12_waitingNear_34 : decode cX12_waitingNear 34 = .ok (.aload_n 0, 1) := by decide +kernel
theorem dX12_waitingNear_35 : decode cX12_waitingNear 35 = .ok (.getfield 83, 3) := by decide +kernel
theorem dX12_waitingNear_38 : decode cX12_waitingNear 38 = .ok (.bipush 12, 2) := by decide +kernel
theorem dX12_waitingNear_40 : decode cX12_waitingNear 40 = .ok (.iconst 3, 1) := by decide +kernel
theorem dX12_waitingNear_41 : decode cX12_waitingNear 41 = .ok (.iload_n 1, 1) := by decide +kernel
theorem dX12_waitingNear_42 : decode cX12_waitingNear 42 = .ok (.imul, 1) := by decide +kernel
theorem dX12_waitingNear_43 : decode cX12_waitingNear 43 = .ok (.iadd, 1) := by decide +kernel
theorem dX12_waitingNear_44 : decode cX12_waitingNear 44 = .ok (.iaload, 1) := by decide +kernel
theorem dX12_waitingNear_45 : decode cX12_waitingNear 45 = .ok (.aload_n 0, 1) := by decide +kernel
theorem dX12_waitingNear_46 : decode cX12_waitingNear 46 = .ok (.iload 4, 2) := by decide +kernel
theorem dX12_waitingNear_48 : decode cX12_waitingNear 48 = .ok (.iload_n 2, 1) := by decide +kernel
theorem dX12_waitingNear_49 : decode cX12_waitingNear 49 = .ok (.invokevirtual 383, 3) := by decide +kernel
theorem dX12_waitingNear_52 : decode cX12_waitingNear 52 = .ok (.invokevirtual 386, 3) := by decide +kernel
theorem dX12_waitingNear_55 : decode cX12_waitingNear 55 = .ok (.aload_n 0, 1) := by decide +kernel
theorem dX12_waitingNear_56 : decode cX12_waitingNear 56 = .ok (.getfield 83, 3) := by decide +kernel
theorem dX12_waitingNear_59 : decode cX12_waitingNear 59 = .ok (.bipush 12, 2) := by decide +kernel
theorem dX12_waitingNear_61 : decode cX12_waitingNear 61 = .ok (.iconst 3, 1) := by decide +kernel
theorem dX12_waitingNear_62 : decode cX12_waitingNear 62 = .ok (.iload_n 1, 1) := by decide +kernel
theorem dX12_waitingNear_63 : decode cX12_waitingNear 63 = .ok (.imul, 1) := by decide +kernel
theorem dX12_waitingNear_64 : decode cX12_waitingNear 64 = .ok (.iadd, 1) := by decide +kernel
theorem dX12_waitingNear_65 : decode cX12_waitingNear 65 = .ok (.iconst 1, 1) := by decide +kernel
theorem dX12_waitingNear_66 : decode cX12_waitingNear 66 = .ok (.iadd, 1) := by decide +kernel
theorem dX12_waitingNear_67 : decode cX12_waitingNear 67 = .ok (.iaload, 1) := by decide +kernel
theorem dX12_waitingNear_68 : decode cX12_waitingNear 68 = .ok (.if_icmp .gt 6, 3) := by decide +kernel
theorem dX12_waitingNear_71 : decode cX12_waitingNear 71 = .ok (.iinc 3 1, 3) := by decide +kernel
theorem dX12_waitingNear_74 : decode cX12_waitingNear 74 = .ok (.iinc 4 1, 3) := by decide +kernel
theorem dX12_waitingNear_77 : decode cX12_waitingNear 77 = .ok (.goto (-72), 3) := by decide +kernel
theorem dX12_waitingNear_80 : decode cX12_waitingNear 80 = .ok (.iload_n 3, 1) := by decide +kernel
theorem dX12_waitingNear_81 : decode cX12_waitingNear 81 = .ok (.ireturn, 1) := by decide +kernel
theorem dX12_looksUp_0 : decode cX12_looksUp 0 = .ok (.iconst 0, 1) := by decide +kernel
theorem dX12_looksUp_1 : decode cX12_looksUp 1 = .ok (.istore_n 2, 1) := by decide +kernel
theorem dX12_looksUp_2 : decode cX12_looksUp 2 = .ok (.iload_n 2, 1) := by decide +kernel
theorem dX12_looksUp_3 : decode cX12_looksUp 3 = .ok (.aload_n 0, 1) := by decide +kernel
theorem dX12_looksUp_4 : decode cX12_looksUp 4 = .ok (.invokevirtual 404, 3) := by decide +kernel
theorem dX12_looksUp_7 : decode cX12_looksUp 7 = .ok (.if_icmp .ge 59, 3) := by decide +kernel
theorem dX12_looksUp_10 : decode cX12_looksUp 10 = .ok (.aload_n 0, 1) := by decide +kernel
theorem dX12_looksUp_11 : decode cX12_looksUp 11 = .ok (.getfield 370, 3) := by decide +kernel
theorem dX12_looksUp_14 : decode cX12_looksUp 14 = .ok (.iconst (-1), 1) := by decide +kernel
theorem dX12_looksUp_15 : decode cX12_looksUp 15 = .ok (.if_icmp .ne 51, 3) := by decide +kernel
theorem dX12_looksUp_18 : decode cX12_looksUp 18 = .ok (.aload_n 0, 1) := by decide +kernel
theorem dX12_looksUp_19 : decode cX12_looksUp 19 = .ok (.getfield 407, 3) := by decide +kernel
theorem dX12_looksUp_22 : decode cX12_looksUp 22 = .ok (.ifCond .ne 44, 3) := by decide +kernel
theorem dX12_looksUp_25 : decode cX12_looksUp 25 = .ok (.aload_n 0, 1) := by decide +kernel
theorem dX12_looksUp_26 : decode cX12_looksUp 26 = .ok (.iload_n 2, 1) := by decide +kernel
theorem dX12_looksUp_27 : decode cX12_looksUp 27 = .ok (.iload_n 1, 1) := by decide +kernel
theorem dX12_looksUp_28 : decode cX12_looksUp 28 = .ok (.invokevirtual 411, 3) := by decide +kernel
theorem dX12_looksUp_31 : decode cX12_looksUp 31 = .ok (.aload_n 0, 1) := by decide +kernel
theorem dX12_looksUp_32 : decode cX12_looksUp 32 = .ok (.getfield 83, 3) := by decide +kernel
theorem dX12_looksUp_35 : decode cX12_looksUp 35 = .ok (.bipush 12, 2) := by decide +kernel
theorem dX12_looksUp_37 : decode cX12_looksUp 37 = .ok (.iconst 3, 1) := by decide +kernel
theorem dX12_looksUp_38 : decode cX12_looksUp 38 = .ok (.iload_n 2, 1) := by decide +kernel
theorem dX12_looksUp_39 : decode cX12_looksUp 39 = .ok (.imul, 1) := by decide +kernel
theorem dX12_looksUp_40 : decode cX12_looksUp 40 = .ok (.iadd, 1) := by decide +kernel
theorem dX12_looksUp_41 : decode cX12_looksUp 41 = .ok (.iconst 2, 1) := by decide +kernel
theorem dX12_looksUp_42 : decode cX12_looksUp 42 = .ok (.iadd, 1) := by decide +kernel
theorem dX12_looksUp_43 : decode cX12_looksUp 43 = .ok (.iaload, 1) := by decide +kernel
theorem dX12_looksUp_44 : decode cX12_looksUp 44 = .ok (.if_icmp .ge 6, 3) := by decide +kernel
theorem dX12_looksUp_47 : decode cX12_looksUp 47 = .ok (.goto 13, 3) := by decide +kernel
theorem dX12_looksUp_50 : decode cX12_looksUp 50 = .ok (.aload_n 0, 1) := by decide +kernel
theorem dX12_looksUp_51 : decode cX12_looksUp 51 = .ok (.iload_n 1, 1) := by decide +kernel
theorem dX12_looksUp_52 : decode cX12_looksUp 52 = .ok (.putfield 370, 3) := by decide +kernel
theorem dX12_looksUp_55 : decode cX12_looksUp 55 = .ok (.aload_n 0, 1) := by decide +kernel
theorem dX12_looksUp_56 : decode cX12_looksUp 56 = .ok (.iload_n 2, 1) := by decide +kernel
theorem dX12_looksUp_57 : decode cX12_looksUp 57 = .ok (.putfield 414, 3) := by decide +kernel
theorem dX12_looksUp_60 : decode cX12_looksUp 60 = .ok (.iinc 2 1, 3) := by decide +kernel
theorem dX12_looksUp_63 : decode cX12_looksUp 63 = .ok (.goto (-61), 3) := by decide +kernel
theorem dX12_looksUp_66 : decode cX12_looksUp 66 = .ok (.return_, 1) := by decide +kernel
theorem dX12_plays_0 : decode cX12_plays 0 = .ok (.aload_n 0, 1) := by decide +kernel
theorem dX12_plays_1 : decode cX12_plays 1 = .ok (.invokevirtual 417, 3) := by decide +kernel
theorem dX12_plays_4 : decode cX12_plays 4 = .ok (.aload_n 0, 1) := by decide +kernel
theorem dX12_plays_5 : decode cX12_plays 5 = .ok (.iconst (-1), 1) := by decide +kernel
theorem dX12_plays_6 : decode cX12_plays 6 = .ok (.putfield 370, 3) := by decide +kernel
theorem dX12_plays_9 : decode cX12_plays 9 = .ok (.aload_n 0, 1) := by decide +kernel
theorem dX12_plays_10 : decode cX12_plays 10 = .ok (.iconst (-1), 1) := by decide +kernel
theorem dX12_plays_11 : decode cX12_plays 11 = .ok (.putfield 414, 3) := by decide +kernel
theorem dX12_plays_14 : decode cX12_plays 14 = .ok (.aload_n 0, 1) := by decide +kernel
theorem dX12_plays_15 : decode cX12_plays 15 = .ok (.iconst 0, 1) := by decide +kernel
theorem dX12_plays_16 : decode cX12_plays 16 = .ok (.putfield 407, 3) := by decide +kernel
theorem dX12_plays_19 : decode cX12_plays 19 = .ok (.iconst 0, 1) := by decide +kernel
theorem dX12_plays_20 : decode cX12_plays 20 = .ok (.istore_n 1, 1) := by decide +kernel
theorem dX12_plays_21 : decode cX12_plays 21 = .ok (.iload_n 1, 1) := by decide +kernel
theorem dX12_plays_22 : decode cX12_plays 22 = .ok (.bipush 9, 2) := by decide +kernel
theorem dX12_plays_24 : decode cX12_plays 24 = .ok (.if_icmp .ge 61, 3) := by decide +kernel
theorem dX12_plays_27 : decode cX12_plays 27 = .ok (.aload_n 0, 1) := by decide +kernel
theorem dX12_plays_28 : decode cX12_plays 28 = .ok (.getfield 104, 3) := by decide +kernel
theorem dX12_plays_31 : decode cX12_plays 31 = .ok (.iload_n 1, 1) := by decide +kernel
theorem dX12_plays_32 : decode cX12_plays 32 = .ok (.iconst (-1), 1) := by decide +kernel
theorem dX12_plays_33 : decode cX12_plays 33 = .ok (.iastore, 1) := by decide +kernel
theorem dX12_plays_34 : decode cX12_plays 34 = .ok (.aload_n 0, 1) := by decide +kernel
theorem dX12_plays_35 : decode cX12_plays 35 = .ok (.getfield 107, 3) := by decide +kernel
theorem dX12_plays_38 : decode cX12_plays 38 = .ok (.iload_n 1, 1) := by decide +kernel
theorem dX12_plays_39 : decode cX12_plays 39 = .ok (.iconst 0, 1) := by decide +kernel
theorem dX12_plays_40 : decode cX12_plays 40 = .ok (.iastore, 1) := by decide +kernel
theorem dX12_plays_41 : decode cX12_plays 41 = .ok (.aload_n 0, 1) := by decide +kernel
theorem dX12_plays_42 : decode cX12_plays 42 = .ok (.getfield 110, 3) := by decide +kernel
theorem dX12_plays_45 : decode cX12_plays 45 = .ok (.iload_n 1, 1) := by decide +kernel
theorem dX12_plays_46 : decode cX12_plays 46 = .ok (.iconst (-1), 1) := by decide +kernel
theorem dX12_plays_47 : decode cX12_plays 47 = .ok (.iastore, 1) := by decide +kernel
theorem dX12_plays_48 : decode cX12_plays 48 = .ok (.aload_n 0, 1) := by decide +kernel
theorem dX12_plays_49 : decode cX12_plays 49 = .ok (.getfield 113, 3) := by decide +kernel
theorem dX12_plays_52 : decode cX12_plays 52 = .ok (.iload_n 1, 1) := by decide +kernel
theorem dX12_plays_53 : decode cX12_plays 53 = .ok (.iconst 0, 1) := by decide +kernel
theorem dX12_plays_54 : decode cX12_plays 54 = .ok (.iastore, 1) := by decide +kernel
theorem dX12_plays_55 : decode cX12_plays 55 = .ok (.aload_n 0, 1) := by decide +kernel
theorem dX12_plays_56 : decode cX12_plays 56 = .ok (.getfield 101, 3) := by decide +kernel
theorem dX12_plays_59 : decode cX12_plays 59 = .ok (.iload_n 1, 1) := by decide +kernel
theorem dX12_plays_60 : decode cX12_plays 60 = .ok (.iload_n 1, 1) := by decide +kernel
theorem dX12_plays_61 : decode cX12_plays 61 = .ok (.aload_n 0, 1) := by decide +kernel
theorem dX12_plays_62 : decode cX12_plays 62 = .ok (.invokevirtual 349, 3) := by decide +kernel
theorem dX12_plays_65 : decode cX12_plays 65 = .ok (.if_icmp .ge 12, 3) := by decide +kernel
theorem dX12_plays_68 : decode cX12_plays 68 = .ok (.aload_n 0, 1) := by decide +kernel
theorem dX12_plays_69 : decode cX12_plays 69 = .ok (.iload_n 1, 1) := by decide +kernel
theorem dX12_plays_70 : decode cX12_plays 70 = .ok (.iconst 0, 1) := by decide +kernel
theorem dX12_plays_71 : decode cX12_plays 71 = .ok (.invokevirtual 373, 3) := by decide +kernel
theorem dX12_plays_74 : decode cX12_plays 74 = .ok (.goto 4, 3) := by decide +kernel
theorem dX12_plays_77 : decode cX12_plays 77 = .ok (.iconst 0, 1) := by decide +kernel
theorem dX12_plays_78 : decode cX12_plays 78 = .ok (.iastore, 1) := by decide +kernel
theorem dX12_plays_79 : decode cX12_plays 79 = .ok (.iinc 1 1, 3) := by decide +kernel
theorem dX12_plays_82 : decode cX12_plays 82 = .ok (.goto (-61), 3) := by decide +kernel
theorem dX12_plays_85 : decode cX12_plays 85 = .ok (.aload_n 0, 1) := by decide +kernel
theorem dX12_plays_86 : decode cX12_plays 86 = .ok (.iconst 0, 1) := by decide +kernel
theorem dX12_plays_87 : decode cX12_plays 87 = .ok (.invokevirtual 420, 3) := by decide +kernel
theorem dX12_plays_90 : decode cX12_plays 90 = .ok (.iconst 1, 1) := by decide +kernel
theorem dX12_plays_91 : decode cX12_plays 91 = .ok (.istore_n 1, 1) := by decide +kernel
theorem dX12_plays_92 : decode cX12_plays 92 = .ok (.iload_n 1, 1) := by decide +kernel
theorem dX12_plays_93 : decode cX12_plays 93 = .ok (.sipush 200, 3) := by decide +kernel
theorem dX12_plays_96 : decode cX12_plays 96 = .ok (.if_icmp .gt 104, 3) := by decide +kernel
theorem dX12_plays_99 : decode cX12_plays 99 = .ok (.iconst 0, 1) := by decide +kernel
theorem dX12_plays_100 : decode cX12_plays 100 = .ok (.istore_n 2, 1) := by decide +kernel
theorem dX12_plays_101 : decode cX12_plays 101 = .ok (.iload_n 2, 1) := by decide +kernel
theorem dX12_plays_102 : decode cX12_plays 102 = .ok (.aload_n 0, 1) := by decide +kernel
theorem dX12_plays_103 : decode cX12_plays 103 = .ok (.invokevirtual 349, 3) := by decide +kernel
theorem dX12_plays_106 : decode cX12_plays 106 = .ok (.if_icmp .ge 23, 3) := by decide +kernel
theorem dX12_plays_109 : decode cX12_plays 109 = .ok (.aload_n 0, 1) := by decide +kernel
theorem dX12_plays_110 : decode cX12_plays 110 = .ok (.iload_n 2, 1) := by decide +kernel
theorem dX12_plays_111 : decode cX12_plays 111 = .ok (.invokevirtual 376, 3) := by decide +kernel
theorem dX12_plays_114 : decode cX12_plays 114 = .ok (.ifCond .eq 9, 3) := by decide +kernel
theorem dX12_plays_117 : decode cX12_plays 117 = .ok (.aload_n 0, 1) := by decide +kernel
theorem dX12_plays_118 : decode cX12_plays 118 = .ok (.iload_n 2, 1) := by decide +kernel
theorem dX12_plays_119 : decode cX12_plays 119 = .ok (.iload_n 1, 1) := by decide +kernel
theorem dX12_plays_120 : decode cX12_plays 120 = .ok (.invokevirtual 423, 3) := by decide +kernel
theorem dX12_plays_123 : decode cX12_plays 123 = .ok (.iinc 2 1, 3) := by decide +kernel
theorem dX12_plays_126 : decode cX12_plays 126 = .ok (.goto (-25), 3) := by decide +kernel
theorem dX12_plays_129 : decode cX12_plays 129 = .ok (.iconst 0, 1) := by decide +kernel
theorem dX12_plays_130 : decode cX12_plays 130 = .ok (.istore_n 2, 1) := by decide +kernel
theorem dX12_plays_131 : decode cX12_plays 131 = .ok (.iload_n 2, 1) := by decide +kernel
theorem dX12_plays_132 : decode cX12_plays 132 = .ok (.aload_n 0, 1) := by decide +kernel
theorem dX12_plays_133 : decode cX12_plays 133 = .ok (.invokevirtual 349, 3) := by decide +kernel
theorem dX12_plays_136 : decode cX12_plays 136 = .ok (.if_icmp .ge 53, 3) := by decide +kernel
theorem dX12_plays_139 : decode cX12_plays 139 = .ok (.aload_n 0, 1) := by decide +kernel
theorem dX12_plays_140 : decode cX12_plays 140 = .ok (.iload_n 2, 1) := by decide +kernel
theorem dX12_plays_141 : decode cX12_plays 141 = .ok (.invokevirtual 376, 3) := by decide +kernel
theorem dX12_plays_144 : decode cX12_plays 144 = .ok (.ifCond .eq 39, 3) := by decide +kernel
theorem dX12_plays_147 : decode cX12_plays 147 = .ok (.aload_n 0, 1) := by decide +kernel
theorem dX12_plays_148 : decode cX12_plays 148 = .ok (.getfield 113, 3) := by decide +kernel
theorem dX12_plays_151 : decode cX12_plays 151 = .ok (.iload_n 2, 1) := by decide +kernel
theorem dX12_plays_152 : decode cX12_plays 152 = .ok (.iaload, 1) := by decide +kernel
theorem dX12_plays_153 : decode cX12_plays 153 = .ok (.ifCond .ne 6, 3) := by decide +kernel
theorem dX12_plays_156 : decode cX12_plays 156 = .ok (.goto 27, 3) := by decide +kernel
theorem dX12_plays_159 : decode cX12_plays 159 = .ok (.aload_n 0, 1) := by decide +kernel
theorem dX12_plays_160 : decode cX12_plays 160 = .ok (.getfield 104, 3) := by decide +kernel
theorem dX12_plays_163 : decode cX12_plays 163 = .ok (.iload_n 2, 1) := by decide +kernel
theorem dX12_plays_164 : decode cX12_plays 164 = .ok (.iload_n 1, 1) := by decide +kernel
theorem dX12_plays_165 : decode cX12_plays 165 = .ok (.iastore, 1) := by decide +kernel
theorem dX12_plays_166 : decode cX12_plays 166 = .ok (.aload_n 0, 1) := by decide +kernel
theorem dX12_plays_167 : decode cX12_plays 167 = .ok (.getfield 107, 3) := by decide +kernel
theorem dX12_plays_170 : decode cX12_plays 170 = .ok (.iload_n 2, 1) := by decide +kernel
theorem dX12_plays_171 : decode cX12_plays 171 = .ok (.aload_n 0, 1) := by decide +kernel
theorem dX12_plays_172 : decode cX12_plays 172 = .ok (.getfield 113, 3) := by decide +kernel
theorem dX12_plays_175 : decode cX12_plays 175 = .ok (.iload_n 2, 1) := by decide +kernel
theorem dX12_plays_176 : decode cX12_plays 176 = .ok (.iaload, 1) := by decide +kernel
theorem dX12_plays_177 : decode cX12_plays 177 = .ok (.iastore, 1) := by decide +kernel
theorem dX12_plays_178 : decode cX12_plays 178 = .ok (.aload_n 0, 1) := by decide +kernel
theorem dX12_plays_179 : decode cX12_plays 179 = .ok (.iconst 1, 1) := by decide +kernel
theorem dX12_plays_180 : decode cX12_plays 180 = .ok (.putfield 407, 3) := by decide +kernel
theorem dX12_plays_183 : decode cX12_plays 183 = .ok (.iinc 2 1, 3) := by decide +kernel
theorem dX12_plays_186 : decode cX12_plays 186 = .ok (.goto (-55), 3) := by decide +kernel
theorem dX12_plays_189 : decode cX12_plays 189 = .ok (.aload_n 0, 1) := by decide +kernel
theorem dX12_plays_190 : decode cX12_plays 190 = .ok (.iload_n 1, 1) := by decide +kernel
theorem dX12_plays_191 : decode cX12_plays 191 = .ok (.invokevirtual 420, 3) := by decide +kernel
theorem dX12_plays_194 : decode cX12_plays 194 = .ok (.iinc 1 1, 3) := by decide +kernel
theorem dX12_plays_197 : decode cX12_plays 197 = .ok (.goto (-105), 3) := by decide +kernel
theorem dX12_plays_200 : decode cX12_plays 200 = .ok (.return_, 1) := by decide +kernel
theorem dX12_openMany_0 : decode cX12_openMany 0 = .ok (.iconst 0, 1) := by decide +kernel
theorem dX12_openMany_1 : decode cX12_openMany 1 = .ok (.istore_n 2, 1) := by decide +kernel
theorem dX12_openMany_2 : decode cX12_openMany 2 = .ok (.iconst 0, 1) := by decide +kernel
theorem dX12_openMany_3 : decode cX12_openMany 3 = .ok (.istore_n 3, 1) := by decide +kernel
theorem dX12_openMany_4 : decode cX12_openMany 4 = .ok (.iload_n 3, 1) := by decide +kernel
theorem dX12_openMany_5 : decode cX12_openMany 5 = .ok (.aload_n 0, 1) := by decide +kernel
theorem dX12_openMany_6 : decode cX12_openMany 6 = .ok (.invokevirtual 349, 3) := by decide +kernel
theorem dX12_openMany_9 : decode cX12_openMany 9 = .ok (.if_icmp .ge 29, 3) := by decide +kernel
theorem dX12_openMany_12 : decode cX12_openMany 12 = .ok (.aload_n 0, 1) := by decide +kernel
theorem dX12_openMany_13 : decode cX12_openMany 13 = .ok (.iload_n 3, 1) := by decide +kernel
theorem dX12_openMany_14 : decode cX12_openMany 14 = .ok (.invokevirtual 376, 3) := by decide +kernel
theorem dX12_openMany_17 : decode cX12_openMany 17 = .ok (.ifCond .eq 15, 3) := by decide +kernel
theorem dX12_openMany_20 : decode cX12_openMany 20 = .ok (.aload_n 0, 1) := by decide +kernel
theorem dX12_openMany_21 : decode cX12_openMany 21 = .ok (.iload_n 3, 1) := by decide +kernel
theorem dX12_openMany_22 : decode cX12_openMany 22 = .ok (.iload_n 1, 1) := by decide +kernel
theorem dX12_openMany_23 : decode cX12_openMany 23 = .ok (.invokevirtual 379, 3) := by decide +kernel
theorem dX12_openMany_26 : decode cX12_openMany 26 = .ok (.ifCond .eq 6, 3) := by decide +kernel
theorem dX12_openMany_29 : decode cX12_openMany 29 = .ok (.iinc 2 1, 3) := by decide +kernel
theorem dX12_openMany_32 : decode cX12_openMany 32 = .ok (.iinc 3 1, 3) := by decide +kernel
theorem dX12_openMany_35 : decode cX12_openMany 35 = .ok (.goto (-31), 3) := by decide +kernel
theorem dX12_openMany_38 : decode cX12_openMany 38 = .ok (.iload_n 2, 1) := by decide +kernel
theorem dX12_openMany_39 : decode cX12_openMany 39 = .ok (.ireturn, 1) := by decide +kernel
theorem dX12_offIn_0 : decode cX12_offIn 0 = .ok (.iconst 0, 1) := by decide +kernel
theorem dX12_offIn_1 : decode cX12_offIn 1 = .ok (.istore_n 1, 1) := by decide +kernel
theorem dX12_offIn_2 : decode cX12_offIn 2 = .ok (.iload_n 1, 1) := by decide +kernel
theorem dX12_offIn_3 : decode cX12_offIn 3 = .ok (.sipush 200, 3) := by decide +kernel
theorem dX12_offIn_6 : decode cX12_offIn 6 = .ok (.if_icmp .gt 26, 3) := by decide +kernel
theorem dX12_offIn_9 : decode cX12_offIn 9 = .ok (.aload_n 0, 1) := by decide +kernel
theorem dX12_offIn_10 : decode cX12_offIn 10 = .ok (.iload_n 1, 1) := by decide +kernel
theorem dX12_offIn_11 : decode cX12_offIn 11 = .ok (.invokevirtual 426, 3) := by decide +kernel
theorem dX12_offIn_14 : decode cX12_offIn 14 = .ok (.aload_n 0, 1) := by decide +kernel
theorem dX12_offIn_15 : decode cX12_offIn 15 = .ok (.getfield 89, 3) := by decide +kernel
theorem dX12_offIn_18 : decode cX12_offIn 18 = .ok (.bipush 7, 2) := by decide +kernel
theorem dX12_offIn_20 : decode cX12_offIn 20 = .ok (.iaload, 1) := by decide +kernel
theorem dX12_offIn_21 : decode cX12_offIn 21 = .ok (.if_icmp .lt 5, 3) := by decide +kernel
theorem dX12_offIn_24 : decode cX12_offIn 24 = .ok (.iload_n 1, 1) := by decide +kernel
theorem dX12_offIn_25 : decode cX12_offIn 25 = .ok (.ireturn, 1) := by decide +kernel
theorem dX12_offIn_26 : decode cX12_offIn 26 = .ok (.iinc 1 1, 3) := by decide +kernel
theorem dX12_offIn_29 : decode cX12_offIn 29 = .ok (.goto (-27), 3) := by decide +kernel
theorem dX12_offIn_32 : decode cX12_offIn 32 = .ok (.iconst (-1), 1) := by decide +kernel
theorem dX12_offIn_33 : decode cX12_offIn 33 = .ok (.ireturn, 1) := by decide +kernel
theorem dX12_wallMany_0 : decode cX12_wallMany 0 = .ok (.iconst 0, 1) := by decide +kernel
theorem dX12_wallMany_1 : decode cX12_wallMany 1 = .ok (.istore_n 1, 1) := by decide +kernel
theorem dX12_wallMany_2 : decode cX12_wallMany 2 = .ok (.iconst 0, 1) := by decide +kernel
theorem dX12_wallMany_3 : decode cX12_wallMany 3 = .ok (.istore_n 2, 1) := by decide +kernel
theorem dX12_wallMany_4 : decode cX12_wallMany 4 = .ok (.iload_n 2, 1) := by decide +kernel
theorem dX12_wallMany_5 : decode cX12_wallMany 5 = .ok (.aload_n 0, 1) := by decide +kernel
theorem dX12_wallMany_6 : decode cX12_wallMany 6 = .ok (.invokevirtual 346, 3) := by decide +kernel
theorem dX12_wallMany_9 : decode cX12_wallMany 9 = .ok (.if_icmp .ge 20, 3) := by decide +kernel
theorem dX12_wallMany_12 : decode cX12_wallMany 12 = .ok (.aload_n 0, 1) := by decide +kernel
theorem dX12_wallMany_13 : decode cX12_wallMany 13 = .ok (.iload_n 2, 1) := by decide +kernel
theorem dX12_wallMany_14 : decode cX12_wallMany 14 = .ok (.invokevirtual 355, 3) := by decide +kernel
theorem dX12_wallMany_17 : decode cX12_wallMany 17 = .ok (.ifCond .eq 6, 3) := by decide +kernel
theorem dX12_wallMany_20 : decode cX12_wallMany 20 = .ok (.iinc 1 1, 3) := by decide +kernel
theorem dX12_wallMany_23 : decode cX12_wallMany 23 = .ok (.iinc 2 1, 3) := by decide +kernel
theorem dX12_wallMany_26 : decode cX12_wallMany 26 = .ok (.goto (-22), 3) := by decide +kernel
theorem dX12_wallMany_29 : decode cX12_wallMany 29 = .ok (.iload_n 1, 1) := by decide +kernel
theorem dX12_wallMany_30 : decode cX12_wallMany 30 = .ok (.ireturn, 1) := by decide +kernel
theorem dX12_closedMany_0 : decode cX12_closedMany 0 = .ok (.iconst 0, 1) := by decide +kernel
theorem dX12_closedMany_1 : decode cX12_closedMany 1 = .ok (.istore_n 1, 1) := by decide +kernel
theorem dX12_closedMany_2 : decode cX12_closedMany 2 = .ok (.iconst 0, 1) := by decide +kernel
theorem dX12_closedMany_3 : decode cX12_closedMany 3 = .ok (.istore_n 2, 1) := by decide +kernel
theorem dX12_closedMany_4 : decode cX12_closedMany 4 = .ok (.iload_n 2, 1) := by decide +kernel
theorem dX12_closedMany_5 : decode cX12_closedMany 5 = .ok (.aload_n 0, 1) := by decide +kernel
theorem dX12_closedMany_6 : decode cX12_closedMany 6 = .ok (.invokevirtual 361, 3) := by decide +kernel
theorem dX12_closedMany_9 : decode cX12_closedMany 9 = .ok (.if_icmp .ge 18, 3) := by decide +kernel
theorem dX12_closedMany_12 : decode cX12_closedMany 12 = .ok (.iload_n 1, 1) := by decide +kernel
theorem dX12_closedMany_13 : decode cX12_closedMany 13 = .ok (.aload_n 0, 1) := by decide +kernel
theorem dX12_closedMany_14 : decode cX12_closedMany 14 = .ok (.getfield 92, 3) := by decide +kernel
theorem dX12_closedMany_17 : decode cX12_closedMany 17 = .ok (.iload_n 2, 1) := by decide +kernel
theorem dX12_closedMany_18 : decode cX12_closedMany 18 = .ok (.iaload, 1) := by decide +kernel
theorem dX12_closedMany_19 : decode cX12_closedMany 19 = .ok (.iadd, 1) := by decide +kernel
theorem dX12_closedMany_20 : decode cX12_closedMany 20 = .ok (.istore_n 1, 1) := by decide +kernel
theorem dX12_closedMany_21 : decode cX12_closedMany 21 = .ok (.iinc 2 1, 3) := by decide +kernel
theorem dX12_closedMany_24 : decode cX12_closedMany 24 = .ok (.goto (-20), 3) := by decide +kernel
theorem dX12_closedMany_27 : decode cX12_closedMany 27 = .ok (.iload_n 1, 1) := by decide +kernel
theorem dX12_closedMany_28 : decode cX12_closedMany 28 = .ok (.ireturn, 1) := by decide +kernel
theorem dX12_hall_0 : decode cX12_hall 0 = .ok (.iload_n 1, 1) := by decide +kernel
theorem dX12_hall_1 : decode cX12_hall 1 = .ok (.tableswitch 124 0 12 #[67, 72, 77, 82, 87, 92, 97, 102, 102, 102, 102, 114, 119], 67) := by decide +kernel
theorem dX12_hall_68 : decode cX12_hall 68 = .ok (.aload_n 0, 1) := by decide +kernel
theorem dX12_hall_69 : decode cX12_hall 69 = .ok (.getfield 334, 3) := by decide +kernel
theorem dX12_hall_72 : decode cX12_hall 72 = .ok (.ireturn, 1) := by decide +kernel
theorem dX12_hall_73 : decode cX12_hall 73 = .ok (.aload_n 0, 1) := by decide +kernel
theorem dX12_hall_74 : decode cX12_hall 74 = .ok (.getfield 337, 3) := by decide +kernel
theorem dX12_hall_77 : decode cX12_hall 77 = .ok (.ireturn, 1) := by decide +kernel
theorem dX12_hall_78 : decode cX12_hall 78 = .ok (.aload_n 0, 1) := by decide +kernel
theorem dX12_hall_79 : decode cX12_hall 79 = .ok (.invokevirtual 429, 3) := by decide +kernel
theorem dX12_hall_82 : decode cX12_hall 82 = .ok (.ireturn, 1) := by decide +kernel
theorem dX12_hall_83 : decode cX12_hall 83 = .ok (.aload_n 0, 1) := by decide +kernel
theorem dX12_hall_84 : decode cX12_hall 84 = .ok (.invokevirtual 361, 3) := by decide +kernel
theorem dX12_hall_87 : decode cX12_hall 87 = .ok (.ireturn, 1) := by decide +kernel
theorem dX12_hall_88 : decode cX12_hall 88 = .ok (.aload_n 0, 1) := by decide +kernel
theorem dX12_hall_89 : decode cX12_hall 89 = .ok (.invokevirtual 432, 3) := by decide +kernel
theorem dX12_hall_92 : decode cX12_hall 92 = .ok (.ireturn, 1) := by decide +kernel
theorem dX12_hall_93 : decode cX12_hall 93 = .ok (.aload_n 0, 1) := by decide +kernel
theorem dX12_hall_94 : decode cX12_hall 94 = .ok (.invokevirtual 349, 3) := by decide +kernel
theorem dX12_hall_97 : decode cX12_hall 97 = .ok (.ireturn, 1) := by decide +kernel
theorem dX12_hall_98 : decode cX12_hall 98 = .ok (.aload_n 0, 1) := by decide +kernel
theorem dX12_hall_99 : decode cX12_hall 99 = .ok (.invokevirtual 404, 3) := by decide +kernel
theorem dX12_hall_102 : decode cX12_hall 102 = .ok (.ireturn, 1) := by decide +kernel
theorem dX12_hall_103 : decode cX12_hall 103 = .ok (.aload_n 0, 1) := by decide +kernel
theorem dX12_hall_104 : decode cX12_hall 104 = .ok (.getfield 89, 3) := by decide +kernel
theorem dX12_hall_107 : decode cX12_hall 107 = .ok (.iconst 4, 1) := by decide +kernel
theorem dX12_hall_108 : decode cX12_hall 108 = .ok (.iload_n 1, 1) := by decide +kernel
theorem dX12_hall_109 : decode cX12_hall 109 = .ok (.iadd, 1) := by decide +kernel
theorem dX12_hall_110 : decode cX12_hall 110 = .ok (.bipush 7, 2) := by decide +kernel
theorem dX12_hall_112 : decode cX12_hall 112 = .ok (.isub, 1) := by decide +kernel
theorem dX12_hall_113 : decode cX12_hall 113 = .ok (.iaload, 1) := by decide +kernel
theorem dX12_hall_114 : decode cX12_hall 114 = .ok (.ireturn, 1) := by decide +kernel
theorem dX12_hall_115 : decode cX12_hall 115 = .ok (.aload_n 0, 1) := by decide +kernel
theorem dX12_hall_116 : decode cX12_hall 116 = .ok (.getfield 340, 3) := by decide +kernel
theorem dX12_hall_119 : decode cX12_hall 119 = .ok (.ireturn, 1) := by decide +kernel
theorem dX12_hall_120 : decode cX12_hall 120 = .ok (.aload_n 0, 1) := by decide +kernel
theorem dX12_hall_121 : decode cX12_hall 121 = .ok (.getfield 343, 3) := by decide +kernel
theorem dX12_hall_124 : decode cX12_hall 124 = .ok (.ireturn, 1) := by decide +kernel
theorem dX12_hall_125 : decode cX12_hall 125 = .ok (.iconst (-1), 1) := by decide +kernel
theorem dX12_hall_126 : decode cX12_hall 126 = .ok (.ireturn, 1) := by decide +kernel
theorem dX12_letter_0 : decode cX12_letter 0 = .ok (.iload_n 1, 1) := by decide +kernel
theorem dX12_letter_1 : decode cX12_letter 1 = .ok (.i2l, 1) := by decide +kernel
theorem dX12_letter_2 : decode cX12_letter 2 = .ok (.lconst 0, 1) := by decide +kernel
theorem dX12_letter_3 : decode cX12_letter 3 = .ok (.lconst 1, 1) := by decide +kernel
theorem dX12_letter_4 : decode cX12_letter 4 = .ok (.invokestatic 244, 3) := by decide +kernel
theorem dX12_letter_7 : decode cX12_letter 7 = .ok (.ifCond .eq 35, 3) := by decide +kernel
theorem dX12_letter_10 : decode cX12_letter 10 = .ok (.iload_n 2, 1) := by decide +kernel
theorem dX12_letter_11 : decode cX12_letter 11 = .ok (.i2l, 1) := by decide +kernel
theorem dX12_letter_12 : decode cX12_letter 12 = .ok (.lconst 0, 1) := by decide +kernel
theorem dX12_letter_13 : decode cX12_letter 13 = .ok (.aload_n 0, 1) := by decide +kernel
theorem dX12_letter_14 : decode cX12_letter 14 = .ok (.getfield 69, 3) := by decide +kernel
theorem dX12_letter_17 : decode cX12_letter 17 = .ok (.iconst 3, 1) := by decide +kernel
theorem dX12_letter_18 : decode cX12_letter 18 = .ok (.iload_n 1, 1) := by decide +kernel
theorem dX12_letter_19 : decode cX12_letter 19 = .ok (.iadd, 1) := by decide +kernel
theorem dX12_letter_20 : decode cX12_letter 20 = .ok (.iaload, 1) := by decide +kernel
theorem dX12_letter_21 : decode cX12_letter 21 = .ok (.iconst 1, 1) := by decide +kernel
theorem dX12_letter_22 : decode cX12_letter 22 = .ok (.isub, 1) := by decide +kernel
theorem dX12_letter_23 : decode cX12_letter 23 = .ok (.i2l, 1) := by decide +kernel
theorem dX12_letter_24 : decode cX12_letter 24 = .ok (.invokestatic 244, 3) := by decide +kernel
theorem dX12_letter_27 : decode cX12_letter 27 = .ok (.ifCond .eq 15, 3) := by decide +kernel
theorem dX12_letter_30 : decode cX12_letter 30 = .ok (.iload_n 3, 1) := by decide +kernel
theorem dX12_letter_31 : decode cX12_letter 31 = .ok (.i2l, 1) := by decide +kernel
theorem dX12_letter_32 : decode cX12_letter 32 = .ok (.lconst 0, 1) := by decide +kernel
theorem dX12_letter_33 : decode cX12_letter 33 = .ok (.ldc2_w 435, 3) := by decide +kernel
theorem dX12_letter_36 : decode cX12_letter 36 = .ok (.invokestatic 244, 3) := by decide +kernel
theorem dX12_letter_39 : decode cX12_letter 39 = .ok (.ifCond .ne 5, 3) := by decide +kernel
theorem dX12_letter_42 : decode cX12_letter 42 = .ok (.iconst (-1), 1) := by decide +kernel
theorem dX12_letter_43 : decode cX12_letter 43 = .ok (.ireturn, 1) := by decide +kernel
theorem dX12_letter_44 : decode cX12_letter 44 = .ok (.aload_n 0, 1) := by decide +kernel
theorem dX12_letter_45 : decode cX12_letter 45 = .ok (.getfield 72, 3) := by decide +kernel
theorem dX12_letter_48 : decode cX12_letter 48 = .ok (.bipush 20, 2) := by decide +kernel
theorem dX12_letter_50 : decode cX12_letter 50 = .ok (.bipush 10, 2) := by decide +kernel
theorem dX12_letter_52 : decode cX12_letter 52 = .ok (.iload_n 1, 1) := by decide +kernel
theorem dX12_letter_53 : decode cX12_letter 53 = .ok (.imul, 1) := by decide +kernel
theorem dX12_letter_54 : decode cX12_letter 54 = .ok (.iadd, 1) := by decide +kernel
theorem dX12_letter_55 : decode cX12_letter 55 = .ok (.iload_n 2, 1) := by decide +kernel
theorem dX12_letter_56 : decode cX12_letter 56 = .ok (.iadd, 1) := by decide +kernel
theorem dX12_letter_57 : decode cX12_letter 57 = .ok (.laload, 1) := by decide +kernel
theorem dX12_letter_58 : decode cX12_letter 58 = .ok (.lstore 4, 2) := by decide +kernel
theorem dX12_letter_60 : decode cX12_letter 60 = .ok (.iconst 0, 1) := by decide +kernel
theorem dX12_letter_61 : decode cX12_letter 61 = .ok (.istore 6, 2) := by decide +kernel
theorem dX12_letter_63 : decode cX12_letter 63 = .ok (.lload 4, 2) := by decide +kernel
theorem dX12_letter_65 : decode cX12_letter 65 = .ok (.lstore 7, 2) := by decide +kernel
theorem dX12_letter_67 : decode cX12_letter 67 = .ok (.lload 7, 2) := by decide +kernel
theorem dX12_letter_69 : decode cX12_letter 69 = .ok (.lconst 0, 1) := by decide +kernel
theorem dX12_letter_70 : decode cX12_letter 70 = .ok (.lcmp, 1) := by decide +kernel
theorem dX12_letter_71 : decode cX12_letter 71 = .ok (.ifCond .le 17, 3) := by decide +kernel
theorem dX12_letter_74 : decode cX12_letter 74 = .ok (.iinc 6 1, 3) := by decide +kernel
theorem dX12_letter_77 : decode cX12_letter 77 = .ok (.lload 7, 2) := by decide +kernel
theorem dX12_letter_79 : decode cX12_letter 79 = .ok (.ldc2_w 259, 3) := by decide +kernel
theorem dX12_letter_82 : decode cX12_letter 82 = .ok (.ldiv, 1) := by decide +kernel
theorem dX12_letter_83 : decode cX12_letter 83 = .ok (.lstore 7, 2) := by decide +kernel
theorem dX12_letter_85 : decode cX12_letter 85 = .ok (.goto (-18), 3) := by decide +kernel
theorem dX12_letter_88 : decode cX12_letter 88 = .ok (.iload_n 3, 1) := by decide +kernel
theorem dX12_letter_89 : decode cX12_letter 89 = .ok (.iload 6, 2) := by decide +kernel
theorem dX12_letter_91 : decode cX12_letter 91 = .ok (.if_icmp .lt 5, 3) := by decide +kernel
theorem dX12_letter_94 : decode cX12_letter 94 = .ok (.iconst 0, 1) := by decide +kernel
theorem dX12_letter_95 : decode cX12_letter 95 = .ok (.ireturn, 1) := by decide +kernel
theorem dX12_letter_96 : decode cX12_letter 96 = .ok (.iload 6, 2) := by decide +kernel
theorem dX12_letter_98 : decode cX12_letter 98 = .ok (.iconst 1, 1) := by decide +kernel
theorem dX12_letter_99 : decode cX12_letter 99 = .ok (.isub, 1) := by decide +kernel
theorem dX12_letter_100 : decode cX12_letter 100 = .ok (.istore 7, 2) := by decide +kernel
theorem dX12_letter_102 : decode cX12_letter 102 = .ok (.iload 7, 2) := by decide +kernel
theorem dX12_letter_104 : decode cX12_letter 104 = .ok (.iload_n 3, 1) := by decide +kernel
theorem dX12_letter_105 : decode cX12_letter 105 = .ok (.if_icmp .le 17, 3) := by decide +kernel
theorem dX12_letter_108 : decode cX12_letter 108 = .ok (.lload 4, 2) := by decide +kernel
theorem dX12_letter_110 : decode cX12_letter 110 = .ok (.ldc2_w 259, 3) := by decide +kernel
theorem dX12_letter_113 : decode cX12_letter 113 = .ok (.ldiv, 1) := by decide +kernel
theorem dX12_letter_114 : decode cX12_letter 114 = .ok (.lstore 4, 2) := by decide +kernel
theorem dX12_letter_116 : decode cX12_letter 116 = .ok (.iinc 7 (-1), 3) := by decide +kernel
theorem dX12_letter_119 : decode cX12_letter 119 = .ok (.goto (-17), 3) := by decide +kernel
theorem dX12_letter_122 : decode cX12_letter 122 = .ok (.lload 4, 2) := by decide +kernel
theorem dX12_letter_124 : decode cX12_letter 124 = .ok (.ldc2_w 259, 3) := by decide +kernel
theorem dX12_letter_127 : decode cX12_letter 127 = .ok (.lrem, 1) := by decide +kernel
theorem dX12_letter_128 : decode cX12_letter 128 = .ok (.l2i, 1) := by decide +kernel
theorem dX12_letter_129 : decode cX12_letter 129 = .ok (.ireturn, 1) := by decide +kernel
theorem dX12_person_0 : decode cX12_person 0 = .ok (.aload_n 0, 1) := by decide +kernel
theorem dX12_person_1 : decode cX12_person 1 = .ok (.iload_n 1, 1) := by decide +kernel
theorem dX12_person_2 : decode cX12_person 2 = .ok (.invokevirtual 352, 3) := by decide +kernel
theorem dX12_person_5 : decode cX12_person 5 = .ok (.ifCond .eq 15, 3) := by decide +kernel
theorem dX12_person_8 : decode cX12_person 8 = .ok (.iload_n 2, 1) := by decide +kernel
theorem dX12_person_9 : decode cX12_person 9 = .ok (.i2l, 1) := by decide +kernel
theorem dX12_person_10 : decode cX12_person 10 = .ok (.lconst 0, 1) := by decide +kernel
theorem dX12_person_11 : decode cX12_person 11 = .ok (.ldc2_w 435, 3) := by decide +kernel
theorem dX12_person_14 : decode cX12_person 14 = .ok (.invokestatic 244, 3) := by decide +kernel
theorem dX12_person_17 : decode cX12_person 17 = .ok (.ifCond .ne 5, 3) := by decide +kernel
theorem dX12_person_20 : decode cX12_person 20 = .ok (.iconst (-1), 1) := by decide +kernel
theorem dX12_person_21 : decode cX12_person 21 = .ok (.ireturn, 1) := by decide +kernel
theorem dX12_person_22 : decode cX12_person 22 = .ok (.iload_n 2, 1) := by decide +kernel
theorem dX12_person_23 : decode cX12_person 23 = .ok (.iconst 1, 1) := by decide +kernel
theorem dX12_person_24 : decode cX12_person 24 = .ok (.if_icmp .ne 15, 3) := by decide +kernel
theorem dX12_person_27 : decode cX12_person 27 = .ok (.bipush 60, 2) := by decide +kernel
theorem dX12_person_29 : decode cX12_person 29 = .ok (.aload_n 0, 1) := by decide +kernel
theorem dX12_person_30 : decode cX12_person 30 = .ok (.iload_n 1, 1) := by decide +kernel
theorem dX12_person_31 : decode cX12_person 31 = .ok (.iconst 1, 1) := by decide +kernel
theorem dX12_person_32 : decode cX12_person 32 = .ok (.invokevirtual 373, 3) := by decide +kernel
theorem dX12_person_35 : decode cX12_person 35 = .ok (.iadd, 1) := by decide +kernel
theorem dX12_person_36 : decode cX12_person 36 = .ok (.goto 9, 3) := by decide +kernel
theorem dX12_person_39 : decode cX12_person 39 = .ok (.aload_n 0, 1) := by decide +kernel
theorem dX12_person_40 : decode cX12_person 40 = .ok (.iload_n 1, 1) := by decide +kernel
theorem dX12_person_41 : decode cX12_person 41 = .ok (.iload_n 2, 1) := by decide +kernel
theorem dX12_person_42 : decode cX12_person 42 = .ok (.invokevirtual 373, 3) := by decide +kernel
theorem dX12_person_45 : decode cX12_person 45 = .ok (.ireturn, 1) := by decide +kernel
theorem dX12_guard_0 : decode cX12_guard 0 = .ok (.iload_n 1, 1) := by decide +kernel
theorem dX12_guard_1 : decode cX12_guard 1 = .ok (.i2l, 1) := by decide +kernel
theorem dX12_guard_2 : decode cX12_guard 2 = .ok (.lconst 0, 1) := by decide +kernel
theorem dX12_guard_3 : decode cX12_guard 3 = .ok (.aload_n 0, 1) := by decide +kernel
theorem dX12_guard_4 : decode cX12_guard 4 = .ok (.invokevirtual 404, 3) := by decide +kernel
theorem dX12_guard_7 : decode cX12_guard 7 = .ok (.iconst 1, 1) := by decide +kernel
theorem dX12_guard_8 : decode cX12_guard 8 = .ok (.isub, 1) := by decide +kernel
theorem dX12_guard_9 : decode cX12_guard 9 = .ok (.i2l, 1) := by decide +kernel
theorem dX12_guard_10 : decode cX12_guard 10 = .ok (.invokestatic 244, 3) := by decide +kernel
theorem dX12_guard_13 : decode cX12_guard 13 = .ok (.ifCond .eq 31, 3) := by decide +kernel
theorem dX12_guard_16 : decode cX12_guard 16 = .ok (.iload_n 2, 1) := by decide +kernel
theorem dX12_guard_17 : decode cX12_guard 17 = .ok (.i2l, 1) := by decide +kernel
theorem dX12_guard_18 : decode cX12_guard 18 = .ok (.lconst 0, 1) := by decide +kernel
theorem dX12_guard_19 : decode cX12_guard 19 = .ok (.ldc2_w 437, 3) := by decide +kernel
theorem dX12_guard_22 : decode cX12_guard 22 = .ok (.invokestatic 244, 3) := by decide +kernel
theorem dX12_guard_25 : decode cX12_guard 25 = .ok (.ifCond .eq 19, 3) := by decide +kernel
theorem dX12_guard_28 : decode cX12_guard 28 = .ok (.aload_n 0, 1) := by decide +kernel
theorem dX12_guard_29 : decode cX12_guard 29 = .ok (.getfield 83, 3) := by decide +kernel
theorem dX12_guard_32 : decode cX12_guard 32 = .ok (.bipush 12, 2) := by decide +kernel
theorem dX12_guard_34 : decode cX12_guard 34 = .ok (.iconst 3, 1) := by decide +kernel
theorem dX12_guard_35 : decode cX12_guard 35 = .ok (.iload_n 1, 1) := by decide +kernel
theorem dX12_guard_36 : decode cX12_guard 36 = .ok (.imul, 1) := by decide +kernel
theorem dX12_guard_37 : decode cX12_guard 37 = .ok (.iadd, 1) := by decide +kernel
theorem dX12_guard_38 : decode cX12_guard 38 = .ok (.iload_n 2, 1) := by decide +kernel
theorem dX12_guard_39 : decode cX12_guard 39 = .ok (.iadd, 1) := by decide +kernel
theorem dX12_guard_40 : decode cX12_guard 40 = .ok (.iaload, 1) := by decide +kernel
theorem dX12_guard_41 : decode cX12_guard 41 = .ok (.goto 4, 3) := by decide +kernel
theorem dX12_guard_44 : decode cX12_guard 44 = .ok (.iconst (-1), 1) := by decide +kernel
theorem dX12_guard_45 : decode cX12_guard 45 = .ok (.ireturn, 1) := by decide +kernel
theorem dX12_outBy_0 : decode cX12_outBy 0 = .ok (.iconst 0, 1) := by decide +kernel
theorem dX12_outBy_1 : decode cX12_outBy 1 = .ok (.istore_n 3, 1) := by decide +kernel
theorem dX12_outBy_2 : decode cX12_outBy 2 = .ok (.iconst (-1), 1) := by decide +kernel
theorem dX12_outBy_3 : decode cX12_outBy 3 = .ok (.istore 4, 2) := by decide +kernel
theorem dX12_outBy_5 : decode cX12_outBy 5 = .ok (.iconst 0, 1) := by decide +kernel
theorem dX12_outBy_6 : decode cX12_outBy 6 = .ok (.istore 5, 2) := by decide +kernel
theorem dX12_outBy_8 : decode cX12_outBy 8 = .ok (.iload 5, 2) := by decide +kernel
theorem dX12_outBy_10 : decode cX12_outBy 10 = .ok (.aload_n 0, 1) := by decide +kernel
theorem dX12_outBy_11 : decode cX12_outBy 11 = .ok (.invokevirtual 349, 3) := by decide +kernel
theorem dX12_outBy_14 : decode cX12_outBy 14 = .ok (.if_icmp .ge 81, 3) := by decide +kernel
theorem dX12_outBy_17 : decode cX12_outBy 17 = .ok (.aload_n 0, 1) := by decide +kernel
theorem dX12_outBy_18 : decode cX12_outBy 18 = .ok (.iload 5, 2) := by decide +kernel
theorem dX12_outBy_20 : decode cX12_outBy 20 = .ok (.invokevirtual 376, 3) := by decide +kernel
theorem dX12_outBy_23 : decode cX12_outBy 23 = .ok (.ifCond .eq 66, 3) := by decide +kernel
theorem dX12_outBy_26 : decode cX12_outBy 26 = .ok (.aload_n 0, 1) := by decide +kernel
theorem dX12_outBy_27 : decode cX12_outBy 27 = .ok (.getfield 110, 3) := by decide +kernel
theorem dX12_outBy_30 : decode cX12_outBy 30 = .ok (.iload 5, 2) := by decide +kernel
theorem dX12_outBy_32 : decode cX12_outBy 32 = .ok (.iaload, 1) := by decide +kernel
theorem dX12_outBy_33 : decode cX12_outBy 33 = .ok (.iconst (-1), 1) := by decide +kernel
theorem dX12_outBy_34 : decode cX12_outBy 34 = .ok (.if_icmp .eq 55, 3) := by decide +kernel
theorem dX12_outBy_37 : decode cX12_outBy 37 = .ok (.aload_n 0, 1) := by decide +kernel
theorem dX12_outBy_38 : decode cX12_outBy 38 = .ok (.iload 5, 2) := by decide +kernel
theorem dX12_outBy_40 : decode cX12_outBy 40 = .ok (.aload_n 0, 1) := by decide +kernel
theorem dX12_outBy_41 : decode cX12_outBy 41 = .ok (.getfield 110, 3) := by decide +kernel
theorem dX12_outBy_44 : decode cX12_outBy 44 = .ok (.iload 5, 2) := by decide +kernel
theorem dX12_outBy_46 : decode cX12_outBy 46 = .ok (.iaload, 1) := by decide +kernel
theorem dX12_outBy_47 : decode cX12_outBy 47 = .ok (.invokevirtual 383, 3) := by decide +kernel
theorem dX12_outBy_50 : decode cX12_outBy 50 = .ok (.aload_n 0, 1) := by decide +kernel
theorem dX12_outBy_51 : decode cX12_outBy 51 = .ok (.getfield 86, 3) := by decide +kernel
theorem dX12_outBy_54 : decode cX12_outBy 54 = .ok (.bipush 6, 2) := by decide +kernel
theorem dX12_outBy_56 : decode cX12_outBy 56 = .ok (.iload_n 1, 1) := by decide +kernel
theorem dX12_outBy_57 : decode cX12_outBy 57 = .ok (.iadd, 1) := by decide +kernel
theorem dX12_outBy_58 : decode cX12_outBy 58 = .ok (.iaload, 1) := by decide +kernel
theorem dX12_outBy_59 : decode cX12_outBy 59 = .ok (.if_icmp .eq 6, 3) := by decide +kernel
theorem dX12_outBy_62 : decode cX12_outBy 62 = .ok (.goto 27, 3) := by decide +kernel
theorem dX12_outBy_65 : decode cX12_outBy 65 = .ok (.iinc 3 1, 3) := by decide +kernel
theorem dX12_outBy_68 : decode cX12_outBy 68 = .ok (.aload_n 0, 1) := by decide +kernel
theorem dX12_outBy_69 : decode cX12_outBy 69 = .ok (.getfield 110, 3) := by decide +kernel
theorem dX12_outBy_72 : decode cX12_outBy 72 = .ok (.iload 5, 2) := by decide +kernel
theorem dX12_outBy_74 : decode cX12_outBy 74 = .ok (.iaload, 1) := by decide +kernel
theorem dX12_outBy_75 : decode cX12_outBy 75 = .ok (.iload 4, 2) := by decide +kernel
theorem dX12_outBy_77 : decode cX12_outBy 77 = .ok (.if_icmp .le 12, 3) := by decide +kernel
theorem dX12_outBy_80 : decode cX12_outBy 80 = .ok (.aload_n 0, 1) := by decide +kernel
theorem dX12_outBy_81 : decode cX12_outBy 81 = .ok (.getfield 110, 3) := by decide +kernel
theorem dX12_outBy_84 : decode cX12_outBy 84 = .ok (.iload 5, 2) := by decide +kernel
theorem dX12_outBy_86 : decode cX12_outBy 86 = .ok (.iaload, 1) := by decide +kernel
theorem dX12_outBy_87 : decode cX12_outBy 87 = .ok (.istore 4, 2) := by decide +kernel
theorem dX12_outBy_89 : decode cX12_outBy 89 = .ok (.iinc 5 1, 3) := by decide +kernel
theorem dX12_outBy_92 : decode cX12_outBy 92 = .ok (.goto (-84), 3) := by decide +kernel
theorem dX12_outBy_95 : decode cX12_outBy 95 = .ok (.iload_n 2, 1) := by decide +kernel
theorem dX12_outBy_96 : decode cX12_outBy 96 = .ok (.ifCond .eq 8, 3) := by decide +kernel
theorem dX12_outBy_99 : decode cX12_outBy 99 = .ok (.iload 4, 2) := by decide +kernel
theorem dX12_outBy_101 : decode cX12_outBy 101 = .ok (.goto 4, 3) := by decide +kernel
theorem dX12_outBy_104 : decode cX12_outBy 104 = .ok (.iload_n 3, 1) := by decide +kernel
theorem dX12_outBy_105 : decode cX12_outBy 105 = .ok (.ireturn, 1) := by decide +kernel
theorem dX12_door_0 : decode cX12_door 0 = .ok (.iload_n 1, 1) := by decide +kernel
theorem dX12_door_1 : decode cX12_door 1 = .ok (.i2l, 1) := by decide +kernel
theorem dX12_door_2 : decode cX12_door 2 = .ok (.lconst 0, 1) := by decide +kernel
theorem dX12_door_3 : decode cX12_door 3 = .ok (.aload_n 0, 1) := by decide +kernel
theorem dX12_door_4 : decode cX12_door 4 = .ok (.invokevirtual 361, 3) := by decide +kernel
theorem dX12_door_7 : decode cX12_door 7 = .ok (.iconst 1, 1) := by decide +kernel
theorem dX12_door_8 : decode cX12_door 8 = .ok (.isub, 1) := by decide +kernel
theorem dX12_door_9 : decode cX12_door 9 = .ok (.i2l, 1) := by decide +kernel
theorem dX12_door_10 : decode cX12_door 10 = .ok (.invokestatic 244, 3) := by decide +kernel
theorem dX12_door_13 : decode cX12_door 13 = .ok (.ifCond .eq 15, 3) := by decide +kernel
theorem dX12_door_16 : decode cX12_door 16 = .ok (.iload_n 2, 1) := by decide +kernel
theorem dX12_door_17 : decode cX12_door 17 = .ok (.i2l, 1) := by decide +kernel
theorem dX12_door_18 : decode cX12_door 18 = .ok (.lconst 0, 1) := by decide +kernel
theorem dX12_door_19 : decode cX12_door 19 = .ok (.ldc2_w 439, 3) := by decide +kernel
theorem dX12_door_22 : decode cX12_door 22 = .ok (.invokestatic 244, 3) := by decide +kernel
theorem dX12_door_25 : decode cX12_door 25 = .ok (.ifCond .ne 5, 3) := by decide +kernel
theorem dX12_door_28 : decode cX12_door 28 = .ok (.iconst (-1), 1) := by decide +kernel
theorem dX12_door_29 : decode cX12_door 29 = .ok (.ireturn, 1) := by decide +kernel
theorem dX12_door_30 : decode cX12_door 30 = .ok (.aload_n 0, 1) := by decide +kernel
theorem dX12_door_31 : decode cX12_door 31 = .ok (.invokevirtual 441, 3) := by decide +kernel
theorem dX12_door_34 : decode cX12_door 34 = .ok (.iload_n 2, 1) := by decide +kernel
theorem dX12_door_35 : decode cX12_door 35 = .ok (.ifCond .ne 15, 3) := by decide +kernel
theorem dX12_door_38 : decode cX12_door 38 = .ok (.aload_n 0, 1) := by decide +kernel
theorem dX12_door_39 : decode cX12_door 39 = .ok (.getfield 86, 3) := by decide +kernel
theorem dX12_door_42 : decode cX12_door 42 = .ok (.bipush 6, 2) := by decide +kernel
theorem dX12_door_44 : decode cX12_door 44 = .ok (.iload_n 1, 1) := by decide +kernel
theorem dX12_door_45 : decode cX12_door 45 = .ok (.iadd, 1) := by decide +kernel
theorem dX12_door_46 : decode cX12_door 46 = .ok (.iaload, 1) := by decide +kernel
theorem dX12_door_47 : decode cX12_door 47 = .ok (.goto 32, 3) := by decide +kernel
theorem dX12_door_50 : decode cX12_door 50 = .ok (.iload_n 2, 1) := by decide +kernel
theorem dX12_door_51 : decode cX12_door 51 = .ok (.iconst 1, 1) := by decide +kernel
theorem dX12_door_52 : decode cX12_door 52 = .ok (.if_icmp .ne 12, 3) := by decide +kernel
theorem dX12_door_55 : decode cX12_door 55 = .ok (.aload_n 0, 1) := by decide +kernel
theorem dX12_door_56 : decode cX12_door 56 = .ok (.getfield 92, 3) := by decide +kernel
theorem dX12_door_59 : decode cX12_door 59 = .ok (.iload_n 1, 1) := by decide +kernel
theorem dX12_door_60 : decode cX12_door 60 = .ok (.iaload, 1) := by decide +kernel
theorem dX12_door_61 : decode cX12_door 61 = .ok (.goto 18, 3) := by decide +kernel
theorem dX12_door_64 : decode cX12_door 64 = .ok (.aload_n 0, 1) := by decide +kernel
theorem dX12_door_65 : decode cX12_door 65 = .ok (.iload_n 1, 1) := by decide +kernel
theorem dX12_door_66 : decode cX12_door 66 = .ok (.iload_n 2, 1) := by decide +kernel
theorem dX12_door_67 : decode cX12_door 67 = .ok (.iconst 3, 1) := by decide +kernel
theorem dX12_door_68 : decode cX12_door 68 = .ok (.if_icmp .ne 7, 3) := by decide +kernel
theorem dX12_door_71 : decode cX12_door 71 = .ok (.iconst 1, 1) := by decide +kernel
theorem dX12_door_72 : decode cX12_door 72 = .ok (.goto 4, 3) := by decide +kernel
theorem dX12_door_75 : decode cX12_door 75 = .ok (.iconst 0, 1) := by decide +kernel
theorem dX12_door_76 : decode cX12_door 76 = .ok (.invokevirtual 444, 3) := by decide +kernel
theorem dX12_door_79 : decode cX12_door 79 = .ok (.ireturn, 1) := by decide +kernel
theorem dX12_isSecond_0 : decode cX12_isSecond 0 = .ok (.iload_n 0, 1) := by decide +kernel
theorem dX12_isSecond_1 : decode cX12_isSecond 1 = .ok (.i2l, 1) := by decide +kernel
theorem dX12_isSecond_2 : decode cX12_isSecond 2 = .ok (.lconst 0, 1) := by decide +kernel
theorem dX12_isSecond_3 : decode cX12_isSecond 3 = .ok (.ldc2_w 448, 3) := by decide +kernel
theorem dX12_isSecond_6 : decode cX12_isSecond 6 = .ok (.invokestatic 244, 3) := by decide +kernel
theorem dX12_isSecond_9 : decode cX12_isSecond 9 = .ok (.ireturn, 1) := by decide +kernel
theorem dX12_where_0 : decode cX12_where 0 = .ok (.aload_n 0, 1) := by decide +kernel
theorem dX12_where_1 : decode cX12_where 1 = .ok (.iload_n 1, 1) := by decide +kernel
theorem dX12_where_2 : decode cX12_where 2 = .ok (.invokevirtual 376, 3) := by decide +kernel
theorem dX12_where_5 : decode cX12_where 5 = .ok (.ifCond .eq 10, 3) := by decide +kernel
theorem dX12_where_8 : decode cX12_where 8 = .ok (.iload_n 2, 1) := by decide +kernel
theorem dX12_where_9 : decode cX12_where 9 = .ok (.invokestatic 450, 3) := by decide +kernel
theorem dX12_where_12 : decode cX12_where 12 = .ok (.ifCond .ne 5, 3) := by decide +kernel
theorem dX12_where_15 : decode cX12_where 15 = .ok (.iconst (-1), 1) := by decide +kernel
theorem dX12_where_16 : decode cX12_where 16 = .ok (.ireturn, 1) := by decide +kernel
theorem dX12_where_17 : decode cX12_where 17 = .ok (.aload_n 0, 1) := by decide +kernel
theorem dX12_where_18 : decode cX12_where 18 = .ok (.invokevirtual 441, 3) := by decide +kernel
theorem dX12_where_21 : decode cX12_where 21 = .ok (.aload_n 0, 1) := by decide +kernel
theorem dX12_where_22 : decode cX12_where 22 = .ok (.iload_n 1, 1) := by decide +kernel
theorem dX12_where_23 : decode cX12_where 23 = .ok (.iload_n 2, 1) := by decide +kernel
theorem dX12_where_24 : decode cX12_where 24 = .ok (.invokevirtual 395, 3) := by decide +kernel
theorem dX12_where_27 : decode cX12_where 27 = .ok (.ifCond .eq 7, 3) := by decide +kernel
theorem dX12_where_30 : decode cX12_where 30 = .ok (.iconst (-1), 1) := by decide +kernel
theorem dX12_where_31 : decode cX12_where 31 = .ok (.goto 9, 3) := by decide +kernel
theorem dX12_where_34 : decode cX12_where 34 = .ok (.aload_n 0, 1) := by decide +kernel
theorem dX12_where_35 : decode cX12_where 35 = .ok (.iload_n 1, 1) := by decide +kernel
theorem dX12_where_36 : decode cX12_where 36 = .ok (.iload_n 2, 1) := by decide +kernel
theorem dX12_where_37 : decode cX12_where 37 = .ok (.invokevirtual 383, 3) := by decide +kernel
theorem dX12_where_40 : decode cX12_where 40 = .ok (.ireturn, 1) := by decide +kernel
theorem dX12_does_0 : decode cX12_does 0 = .ok (.aload_n 0, 1) := by decide +kernel
theorem dX12_does_1 : decode cX12_does 1 = .ok (.iload_n 1, 1) := by decide +kernel
theorem dX12_does_2 : decode cX12_does 2 = .ok (.invokevirtual 376, 3) := by decide +kernel
theorem dX12_does_5 : decode cX12_does 5 = .ok (.ifCond .eq 15, 3) := by decide +kernel
theorem dX12_does_8 : decode cX12_does 8 = .ok (.iload_n 2, 1) := by decide +kernel
theorem dX12_does_9 : decode cX12_does 9 = .ok (.i2l, 1) := by decide +kernel
theorem dX12_does_10 : decode cX12_does 10 = .ok (.lconst 0, 1) := by decide +kernel
theorem dX12_does_11 : decode cX12_does 11 = .ok (.ldc2_w 439, 3) := by decide +kernel
theorem dX12_does_14 : decode cX12_does 14 = .ok (.invokestatic 244, 3) := by decide +kernel
theorem dX12_does_17 : decode cX12_does 17 = .ok (.ifCond .ne 5, 3) := by decide +kernel
theorem dX12_does_20 : decode cX12_does 20 = .ok (.iconst (-1), 1) := by decide +kernel
theorem dX12_does_21 : decode cX12_does 21 = .ok (.ireturn, 1) := by decide +kernel
theorem dX12_does_22 : decode cX12_does 22 = .ok (.aload_n 0, 1) := by decide +kernel
theorem dX12_does_23 : decode cX12_does 23 = .ok (.invokevirtual 441, 3) := by decide +kernel
theorem dX12_does_26 : decode cX12_does 26 = .ok (.iload_n 2, 1) := by decide +kernel
theorem dX12_does_27 : decode cX12_does 27 = .ok (.tableswitch 46 0 2 #[25, 32, 39], 25) := by decide +kernel
theorem dX12_does_52 : decode cX12_does 52 = .ok (.aload_n 0, 1) := by decide +kernel
theorem dX12_does_53 : decode cX12_does 53 = .ok (.getfield 104, 3) := by decide +kernel
theorem dX12_does_56 : decode cX12_does 56 = .ok (.iload_n 1, 1) := by decide +kernel
theorem dX12_does_57 : decode cX12_does 57 = .ok (.iaload, 1) := by decide +kernel
theorem dX12_does_58 : decode cX12_does 58 = .ok (.ireturn, 1) := by decide +kernel
theorem dX12_does_59 : decode cX12_does 59 = .ok (.aload_n 0, 1) := by decide +kernel
theorem dX12_does_60 : decode cX12_does 60 = .ok (.getfield 110, 3) := by decide +kernel
theorem dX12_does_63 : decode cX12_does 63 = .ok (.iload_n 1, 1) := by decide +kernel
theorem dX12_does_64 : decode cX12_does 64 = .ok (.iaload, 1) := by decide +kernel
theorem dX12_does_65 : decode cX12_does 65 = .ok (.ireturn, 1) := by decide +kernel
theorem dX12_does_66 : decode cX12_does 66 = .ok (.aload_n 0, 1) := by decide +kernel
theorem dX12_does_67 : decode cX12_does 67 = .ok (.getfield 107, 3) := by decide +kernel
theorem dX12_does_70 : decode cX12_does 70 = .ok (.iload_n 1, 1) := by decide +kernel
theorem dX12_does_71 : decode cX12_does 71 = .ok (.iaload, 1) := by decide +kernel
theorem dX12_does_72 : decode cX12_does 72 = .ok (.ireturn, 1) := by decide +kernel
theorem dX12_does_73 : decode cX12_does 73 = .ok (.aload_n 0, 1) := by decide +kernel
theorem dX12_does_74 : decode cX12_does 74 = .ok (.getfield 110, 3) := by decide +kernel
theorem dX12_does_77 : decode cX12_does 77 = .ok (.iload_n 1, 1) := by decide +kernel
theorem dX12_does_78 : decode cX12_does 78 = .ok (.iaload, 1) := by decide +kernel
theorem dX12_does_79 : decode cX12_does 79 = .ok (.iconst (-1), 1) := by decide +kernel
theorem dX12_does_80 : decode cX12_does 80 = .ok (.if_icmp .ne 7, 3) := by decide +kernel
theorem dX12_does_83 : decode cX12_does 83 = .ok (.iconst (-1), 1) := by decide +kernel
theorem dX12_does_84 : decode cX12_does 84 = .ok (.goto 18, 3) := by decide +kernel
theorem dX12_does_87 : decode cX12_does 87 = .ok (.aload_n 0, 1) := by decide +kernel
theorem dX12_does_88 : decode cX12_does 88 = .ok (.aload_n 0, 1) := by decide +kernel
theorem dX12_does_89 : decode cX12_does 89 = .ok (.iload_n 1, 1) := by decide +kernel
theorem dX12_does_90 : decode cX12_does 90 = .ok (.aload_n 0, 1) := by decide +kernel
theorem dX12_does_91 : decode cX12_does 91 = .ok (.getfield 110, 3) := by decide +kernel
theorem dX12_does_94 : decode cX12_does 94 = .ok (.iload_n 1, 1) := by decide +kernel
theorem dX12_does_95 : decode cX12_does 95 = .ok (.iaload, 1) := by decide +kernel
theorem dX12_does_96 : decode cX12_does 96 = .ok (.invokevirtual 383, 3) := by decide +kernel
theorem dX12_does_99 : decode cX12_does 99 = .ok (.invokevirtual 398, 3) := by decide +kernel
theorem dX12_does_102 : decode cX12_does 102 = .ok (.ireturn, 1) := by decide +kernel
theorem dX12_count_0 : decode cX12_count 0 = .ok (.iload_n 1, 1) := by decide +kernel
theorem dX12_count_1 : decode cX12_count 1 = .ok (.invokestatic 450, 3) := by decide +kernel
theorem dX12_count_4 : decode cX12_count 4 = .ok (.ifCond .eq 15, 3) := by decide +kernel
theorem dX12_count_7 : decode cX12_count 7 = .ok (.iload_n 2, 1) := by decide +kernel
theorem dX12_count_8 : decode cX12_count 8 = .ok (.i2l, 1) := by decide +kernel
theorem dX12_count_9 : decode cX12_count 9 = .ok (.lconst 0, 1) := by decide +kernel
theorem dX12_count_10 : decode cX12_count 10 = .ok (.ldc2_w 439, 3) := by decide +kernel
theorem dX12_count_13 : decode cX12_count 13 = .ok (.invokestatic 244, 3) := by decide +kernel
theorem dX12_count_16 : decode cX12_count 16 = .ok (.ifCond .ne 5, 3) := by decide +kernel
theorem dX12_count_19 : decode cX12_count 19 = .ok (.iconst (-1), 1) := by decide +kernel
theorem dX12_count_20 : decode cX12_count 20 = .ok (.ireturn, 1) := by decide +kernel
theorem dX12_count_21 : decode cX12_count 21 = .ok (.aload_n 0, 1) := by decide +kernel
theorem dX12_count_22 : decode cX12_count 22 = .ok (.invokevirtual 441, 3) := by decide +kernel
theorem dX12_count_25 : decode cX12_count 25 = .ok (.iconst 0, 1) := by decide +kernel
theorem dX12_count_26 : decode cX12_count 26 = .ok (.istore_n 3, 1) := by decide +kernel
theorem dX12_count_27 : decode cX12_count 27 = .ok (.iconst 0, 1) := by decide +kernel
theorem dX12_count_28 : decode cX12_count 28 = .ok (.istore 4, 2) := by decide +kernel
theorem dX12_count_30 : decode cX12_count 30 = .ok (.iload 4, 2) := by decide +kernel
theorem dX12_count_32 : decode cX12_count 32 = .ok (.aload_n 0, 1) := by decide +kernel
theorem dX12_count_33 : decode cX12_count 33 = .ok (.invokevirtual 349, 3) := by decide +kernel
theorem dX12_count_36 : decode cX12_count 36 = .ok (.if_icmp .ge 75, 3) := by decide +kernel
theorem dX12_count_39 : decode cX12_count 39 = .ok (.aload_n 0, 1) := by decide +kernel
theorem dX12_count_40 : decode cX12_count 40 = .ok (.iload 4, 2) := by decide +kernel
theorem dX12_count_42 : decode cX12_count 42 = .ok (.invokevirtual 376, 3) := by decide +kernel
theorem dX12_count_45 : decode cX12_count 45 = .ok (.ifCond .ne 6, 3) := by decide +kernel
theorem dX12_count_48 : decode cX12_count 48 = .ok (.goto 57, 3) := by decide +kernel
theorem dX12_count_51 : decode cX12_count 51 = .ok (.aload_n 0, 1) := by decide +kernel
theorem dX12_count_52 : decode cX12_count 52 = .ok (.iload 4, 2) := by decide +kernel
theorem dX12_count_54 : decode cX12_count 54 = .ok (.iload_n 1, 1) := by decide +kernel
theorem dX12_count_55 : decode cX12_count 55 = .ok (.invokevirtual 395, 3) := by decide +kernel
theorem dX12_count_58 : decode cX12_count 58 = .ok (.ifCond .eq 7, 3) := by decide +kernel
theorem dX12_count_61 : decode cX12_count 61 = .ok (.iconst 3, 1) := by decide +kernel
theorem dX12_count_62 : decode cX12_count 62 = .ok (.goto 32, 3) := by decide +kernel
theorem dX12_count_65 : decode cX12_count 65 = .ok (.aload_n 0, 1) := by decide +kernel
theorem dX12_count_66 : decode cX12_count 66 = .ok (.iload 4, 2) := by decide +kernel
theorem dX12_count_68 : decode cX12_count 68 = .ok (.iload_n 1, 1) := by decide +kernel
theorem dX12_count_69 : decode cX12_count 69 = .ok (.invokevirtual 389, 3) := by decide +kernel
theorem dX12_count_72 : decode cX12_count 72 = .ok (.ifCond .eq 7, 3) := by decide +kernel
theorem dX12_count_75 : decode cX12_count 75 = .ok (.iconst 1, 1) := by decide +kernel
theorem dX12_count_76 : decode cX12_count 76 = .ok (.goto 18, 3) := by decide +kernel
theorem dX12_count_79 : decode cX12_count 79 = .ok (.aload_n 0, 1) := by decide +kernel
theorem dX12_count_80 : decode cX12_count 80 = .ok (.iload 4, 2) := by decide +kernel
theorem dX12_count_82 : decode cX12_count 82 = .ok (.iload_n 1, 1) := by decide +kernel
theorem dX12_count_83 : decode cX12_count 83 = .ok (.invokevirtual 379, 3) := by decide +kernel
theorem dX12_count_86 : decode cX12_count 86 = .ok (.ifCond .eq 7, 3) := by decide +kernel
theorem dX12_count_89 : decode cX12_count 89 = .ok (.iconst 0, 1) := by decide +kernel
theorem dX12_count_90 : decode cX12_count 90 = .ok (.goto 4, 3) := by decide +kernel
theorem dX12_count_93 : decode cX12_count 93 = .ok (.iconst 2, 1) := by decide +kernel
theorem dX12_count_94 : decode cX12_count 94 = .ok (.istore 5, 2) := by decide +kernel
theorem dX12_count_96 : decode cX12_count 96 = .ok (.iload 5, 2) := by decide +kernel
theorem dX12_count_98 : decode cX12_count 98 = .ok (.iload_n 2, 1) := by decide +kernel
theorem dX12_count_99 : decode cX12_count 99 = .ok (.if_icmp .ne 6, 3) := by decide +kernel
theorem dX12_count_102 : decode cX12_count 102 = .ok (.iinc 3 1, 3) := by decide +kernel
theorem dX12_count_105 : decode cX12_count 105 = .ok (.iinc 4 1, 3) := by decide +kernel
theorem dX12_count_108 : decode cX12_count 108 = .ok (.goto (-78), 3) := by decide +kernel
theorem dX12_count_111 : decode cX12_count 111 = .ok (.iload_n 3, 1) := by decide +kernel
theorem dX12_count_112 : decode cX12_count 112 = .ok (.ireturn, 1) := by decide +kernel
theorem dX12_peak_0 : decode cX12_peak 0 = .ok (.iconst 0, 1) := by decide +kernel
theorem dX12_peak_1 : decode cX12_peak 1 = .ok (.istore_n 1, 1) := by decide +kernel
theorem dX12_peak_2 : decode cX12_peak 2 = .ok (.iconst 1, 1) := by decide +kernel
theorem dX12_peak_3 : decode cX12_peak 3 = .ok (.istore_n 2, 1) := by decide +kernel
theorem dX12_peak_4 : decode cX12_peak 4 = .ok (.iload_n 2, 1) := by decide +kernel
theorem dX12_peak_5 : decode cX12_peak 5 = .ok (.sipush 200, 3) := by decide +kernel
theorem dX12_peak_8 : decode cX12_peak 8 = .ok (.if_icmp .gt 24, 3) := by decide +kernel
theorem dX12_peak_11 : decode cX12_peak 11 = .ok (.aload_n 0, 1) := by decide +kernel
theorem dX12_peak_12 : decode cX12_peak 12 = .ok (.iload_n 2, 1) := by decide +kernel
theorem dX12_peak_13 : decode cX12_peak 13 = .ok (.invokevirtual 426, 3) := by decide +kernel
theorem dX12_peak_16 : decode cX12_peak 16 = .ok (.aload_n 0, 1) := by decide +kernel
theorem dX12_peak_17 : decode cX12_peak 17 = .ok (.iload_n 1, 1) := by decide +kernel
theorem dX12_peak_18 : decode cX12_peak 18 = .ok (.invokevirtual 426, 3) := by decide +kernel
theorem dX12_peak_21 : decode cX12_peak 21 = .ok (.if_icmp .le 5, 3) := by decide +kernel
theorem dX12_peak_24 : decode cX12_peak 24 = .ok (.iload_n 2, 1) := by decide +kernel
theorem dX12_peak_25 : decode cX12_peak 25 = .ok (.istore_n 1, 1) := by decide +kernel
theorem dX12_peak_26 : decode cX12_peak 26 = .ok (.iinc 2 1, 3) := by decide +kernel
theorem dX12_peak_29 : decode cX12_peak 29 = .ok (.goto (-25), 3) := by decide +kernel
theorem dX12_peak_32 : decode cX12_peak 32 = .ok (.iload_n 1, 1) := by decide +kernel
theorem dX12_peak_33 : decode cX12_peak 33 = .ok (.ireturn, 1) := by decide +kernel
theorem dX12_passersOpen_0 : decode cX12_passersOpen 0 = .ok (.iconst 0, 1) := by decide +kernel
theorem dX12_passersOpen_1 : decode cX12_passersOpen 1 = .ok (.istore_n 1, 1) := by decide +kernel
theorem dX12_passersOpen_2 : decode cX12_passersOpen 2 = .ok (.iconst 0, 1) := by decide +kernel
theorem dX12_passersOpen_3 : decode cX12_passersOpen 3 = .ok (.istore_n 2, 1) := by decide +kernel
theorem dX12_passersOpen_4 : decode cX12_passersOpen 4 = .ok (.iload_n 2, 1) := by decide +kernel
theorem dX12_passersOpen_5 : decode cX12_passersOpen 5 = .ok (.aload_n 0, 1) := by decide +kernel
theorem dX12_passersOpen_6 : decode cX12_passersOpen 6 = .ok (.invokevirtual 349, 3) := by decide +kernel
theorem dX12_passersOpen_9 : decode cX12_passersOpen 9 = .ok (.if_icmp .ge 40, 3) := by decide +kernel
theorem dX12_passersOpen_12 : decode cX12_passersOpen 12 = .ok (.aload_n 0, 1) := by decide +kernel
theorem dX12_passersOpen_13 : decode cX12_passersOpen 13 = .ok (.iload_n 2, 1) := by decide +kernel
theorem dX12_passersOpen_14 : decode cX12_passersOpen 14 = .ok (.invokevirtual 376, 3) := by decide +kernel
theorem dX12_passersOpen_17 : decode cX12_passersOpen 17 = .ok (.ifCond .eq 26, 3) := by decide +kernel
theorem dX12_passersOpen_20 : decode cX12_passersOpen 20 = .ok (.aload_n 0, 1) := by decide +kernel
theorem dX12_passersOpen_21 : decode cX12_passersOpen 21 = .ok (.iload_n 2, 1) := by decide +kernel
theorem dX12_passersOpen_22 : decode cX12_passersOpen 22 = .ok (.iconst 4, 1) := by decide +kernel
theorem dX12_passersOpen_23 : decode cX12_passersOpen 23 = .ok (.invokevirtual 373, 3) := by decide +kernel
theorem dX12_passersOpen_26 : decode cX12_passersOpen 26 = .ok (.iconst 1, 1) := by decide +kernel
theorem dX12_passersOpen_27 : decode cX12_passersOpen 27 = .ok (.if_icmp .ne 16, 3) := by decide +kernel
theorem dX12_passersOpen_30 : decode cX12_passersOpen 30 = .ok (.aload_n 0, 1) := by decide +kernel
theorem dX12_passersOpen_31 : decode cX12_passersOpen 31 = .ok (.getfield 104, 3) := by decide +kernel
theorem dX12_passersOpen_34 : decode cX12_passersOpen 34 = .ok (.iload_n 2, 1) := by decide +kernel
theorem dX12_passersOpen_35 : decode cX12_passersOpen 35 = .ok (.iaload, 1) := by decide +kernel
theorem dX12_passersOpen_36 : decode cX12_passersOpen 36 = .ok (.iconst (-1), 1) := by decide +kernel
theorem dX12_passersOpen_37 : decode cX12_passersOpen 37 = .ok (.if_icmp .eq 6, 3) := by decide +kernel
theorem dX12_passersOpen_40 : decode cX12_passersOpen 40 = .ok (.iinc 1 1, 3) := by decide +kernel
theorem dX12_passersOpen_43 : decode cX12_passersOpen 43 = .ok (.iinc 2 1, 3) := by decide +kernel
theorem dX12_passersOpen_46 : decode cX12_passersOpen 46 = .ok (.goto (-42), 3) := by decide +kernel
theorem dX12_passersOpen_49 : decode cX12_passersOpen 49 = .ok (.iload_n 1, 1) := by decide +kernel
theorem dX12_passersOpen_50 : decode cX12_passersOpen 50 = .ok (.ireturn, 1) := by decide +kernel
theorem dX12_lastOut_0 : decode cX12_lastOut 0 = .ok (.iconst (-1), 1) := by decide +kernel
theorem dX12_lastOut_1 : decode cX12_lastOut 1 = .ok (.istore_n 1, 1) := by decide +kernel
theorem dX12_lastOut_2 : decode cX12_lastOut 2 = .ok (.iconst 0, 1) := by decide +kernel
theorem dX12_lastOut_3 : decode cX12_lastOut 3 = .ok (.istore_n 2, 1) := by decide +kernel
theorem dX12_lastOut_4 : decode cX12_lastOut 4 = .ok (.iload_n 2, 1) := by decide +kernel
theorem dX12_lastOut_5 : decode cX12_lastOut 5 = .ok (.aload_n 0, 1) := by decide +kernel
theorem dX12_lastOut_6 : decode cX12_lastOut 6 = .ok (.invokevirtual 349, 3) := by decide +kernel
theorem dX12_lastOut_9 : decode cX12_lastOut 9 = .ok (.if_icmp .ge 34, 3) := by decide +kernel
theorem dX12_lastOut_12 : decode cX12_lastOut 12 = .ok (.aload_n 0, 1) := by decide +kernel
theorem dX12_lastOut_13 : decode cX12_lastOut 13 = .ok (.iload_n 2, 1) := by decide +kernel
theorem dX12_lastOut_14 : decode cX12_lastOut 14 = .ok (.invokevirtual 376, 3) := by decide +kernel
theorem dX12_lastOut_17 : decode cX12_lastOut 17 = .ok (.ifCond .eq 20, 3) := by decide +kernel
theorem dX12_lastOut_20 : decode cX12_lastOut 20 = .ok (.aload_n 0, 1) := by decide +kernel
theorem dX12_lastOut_21 : decode cX12_lastOut 21 = .ok (.getfield 110, 3) := by decide +kernel
theorem dX12_lastOut_24 : decode cX12_lastOut 24 = .ok (.iload_n 2, 1) := by decide +kernel
theorem dX12_lastOut_25 : decode cX12_lastOut 25 = .ok (.iaload, 1) := by decide +kernel
theorem dX12_lastOut_26 : decode cX12_lastOut 26 = .ok (.iload_n 1, 1) := by decide +kernel
theorem dX12_lastOut_27 : decode cX12_lastOut 27 = .ok (.if_icmp .le 10, 3) := by decide +kernel
theorem dX12_lastOut_30 : decode cX12_lastOut 30 = .ok (.aload_n 0, 1) := by decide +kernel
theorem dX12_lastOut_31 : decode cX12_lastOut 31 = .ok (.getfield 110, 3) := by decide +kernel
theorem dX12_lastOut_34 : decode cX12_lastOut 34 = .ok (.iload_n 2, 1) := by decide +kernel
theorem dX12_lastOut_35 : decode cX12_lastOut 35 = .ok (.iaload, 1) := by decide +kernel
theorem dX12_lastOut_36 : decode cX12_lastOut 36 = .ok (.istore_n 1, 1) := by decide +kernel
theorem dX12_lastOut_37 : decode cX12_lastOut 37 = .ok (.iinc 2 1, 3) := by decide +kernel
theorem dX12_lastOut_40 : decode cX12_lastOut 40 = .ok (.goto (-36), 3) := by decide +kernel
theorem dX12_lastOut_43 : decode cX12_lastOut 43 = .ok (.iload_n 1, 1) := by decide +kernel
theorem dX12_lastOut_44 : decode cX12_lastOut 44 = .ok (.ireturn, 1) := by decide +kernel
theorem dX12_openAhead_0 : decode cX12_openAhead 0 = .ok (.iconst 0, 1) := by decide +kernel
theorem dX12_openAhead_1 : decode cX12_openAhead 1 = .ok (.istore_n 1, 1) := by decide +kernel
theorem dX12_openAhead_2 : decode cX12_openAhead 2 = .ok (.iconst 0, 1) := by decide +kernel
theorem dX12_openAhead_3 : decode cX12_openAhead 3 = .ok (.istore_n 2, 1) := by decide +kernel
theorem dX12_openAhead_4 : decode cX12_openAhead 4 = .ok (.iload_n 2, 1) := by decide +kernel
theorem dX12_openAhead_5 : decode cX12_openAhead 5 = .ok (.aload_n 0, 1) := by decide +kernel
theorem dX12_openAhead_6 : decode cX12_openAhead 6 = .ok (.invokevirtual 349, 3) := by decide +kernel
theorem dX12_openAhead_9 : decode cX12_openAhead 9 = .ok (.if_icmp .ge 45, 3) := by decide +kernel
theorem dX12_openAhead_12 : decode cX12_openAhead 12 = .ok (.aload_n 0, 1) := by decide +kernel
theorem dX12_openAhead_13 : decode cX12_openAhead 13 = .ok (.iload_n 2, 1) := by decide +kernel
theorem dX12_openAhead_14 : decode cX12_openAhead 14 = .ok (.invokevirtual 376, 3) := by decide +kernel
theorem dX12_openAhead_17 : decode cX12_openAhead 17 = .ok (.ifCond .eq 31, 3) := by decide +kernel
theorem dX12_openAhead_20 : decode cX12_openAhead 20 = .ok (.aload_n 0, 1) := by decide +kernel
theorem dX12_openAhead_21 : decode cX12_openAhead 21 = .ok (.getfield 104, 3) := by decide +kernel
theorem dX12_openAhead_24 : decode cX12_openAhead 24 = .ok (.iload_n 2, 1) := by decide +kernel
theorem dX12_openAhead_25 : decode cX12_openAhead 25 = .ok (.iaload, 1) := by decide +kernel
theorem dX12_openAhead_26 : decode cX12_openAhead 26 = .ok (.iconst (-1), 1) := by decide +kernel
theorem dX12_openAhead_27 : decode cX12_openAhead 27 = .ok (.if_icmp .eq 21, 3) := by decide +kernel
theorem dX12_openAhead_30 : decode cX12_openAhead 30 = .ok (.aload_n 0, 1) := by decide +kernel
theorem dX12_openAhead_31 : decode cX12_openAhead 31 = .ok (.getfield 104, 3) := by decide +kernel
theorem dX12_openAhead_34 : decode cX12_openAhead 34 = .ok (.iload_n 2, 1) := by decide +kernel
theorem dX12_openAhead_35 : decode cX12_openAhead 35 = .ok (.iaload, 1) := by decide +kernel
theorem dX12_openAhead_36 : decode cX12_openAhead 36 = .ok (.aload_n 0, 1) := by decide +kernel
theorem dX12_openAhead_37 : decode cX12_openAhead 37 = .ok (.getfield 89, 3) := by decide +kernel
theorem dX12_openAhead_40 : decode cX12_openAhead 40 = .ok (.iconst 4, 1) := by decide +kernel
theorem dX12_openAhead_41 : decode cX12_openAhead 41 = .ok (.iaload, 1) := by decide +kernel
theorem dX12_openAhead_42 : decode cX12_openAhead 42 = .ok (.if_icmp .ge 6, 3) := by decide +kernel
theorem dX12_openAhead_45 : decode cX12_openAhead 45 = .ok (.iinc 1 1, 3) := by decide +kernel
theorem dX12_openAhead_48 : decode cX12_openAhead 48 = .ok (.iinc 2 1, 3) := by decide +kernel
theorem dX12_openAhead_51 : decode cX12_openAhead 51 = .ok (.goto (-47), 3) := by decide +kernel
theorem dX12_openAhead_54 : decode cX12_openAhead 54 = .ok (.iload_n 1, 1) := by decide +kernel
theorem dX12_openAhead_55 : decode cX12_openAhead 55 = .ok (.ireturn, 1) := by decide +kernel
theorem dX12_whole_0 : decode cX12_whole 0 = .ok (.aload_n 0, 1) := by decide +kernel
theorem dX12_whole_1 : decode cX12_whole 1 = .ok (.getfield 334, 3) := by decide +kernel
theorem dX12_whole_4 : decode cX12_whole 4 = .ok (.ifCond .eq 15, 3) := by decide +kernel
theorem dX12_whole_7 : decode cX12_whole 7 = .ok (.iload_n 1, 1) := by decide +kernel
theorem dX12_whole_8 : decode cX12_whole 8 = .ok (.i2l, 1) := by decide +kernel
theorem dX12_whole_9 : decode cX12_whole 9 = .ok (.lconst 0, 1) := by decide +kernel
theorem dX12_whole_10 : decode cX12_whole 10 = .ok (.ldc2_w 453, 3) := by decide +kernel
theorem dX12_whole_13 : decode cX12_whole 13 = .ok (.invokestatic 244, 3) := by decide +kernel
theorem dX12_whole_16 : decode cX12_whole 16 = .ok (.ifCond .ne 5, 3) := by decide +kernel
theorem dX12_whole_19 : decode cX12_whole 19 = .ok (.iconst (-1), 1) := by decide +kernel
theorem dX12_whole_20 : decode cX12_whole 20 = .ok (.ireturn, 1) := by decide +kernel
theorem dX12_whole_21 : decode cX12_whole 21 = .ok (.aload_n 0, 1) := by decide +kernel
theorem dX12_whole_22 : decode cX12_whole 22 = .ok (.invokevirtual 441, 3) := by decide +kernel
theorem dX12_whole_25 : decode cX12_whole 25 = .ok (.iload_n 1, 1) := by decide +kernel
theorem dX12_whole_26 : decode cX12_whole 26 = .ok (.tableswitch 99 0 7 #[46, 51, 56, 61, 70, 84, 89, 94], 46) := by decide +kernel
theorem dX12_whole_72 : decode cX12_whole 72 = .ok (.aload_n 0, 1) := by decide +kernel
theorem dX12_whole_73 : decode cX12_whole 73 = .ok (.getfield 370, 3) := by decide +kernel
theorem dX12_whole_76 : decode cX12_whole 76 = .ok (.ireturn, 1) := by decide +kernel
theorem dX12_whole_77 : decode cX12_whole 77 = .ok (.aload_n 0, 1) := by decide +kernel
theorem dX12_whole_78 : decode cX12_whole 78 = .ok (.getfield 414, 3) := by decide +kernel
theorem dX12_whole_81 : decode cX12_whole 81 = .ok (.ireturn, 1) := by decide +kernel
theorem dX12_whole_82 : decode cX12_whole 82 = .ok (.aload_n 0, 1) := by decide +kernel
theorem dX12_whole_83 : decode cX12_whole 83 = .ok (.invokevirtual 455, 3) := by decide +kernel
theorem dX12_whole_86 : decode cX12_whole 86 = .ok (.ireturn, 1) := by decide +kernel
theorem dX12_whole_87 : decode cX12_whole 87 = .ok (.aload_n 0, 1) := by decide +kernel
theorem dX12_whole_88 : decode cX12_whole 88 = .ok (.aload_n 0, 1) := by decide +kernel
theorem dX12_whole_89 : decode cX12_whole 89 = .ok (.invokevirtual 455, 3) := by decide +kernel
theorem dX12_whole_92 : decode cX12_whole 92 = .ok (.invokevirtual 426, 3) := by decide +kernel
theorem dX12_whole_95 : decode cX12_whole 95 = .ok (.ireturn, 1) := by decide +kernel
theorem dX12_whole_96 : decode cX12_whole 96 = .ok (.aload_n 0, 1) := by decide +kernel
theorem dX12_whole_97 : decode cX12_whole 97 = .ok (.invokevirtual 458, 3) := by decide +kernel
theorem dX12_whole_100 : decode cX12_whole 100 = .ok (.iconst (-1), 1) := by decide +kernel
theorem dX12_whole_101 : decode cX12_whole 101 = .ok (.if_icmp .ne 7, 3) := by decide +kernel
theorem dX12_whole_104 : decode cX12_whole 104 = .ok (.iconst 0, 1) := by decide +kernel
theorem dX12_whole_105 : decode cX12_whole 105 = .ok (.goto 4, 3) := by decide +kernel
theorem dX12_whole_108 : decode cX12_whole 108 = .ok (.iconst 1, 1) := by decide +kernel
theorem dX12_whole_109 : decode cX12_whole 109 = .ok (.ireturn, 1) := by decide +kernel
theorem dX12_whole_110 : decode cX12_whole 110 = .ok (.aload_n 0, 1) := by decide +kernel
theorem dX12_whole_111 : decode cX12_whole 111 = .ok (.invokevirtual 458, 3) := by decide +kernel
theorem dX12_whole_114 : decode cX12_whole 114 = .ok (.ireturn, 1) := by decide +kernel
theorem dX12_whole_115 : decode cX12_whole 115 = .ok (.aload_n 0, 1) := by decide +kernel
theorem dX12_whole_116 : decode cX12_whole 116 = .ok (.invokevirtual 461, 3) := by decide +kernel
theorem dX12_whole_119 : decode cX12_whole 119 = .ok (.ireturn, 1) := by decide +kernel
theorem dX12_whole_120 : decode cX12_whole 120 = .ok (.aload_n 0, 1) := by decide +kernel
theorem dX12_whole_121 : decode cX12_whole 121 = .ok (.invokevirtual 464, 3) := by decide +kernel
theorem dX12_whole_124 : decode cX12_whole 124 = .ok (.ireturn, 1) := by decide +kernel
theorem dX12_whole_125 : decode cX12_whole 125 = .ok (.aload_n 0, 1) := by decide +kernel
theorem dX12_whole_126 : decode cX12_whole 126 = .ok (.invokevirtual 467, 3) := by decide +kernel
theorem dX12_whole_129 : decode cX12_whole 129 = .ok (.ireturn, 1) := by decide +kernel
theorem dX12_keeps_0 : decode cX12_keeps 0 = .ok (.aload_n 0, 1) := by decide +kernel
theorem dX12_keeps_1 : decode cX12_keeps 1 = .ok (.aload_n 0, 1) := by decide +kernel
theorem dX12_keeps_2 : decode cX12_keeps 2 = .ok (.getfield 470, 3) := by decide +kernel
theorem dX12_keeps_5 : decode cX12_keeps 5 = .ok (.iconst 1, 1) := by decide +kernel
theorem dX12_keeps_6 : decode cX12_keeps 6 = .ok (.iadd, 1) := by decide +kernel
theorem dX12_keeps_7 : decode cX12_keeps 7 = .ok (.bipush 20, 2) := by decide +kernel
theorem dX12_keeps_9 : decode cX12_keeps 9 = .ok (.irem, 1) := by decide +kernel
theorem dX12_keeps_10 : decode cX12_keeps 10 = .ok (.putfield 470, 3) := by decide +kernel
theorem dX12_keeps_13 : decode cX12_keeps 13 = .ok (.iconst 0, 1) := by decide +kernel
theorem dX12_keeps_14 : decode cX12_keeps 14 = .ok (.istore_n 1, 1) := by decide +kernel
theorem dX12_keeps_15 : decode cX12_keeps 15 = .ok (.iload_n 1, 1) := by decide +kernel
theorem dX12_keeps_16 : decode cX12_keeps 16 = .ok (.aload_n 0, 1) := by decide +kernel
theorem dX12_keeps_17 : decode cX12_keeps 17 = .ok (.invokevirtual 349, 3) := by decide +kernel
theorem dX12_keeps_20 : decode cX12_keeps 20 = .ok (.if_icmp .ge 46, 3) := by decide +kernel
theorem dX12_keeps_23 : decode cX12_keeps 23 = .ok (.iconst 0, 1) := by decide +kernel
theorem dX12_keeps_24 : decode cX12_keeps 24 = .ok (.istore_n 2, 1) := by decide +kernel
theorem dX12_keeps_25 : decode cX12_keeps 25 = .ok (.iload_n 2, 1) := by decide +kernel
theorem dX12_keeps_26 : decode cX12_keeps 26 = .ok (.iconst 3, 1) := by decide +kernel
theorem dX12_keeps_27 : decode cX12_keeps 27 = .ok (.if_icmp .ge 33, 3) := by decide +kernel
theorem dX12_keeps_30 : decode cX12_keeps 30 = .ok (.aload_n 0, 1) := by decide +kernel
theorem dX12_keeps_31 : decode cX12_keeps 31 = .ok (.getfield 116, 3) := by decide +kernel
theorem dX12_keeps_34 : decode cX12_keeps 34 = .ok (.bipush 33, 2) := by decide +kernel
theorem dX12_keeps_36 : decode cX12_keeps 36 = .ok (.aload_n 0, 1) := by decide +kernel
theorem dX12_keeps_37 : decode cX12_keeps 37 = .ok (.getfield 470, 3) := by decide +kernel
theorem dX12_keeps_40 : decode cX12_keeps 40 = .ok (.imul, 1) := by decide +kernel
theorem dX12_keeps_41 : decode cX12_keeps 41 = .ok (.iconst 3, 1) := by decide +kernel
theorem dX12_keeps_42 : decode cX12_keeps 42 = .ok (.iload_n 1, 1) := by decide +kernel
theorem dX12_keeps_43 : decode cX12_keeps 43 = .ok (.imul, 1) := by decide +kernel
theorem dX12_keeps_44 : decode cX12_keeps 44 = .ok (.iadd, 1) := by decide +kernel
theorem dX12_keeps_45 : decode cX12_keeps 45 = .ok (.iload_n 2, 1) := by decide +kernel
theorem dX12_keeps_46 : decode cX12_keeps 46 = .ok (.iadd, 1) := by decide +kernel
theorem dX12_keeps_47 : decode cX12_keeps 47 = .ok (.aload_n 0, 1) := by decide +kernel
theorem dX12_keeps_48 : decode cX12_keeps 48 = .ok (.iload_n 1, 1) := by decide +kernel
theorem dX12_keeps_49 : decode cX12_keeps 49 = .ok (.iload_n 2, 1) := by decide +kernel
theorem dX12_keeps_50 : decode cX12_keeps 50 = .ok (.invokevirtual 373, 3) := by decide +kernel
theorem dX12_keeps_53 : decode cX12_keeps 53 = .ok (.iastore, 1) := by decide +kernel
theorem dX12_keeps_54 : decode cX12_keeps 54 = .ok (.iinc 2 1, 3) := by decide +kernel
theorem dX12_keeps_57 : decode cX12_keeps 57 = .ok (.goto (-32), 3) := by decide +kernel
theorem dX12_keeps_60 : decode cX12_keeps 60 = .ok (.iinc 1 1, 3) := by decide +kernel
theorem dX12_keeps_63 : decode cX12_keeps 63 = .ok (.goto (-48), 3) := by decide +kernel
theorem dX12_keeps_66 : decode cX12_keeps 66 = .ok (.iconst 0, 1) := by decide +kernel
theorem dX12_keeps_67 : decode cX12_keeps 67 = .ok (.istore_n 1, 1) := by decide +kernel
theorem dX12_keeps_68 : decode cX12_keeps 68 = .ok (.iload_n 1, 1) := by decide +kernel
theorem dX12_keeps_69 : decode cX12_keeps 69 = .ok (.bipush 6, 2) := by decide +kernel
theorem dX12_keeps_71 : decode cX12_keeps 71 = .ok (.if_icmp .ge 32, 3) := by decide +kernel
theorem dX12_keeps_74 : decode cX12_keeps 74 = .ok (.aload_n 0, 1) := by decide +kernel
theorem dX12_keeps_75 : decode cX12_keeps 75 = .ok (.getfield 116, 3) := by decide +kernel
theorem dX12_keeps_78 : decode cX12_keeps 78 = .ok (.bipush 33, 2) := by decide +kernel
theorem dX12_keeps_80 : decode cX12_keeps 80 = .ok (.aload_n 0, 1) := by decide +kernel
theorem dX12_keeps_81 : decode cX12_keeps 81 = .ok (.getfield 470, 3) := by decide +kernel
theorem dX12_keeps_84 : decode cX12_keeps 84 = .ok (.imul, 1) := by decide +kernel
theorem dX12_keeps_85 : decode cX12_keeps 85 = .ok (.bipush 27, 2) := by decide +kernel
theorem dX12_keeps_87 : decode cX12_keeps 87 = .ok (.iadd, 1) := by decide +kernel
theorem dX12_keeps_88 : decode cX12_keeps 88 = .ok (.iload_n 1, 1) := by decide +kernel
theorem dX12_keeps_89 : decode cX12_keeps 89 = .ok (.iadd, 1) := by decide +kernel
theorem dX12_keeps_90 : decode cX12_keeps 90 = .ok (.aload_n 0, 1) := by decide +kernel
theorem dX12_keeps_91 : decode cX12_keeps 91 = .ok (.getfield 92, 3) := by decide +kernel
theorem dX12_keeps_94 : decode cX12_keeps 94 = .ok (.iload_n 1, 1) := by decide +kernel
theorem dX12_keeps_95 : decode cX12_keeps 95 = .ok (.iaload, 1) := by decide +kernel
theorem dX12_keeps_96 : decode cX12_keeps 96 = .ok (.iastore, 1) := by decide +kernel
theorem dX12_keeps_97 : decode cX12_keeps 97 = .ok (.iinc 1 1, 3) := by decide +kernel
theorem dX12_keeps_100 : decode cX12_keeps 100 = .ok (.goto (-32), 3) := by decide +kernel
theorem dX12_keeps_103 : decode cX12_keeps 103 = .ok (.aload_n 0, 1) := by decide +kernel
theorem dX12_keeps_104 : decode cX12_keeps 104 = .ok (.getfield 343, 3) := by decide +kernel
theorem dX12_keeps_107 : decode cX12_keeps 107 = .ok (.bipush 20, 2) := by decide +kernel
theorem dX12_keeps_109 : decode cX12_keeps 109 = .ok (.if_icmp .ge 13, 3) := by decide +kernel
theorem dX12_keeps_112 : decode cX12_keeps 112 = .ok (.aload_n 0, 1) := by decide +kernel
theorem dX12_keeps_113 : decode cX12_keeps 113 = .ok (.dup, 1) := by decide +kernel
theorem dX12_keeps_114 : decode cX12_keeps 114 = .ok (.getfield 343, 3) := by decide +kernel
theorem dX12_keeps_117 : decode cX12_keeps 117 = .ok (.iconst 1, 1) := by decide +kernel
theorem dX12_keeps_118 : decode cX12_keeps 118 = .ok (.iadd, 1) := by decide +kernel
theorem dX12_keeps_119 : decode cX12_keeps 119 = .ok (.putfield 343, 3) := by decide +kernel
theorem dX12_keeps_122 : decode cX12_keeps 122 = .ok (.return_, 1) := by decide +kernel
theorem dX12_undo_0 : decode cX12_undo 0 = .ok (.aload_n 0, 1) := by decide +kernel
theorem dX12_undo_1 : decode cX12_undo 1 = .ok (.getfield 343, 3) := by decide +kernel
theorem dX12_undo_4 : decode cX12_undo 4 = .ok (.ifCond .ne 5, 3) := by decide +kernel
theorem dX12_undo_7 : decode cX12_undo 7 = .ok (.iconst 0, 1) := by decide +kernel
theorem dX12_undo_8 : decode cX12_undo 8 = .ok (.ireturn, 1) := by decide +kernel
theorem dX12_undo_9 : decode cX12_undo 9 = .ok (.iconst 0, 1) := by decide +kernel
theorem dX12_undo_10 : decode cX12_undo 10 = .ok (.istore_n 1, 1) := by decide +kernel
theorem dX12_undo_11 : decode cX12_undo 11 = .ok (.iload_n 1, 1) := by decide +kernel
theorem dX12_undo_12 : decode cX12_undo 12 = .ok (.aload_n 0, 1) := by decide +kernel
theorem dX12_undo_13 : decode cX12_undo 13 = .ok (.invokevirtual 349, 3) := by decide +kernel
theorem dX12_undo_16 : decode cX12_undo 16 = .ok (.if_icmp .ge 46, 3) := by decide +kernel
theorem dX12_undo_19 : decode cX12_undo 19 = .ok (.iconst 0, 1) := by decide +kernel
theorem dX12_undo_20 : decode cX12_undo 20 = .ok (.istore_n 2, 1) := by decide +kernel
theorem dX12_undo_21 : decode cX12_undo 21 = .ok (.iload_n 2, 1) := by decide +kernel
theorem dX12_undo_22 : decode cX12_undo 22 = .ok (.iconst 3, 1) := by decide +kernel
theorem dX12_undo_23 : decode cX12_undo 23 = .ok (.if_icmp .ge 33, 3) := by decide +kernel
theorem dX12_undo_26 : decode cX12_undo 26 = .ok (.aload_n 0, 1) := by decide +kernel
theorem dX12_undo_27 : decode cX12_undo 27 = .ok (.iload_n 1, 1) := by decide +kernel
theorem dX12_undo_28 : decode cX12_undo 28 = .ok (.iload_n 2, 1) := by decide +kernel
theorem dX12_undo_29 : decode cX12_undo 29 = .ok (.aload_n 0, 1) := by decide +kernel
theorem dX12_undo_30 : decode cX12_undo 30 = .ok (.getfield 116, 3) := by decide +kernel
theorem dX12_undo_33 : decode cX12_undo 33 = .ok (.bipush 33, 2) := by decide +kernel
theorem dX12_undo_35 : decode cX12_undo 35 = .ok (.aload_n 0, 1) := by decide +kernel
theorem dX12_undo_36 : decode cX12_undo 36 = .ok (.getfield 470, 3) := by decide +kernel
theorem dX12_undo_39 : decode cX12_undo 39 = .ok (.imul, 1) := by decide +kernel
theorem dX12_undo_40 : decode cX12_undo 40 = .ok (.iconst 3, 1) := by decide +kernel
theorem dX12_undo_41 : decode cX12_undo 41 = .ok (.iload_n 1, 1) := by decide +kernel
theorem dX12_undo_42 : decode cX12_undo 42 = .ok (.imul, 1) := by decide +kernel
theorem dX12_undo_43 : decode cX12_undo 43 = .ok (.iadd, 1) := by decide +kernel
theorem dX12_undo_44 : decode cX12_undo 44 = .ok (.iload_n 2, 1) := by decide +kernel
theorem dX12_undo_45 : decode cX12_undo 45 = .ok (.iadd, 1) := by decide +kernel
theorem dX12_undo_46 : decode cX12_undo 46 = .ok (.iaload, 1) := by decide +kernel
theorem dX12_undo_47 : decode cX12_undo 47 = .ok (.invokevirtual 473, 3) := by decide +kernel
theorem dX12_undo_50 : decode cX12_undo 50 = .ok (.iinc 2 1, 3) := by decide +kernel
theorem dX12_undo_53 : decode cX12_undo 53 = .ok (.goto (-32), 3) := by decide +kernel
theorem dX12_undo_56 : decode cX12_undo 56 = .ok (.iinc 1 1, 3) := by decide +kernel
theorem dX12_undo_59 : decode cX12_undo 59 = .ok (.goto (-48), 3) := by decide +kernel
theorem dX12_undo_62 : decode cX12_undo 62 = .ok (.iconst 0, 1) := by decide +kernel
theorem dX12_undo_63 : decode cX12_undo 63 = .ok (.istore_n 1, 1) := by decide +kernel
theorem dX12_undo_64 : decode cX12_undo 64 = .ok (.iload_n 1, 1) := by decide +kernel
theorem dX12_undo_65 : decode cX12_undo 65 = .ok (.bipush 6, 2) := by decide +kernel
theorem dX12_undo_67 : decode cX12_undo 67 = .ok (.if_icmp .ge 32, 3) := by decide +kernel
theorem dX12_undo_70 : decode cX12_undo 70 = .ok (.aload_n 0, 1) := by decide +kernel
theorem dX12_undo_71 : decode cX12_undo 71 = .ok (.getfield 92, 3) := by decide +kernel
theorem dX12_undo_74 : decode cX12_undo 74 = .ok (.iload_n 1, 1) := by decide +kernel
theorem dX12_undo_75 : decode cX12_undo 75 = .ok (.aload_n 0, 1) := by decide +kernel
theorem dX12_undo_76 : decode cX12_undo 76 = .ok (.getfield 116, 3) := by decide +kernel
theorem dX12_undo_79 : decode cX12_undo 79 = .ok (.bipush 33, 2) := by decide +kernel
theorem dX12_undo_81 : decode cX12_undo 81 = .ok (.aload_n 0, 1) := by decide +kernel
theorem dX12_undo_82 : decode cX12_undo 82 = .ok (.getfield 470, 3) := by decide +kernel
theorem dX12_undo_85 : decode cX12_undo 85 = .ok (.imul, 1) := by decide +kernel
theorem dX12_undo_86 : decode cX12_undo 86 = .ok (.bipush 27, 2) := by decide +kernel
theorem dX12_undo_88 : decode cX12_undo 88 = .ok (.iadd, 1) := by decide +kernel
theorem dX12_undo_89 : decode cX12_undo 89 = .ok (.iload_n 1, 1) := by decide +kernel
theorem dX12_undo_90 : decode cX12_undo 90 = .ok (.iadd, 1) := by decide +kernel
theorem dX12_undo_91 : decode cX12_undo 91 = .ok (.iaload, 1) := by decide +kernel
theorem dX12_undo_92 : decode cX12_undo 92 = .ok (.iastore, 1) := by decide +kernel
theorem dX12_undo_93 : decode cX12_undo 93 = .ok (.iinc 1 1, 3) := by decide +kernel
theorem dX12_undo_96 : decode cX12_undo 96 = .ok (.goto (-32), 3) := by decide +kernel
theorem dX12_undo_99 : decode cX12_undo 99 = .ok (.aload_n 0, 1) := by decide +kernel
theorem dX12_undo_100 : decode cX12_undo 100 = .ok (.aload_n 0, 1) := by decide +kernel
theorem dX12_undo_101 : decode cX12_undo 101 = .ok (.getfield 470, 3) := by decide +kernel
theorem dX12_undo_104 : decode cX12_undo 104 = .ok (.bipush 20, 2) := by decide +kernel
theorem dX12_undo_106 : decode cX12_undo 106 = .ok (.iadd, 1) := by decide +kernel
theorem dX12_undo_107 : decode cX12_undo 107 = .ok (.iconst 1, 1) := by decide +kernel
theorem dX12_undo_108 : decode cX12_undo 108 = .ok (.isub, 1) := by decide +kernel
theorem dX12_undo_109 : decode cX12_undo 109 = .ok (.bipush 20, 2) := by decide +kernel
theorem dX12_undo_111 : decode cX12_undo 111 = .ok (.irem, 1) := by decide +kernel
theorem dX12_undo_112 : decode cX12_undo 112 = .ok (.putfield 470, 3) := by decide +kernel
theorem dX12_undo_115 : decode cX12_undo 115 = .ok (.aload_n 0, 1) := by decide +kernel
theorem dX12_undo_116 : decode cX12_undo 116 = .ok (.dup, 1) := by decide +kernel
theorem dX12_undo_117 : decode cX12_undo 117 = .ok (.getfield 343, 3) := by decide +kernel
theorem dX12_undo_120 : decode cX12_undo 120 = .ok (.iconst 1, 1) := by decide +kernel
theorem dX12_undo_121 : decode cX12_undo 121 = .ok (.isub, 1) := by decide +kernel
theorem dX12_undo_122 : decode cX12_undo 122 = .ok (.putfield 343, 3) := by decide +kernel
theorem dX12_undo_125 : decode cX12_undo 125 = .ok (.iconst 1, 1) := by decide +kernel
theorem dX12_undo_126 : decode cX12_undo 126 = .ok (.ireturn, 1) := by decide +kernel
theorem dX12_set_0 : decode cX12_set 0 = .ok (.aload_n 0, 1) := by decide +kernel
theorem dX12_set_1 : decode cX12_set 1 = .ok (.iload_n 1, 1) := by decide +kernel
theorem dX12_set_2 : decode cX12_set 2 = .ok (.invokevirtual 352, 3) := by decide +kernel
theorem dX12_set_5 : decode cX12_set 5 = .ok (.ifCond .eq 15, 3) := by decide +kernel
theorem dX12_set_8 : decode cX12_set 8 = .ok (.iload_n 2, 1) := by decide +kernel
theorem dX12_set_9 : decode cX12_set 9 = .ok (.i2l, 1) := by decide +kernel
theorem dX12_set_10 : decode cX12_set 10 = .ok (.lconst 0, 1) := by decide +kernel
theorem dX12_set_11 : decode cX12_set 11 = .ok (.ldc2_w 437, 3) := by decide +kernel
theorem dX12_set_14 : decode cX12_set 14 = .ok (.invokestatic 244, 3) := by decide +kernel
theorem dX12_set_17 : decode cX12_set 17 = .ok (.ifCond .ne 5, 3) := by decide +kernel
theorem dX12_set_20 : decode cX12_set 20 = .ok (.iconst (-1), 1) := by decide +kernel
theorem dX12_set_21 : decode cX12_set 21 = .ok (.ireturn, 1) := by decide +kernel
theorem dX12_set_22 : decode cX12_set 22 = .ok (.iload_n 2, 1) := by decide +kernel
theorem dX12_set_23 : decode cX12_set 23 = .ok (.ifCond .ne 15, 3) := by decide +kernel
theorem dX12_set_26 : decode cX12_set 26 = .ok (.iload_n 3, 1) := by decide +kernel
theorem dX12_set_27 : decode cX12_set 27 = .ok (.i2l, 1) := by decide +kernel
theorem dX12_set_28 : decode cX12_set 28 = .ok (.lconst 0, 1) := by decide +kernel
theorem dX12_set_29 : decode cX12_set 29 = .ok (.ldc2_w 477, 3) := by decide +kernel
theorem dX12_set_32 : decode cX12_set 32 = .ok (.invokestatic 244, 3) := by decide +kernel
theorem dX12_set_35 : decode cX12_set 35 = .ok (.goto 41, 3) := by decide +kernel
theorem dX12_set_38 : decode cX12_set 38 = .ok (.iload_n 2, 1) := by decide +kernel
theorem dX12_set_39 : decode cX12_set 39 = .ok (.iconst 1, 1) := by decide +kernel
theorem dX12_set_40 : decode cX12_set 40 = .ok (.if_icmp .ne 15, 3) := by decide +kernel
theorem dX12_set_43 : decode cX12_set 43 = .ok (.iload_n 3, 1) := by decide +kernel
theorem dX12_set_44 : decode cX12_set 44 = .ok (.i2l, 1) := by decide +kernel
theorem dX12_set_45 : decode cX12_set 45 = .ok (.lconst 0, 1) := by decide +kernel
theorem dX12_set_46 : decode cX12_set 46 = .ok (.ldc2_w 479, 3) := by decide +kernel
theorem dX12_set_49 : decode cX12_set 49 = .ok (.invokestatic 244, 3) := by decide +kernel
theorem dX12_set_52 : decode cX12_set 52 = .ok (.goto 24, 3) := by decide +kernel
theorem dX12_set_55 : decode cX12_set 55 = .ok (.aload_n 0, 1) := by decide +kernel
theorem dX12_set_56 : decode cX12_set 56 = .ok (.iload_n 3, 1) := by decide +kernel
theorem dX12_set_57 : decode cX12_set 57 = .ok (.invokevirtual 481, 3) := by decide +kernel
theorem dX12_set_60 : decode cX12_set 60 = .ok (.ifCond .eq 15, 3) := by decide +kernel
theorem dX12_set_63 : decode cX12_set 63 = .ok (.aload_n 0, 1) := by decide +kernel
theorem dX12_set_64 : decode cX12_set 64 = .ok (.iload_n 3, 1) := by decide +kernel
theorem dX12_set_65 : decode cX12_set 65 = .ok (.invokevirtual 355, 3) := by decide +kernel
theorem dX12_set_68 : decode cX12_set 68 = .ok (.ifCond .ne 7, 3) := by decide +kernel
theorem dX12_set_71 : decode cX12_set 71 = .ok (.iconst 1, 1) := by decide +kernel
theorem dX12_set_72 : decode cX12_set 72 = .ok (.goto 4, 3) := by decide +kernel
theorem dX12_set_75 : decode cX12_set 75 = .ok (.iconst 0, 1) := by decide +kernel
theorem dX12_set_76 : decode cX12_set 76 = .ok (.istore 4, 2) := by decide +kernel
theorem dX12_set_78 : decode cX12_set 78 = .ok (.iload 4, 2) := by decide +kernel
theorem dX12_set_80 : decode cX12_set 80 = .ok (.ifCond .ne 5, 3) := by decide +kernel
theorem dX12_set_83 : decode cX12_set 83 = .ok (.iconst (-1), 1) := by decide +kernel
theorem dX12_set_84 : decode cX12_set 84 = .ok (.ireturn, 1) := by decide +kernel
theorem dX12_set_85 : decode cX12_set 85 = .ok (.aload_n 0, 1) := by decide +kernel
theorem dX12_set_86 : decode cX12_set 86 = .ok (.invokevirtual 484, 3) := by decide +kernel
theorem dX12_set_89 : decode cX12_set 89 = .ok (.iload_n 2, 1) := by decide +kernel
theorem dX12_set_90 : decode cX12_set 90 = .ok (.ifCond .ne 7, 3) := by decide +kernel
theorem dX12_set_93 : decode cX12_set 93 = .ok (.iconst 1, 1) := by decide +kernel
theorem dX12_set_94 : decode cX12_set 94 = .ok (.goto 13, 3) := by decide +kernel
theorem dX12_set_97 : decode cX12_set 97 = .ok (.iload_n 2, 1) := by decide +kernel
theorem dX12_set_98 : decode cX12_set 98 = .ok (.iconst 1, 1) := by decide +kernel
theorem dX12_set_99 : decode cX12_set 99 = .ok (.if_icmp .ne 7, 3) := by decide +kernel
theorem dX12_set_102 : decode cX12_set 102 = .ok (.iconst 2, 1) := by decide +kernel
theorem dX12_set_103 : decode cX12_set 103 = .ok (.goto 4, 3) := by decide +kernel
theorem dX12_set_106 : decode cX12_set 106 = .ok (.iconst 0, 1) := by decide +kernel
theorem dX12_set_107 : decode cX12_set 107 = .ok (.istore 5, 2) := by decide +kernel
theorem dX12_set_109 : decode cX12_set 109 = .ok (.aload_n 0, 1) := by decide +kernel
theorem dX12_set_110 : decode cX12_set 110 = .ok (.iload_n 1, 1) := by decide +kernel
theorem dX12_set_111 : decode cX12_set 111 = .ok (.iload 5, 2) := by decide +kernel
theorem dX12_set_113 : decode cX12_set 113 = .ok (.invokevirtual 373, 3) := by decide +kernel
theorem dX12_set_116 : decode cX12_set 116 = .ok (.istore 6, 2) := by decide +kernel
theorem dX12_set_118 : decode cX12_set 118 = .ok (.aload_n 0, 1) := by decide +kernel
theorem dX12_set_119 : decode cX12_set 119 = .ok (.iload_n 1, 1) := by decide +kernel
theorem dX12_set_120 : decode cX12_set 120 = .ok (.iload 5, 2) := by decide +kernel
theorem dX12_set_122 : decode cX12_set 122 = .ok (.iload_n 2, 1) := by decide +kernel
theorem dX12_set_123 : decode cX12_set 123 = .ok (.ifCond .ne 10, 3) := by decide +kernel
theorem dX12_set_126 : decode cX12_set 126 = .ok (.iload_n 3, 1) := by decide +kernel
theorem dX12_set_127 : decode cX12_set 127 = .ok (.bipush 60, 2) := by decide +kernel
theorem dX12_set_129 : decode cX12_set 129 = .ok (.isub, 1) := by decide +kernel
theorem dX12_set_130 : decode cX12_set 130 = .ok (.goto 4, 3) := by decide +kernel
theorem dX12_set_133 : decode cX12_set 133 = .ok (.iload_n 3, 1) := by decide +kernel
theorem dX12_set_134 : decode cX12_set 134 = .ok (.invokevirtual 473, 3) := by decide +kernel
theorem dX12_set_137 : decode cX12_set 137 = .ok (.iload_n 2, 1) := by decide +kernel
theorem dX12_set_138 : decode cX12_set 138 = .ok (.ifCond .ne 11, 3) := by decide +kernel
theorem dX12_set_141 : decode cX12_set 141 = .ok (.iload 6, 2) := by decide +kernel
theorem dX12_set_143 : decode cX12_set 143 = .ok (.bipush 60, 2) := by decide +kernel
theorem dX12_set_145 : decode cX12_set 145 = .ok (.iadd, 1) := by decide +kernel
theorem dX12_set_146 : decode cX12_set 146 = .ok (.goto 5, 3) := by decide +kernel
theorem dX12_set_149 : decode cX12_set 149 = .ok (.iload 6, 2) := by decide +kernel
theorem dX12_set_151 : decode cX12_set 151 = .ok (.ireturn, 1) := by decide +kernel
theorem dX12_close_0 : decode cX12_close 0 = .ok (.iload_n 1, 1) := by decide +kernel
theorem dX12_close_1 : decode cX12_close 1 = .ok (.i2l, 1) := by decide +kernel
theorem dX12_close_2 : decode cX12_close 2 = .ok (.lconst 0, 1) := by decide +kernel
theorem dX12_close_3 : decode cX12_close 3 = .ok (.aload_n 0, 1) := by decide +kernel
theorem dX12_close_4 : decode cX12_close 4 = .ok (.invokevirtual 361, 3) := by decide +kernel
theorem dX12_close_7 : decode cX12_close 7 = .ok (.iconst 1, 1) := by decide +kernel
theorem dX12_close_8 : decode cX12_close 8 = .ok (.isub, 1) := by decide +kernel
theorem dX12_close_9 : decode cX12_close 9 = .ok (.i2l, 1) := by decide +kernel
theorem dX12_close_10 : decode cX12_close 10 = .ok (.invokestatic 244, 3) := by decide +kernel
theorem dX12_close_13 : decode cX12_close 13 = .ok (.ifCond .eq 22, 3) := by decide +kernel
theorem dX12_close_16 : decode cX12_close 16 = .ok (.aload_n 0, 1) := by decide +kernel
theorem dX12_close_17 : decode cX12_close 17 = .ok (.getfield 92, 3) := by decide +kernel
theorem dX12_close_20 : decode cX12_close 20 = .ok (.iload_n 1, 1) := by decide +kernel
theorem dX12_close_21 : decode cX12_close 21 = .ok (.iaload, 1) := by decide +kernel
theorem dX12_close_22 : decode cX12_close 22 = .ok (.iconst 1, 1) := by decide +kernel
theorem dX12_close_23 : decode cX12_close 23 = .ok (.if_icmp .ne 7, 3) := by decide +kernel
theorem dX12_close_26 : decode cX12_close 26 = .ok (.iconst 1, 1) := by decide +kernel
theorem dX12_close_27 : decode cX12_close 27 = .ok (.goto 4, 3) := by decide +kernel
theorem dX12_close_30 : decode cX12_close 30 = .ok (.iconst 0, 1) := by decide +kernel
theorem dX12_close_31 : decode cX12_close 31 = .ok (.iload_n 2, 1) := by decide +kernel
theorem dX12_close_32 : decode cX12_close 32 = .ok (.if_icmp .ne 5, 3) := by decide +kernel
theorem dX12_close_35 : decode cX12_close 35 = .ok (.iconst 0, 1) := by decide +kernel
theorem dX12_close_36 : decode cX12_close 36 = .ok (.ireturn, 1) := by decide +kernel
theorem dX12_close_37 : decode cX12_close 37 = .ok (.aload_n 0, 1) := by decide +kernel
theorem dX12_close_38 : decode cX12_close 38 = .ok (.invokevirtual 484, 3) := by decide +kernel
theorem dX12_close_41 : decode cX12_close 41 = .ok (.aload_n 0, 1) := by decide +kernel
theorem dX12_close_42 : decode cX12_close 42 = .ok (.getfield 92, 3) := by decide +kernel
theorem dX12_close_45 : decode cX12_close 45 = .ok (.iload_n 1, 1) := by decide +kernel
theorem dX12_close_46 : decode cX12_close 46 = .ok (.iload_n 2, 1) := by decide +kernel
theorem dX12_close_47 : decode cX12_close 47 = .ok (.ifCond .eq 7, 3) := by decide +kernel
theorem dX12_close_50 : decode cX12_close 50 = .ok (.iconst 1, 1) := by decide +kernel
theorem dX12_close_51 : decode cX12_close 51 = .ok (.goto 4, 3) := by decide +kernel
theorem dX12_close_54 : decode cX12_close 54 = .ok (.iconst 0, 1) := by decide +kernel
theorem dX12_close_55 : decode cX12_close 55 = .ok (.iastore, 1) := by decide +kernel
theorem dX12_close_56 : decode cX12_close 56 = .ok (.iconst 1, 1) := by decide +kernel
theorem dX12_close_57 : decode cX12_close 57 = .ok (.ireturn, 1) := by decide +kernel
theorem dX12_come_0 : decode cX12_come 0 = .ok (.iload_n 1, 1) := by decide +kernel
theorem dX12_come_1 : decode cX12_come 1 = .ok (.i2l, 1) := by decide +kernel
theorem dX12_come_2 : decode cX12_come 2 = .ok (.lconst 0, 1) := by decide +kernel
theorem dX12_come_3 : decode cX12_come 3 = .ok (.iconst 1, 1) := by decide +kernel
theorem dX12_come_4 : decode cX12_come 4 = .ok (.aload_n 0, 1) := by decide +kernel
theorem dX12_come_5 : decode cX12_come 5 = .ok (.invokevirtual 349, 3) := by decide +kernel
theorem dX12_come_8 : decode cX12_come 8 = .ok (.ishl, 1) := by decide +kernel
theorem dX12_come_9 : decode cX12_come 9 = .ok (.iconst 1, 1) := by decide +kernel
theorem dX12_come_10 : decode cX12_come 10 = .ok (.isub, 1) := by decide +kernel
theorem dX12_come_11 : decode cX12_come 11 = .ok (.i2l, 1) := by decide +kernel
theorem dX12_come_12 : decode cX12_come 12 = .ok (.invokestatic 244, 3) := by decide +kernel
theorem dX12_come_15 : decode cX12_come 15 = .ok (.ifCond .ne 5, 3) := by decide +kernel
theorem dX12_come_18 : decode cX12_come 18 = .ok (.iconst 0, 1) := by decide +kernel
theorem dX12_come_19 : decode cX12_come 19 = .ok (.ireturn, 1) := by decide +kernel
theorem dX12_come_20 : decode cX12_come 20 = .ok (.aload_n 0, 1) := by decide +kernel
theorem dX12_come_21 : decode cX12_come 21 = .ok (.iload_n 1, 1) := by decide +kernel
theorem dX12_come_22 : decode cX12_come 22 = .ok (.putfield 340, 3) := by decide +kernel
theorem dX12_come_25 : decode cX12_come 25 = .ok (.iconst 1, 1) := by decide +kernel
theorem dX12_come_26 : decode cX12_come 26 = .ok (.ireturn, 1) := by decide +kernel
theorem dX12_seed_0 : decode cX12_seed 0 = .ok (.iload_n 1, 1) := by decide +kernel
theorem dX12_seed_1 : decode cX12_seed 1 = .ok (.ifCond .ge 5, 3) := by decide +kernel
theorem dX12_seed_4 : decode cX12_seed 4 = .ok (.iconst 0, 1) := by decide +kernel
theorem dX12_seed_5 : decode cX12_seed 5 = .ok (.ireturn, 1) := by decide +kernel
theorem dX12_seed_6 : decode cX12_seed 6 = .ok (.aload_n 0, 1) := by decide +kernel
theorem dX12_seed_7 : decode cX12_seed 7 = .ok (.iload_n 1, 1) := by decide +kernel
theorem dX12_seed_8 : decode cX12_seed 8 = .ok (.i2l, 1) := by decide +kernel
theorem dX12_seed_9 : decode cX12_seed 9 = .ok (.putfield 119, 3) := by decide +kernel
theorem dX12_seed_12 : decode cX12_seed 12 = .ok (.iconst 1, 1) := by decide +kernel
theorem dX12_seed_13 : decode cX12_seed 13 = .ok (.ireturn, 1) := by decide +kernel
theorem dX12_drawOf_0 : decode cX12_drawOf 0 = .ok (.aload_n 0, 1) := by decide +kernel
theorem dX12_drawOf_1 : decode cX12_drawOf 1 = .ok (.ldc2_w 487, 3) := by decide +kernel
theorem dX12_drawOf_4 : decode cX12_drawOf 4 = .ok (.aload_n 0, 1) := by decide +kernel
theorem dX12_drawOf_5 : decode cX12_drawOf 5 = .ok (.getfield 119, 3) := by decide +kernel
theorem dX12_drawOf_8 : decode cX12_drawOf 8 = .ok (.lmul, 1) := by decide +kernel
theorem dX12_drawOf_9 : decode cX12_drawOf 9 = .ok (.ldc2_w 489, 3) := by decide +kernel
theorem dX12_drawOf_12 : decode cX12_drawOf 12 = .ok (.ladd, 1) := by decide +kernel
theorem dX12_drawOf_13 : decode cX12_drawOf 13 = .ok (.ldc2_w 491, 3) := by decide +kernel
theorem dX12_drawOf_16 : decode cX12_drawOf 16 = .ok (.lrem, 1) := by decide +kernel
theorem dX12_drawOf_17 : decode cX12_drawOf 17 = .ok (.putfield 119, 3) := by decide +kernel
theorem dX12_drawOf_20 : decode cX12_drawOf 20 = .ok (.aload_n 0, 1) := by decide +kernel
theorem dX12_drawOf_21 : decode cX12_drawOf 21 = .ok (.getfield 119, 3) := by decide +kernel
theorem dX12_drawOf_24 : decode cX12_drawOf 24 = .ok (.ldc2_w 493, 3) := by decide +kernel
theorem dX12_drawOf_27 : decode cX12_drawOf 27 = .ok (.ldiv, 1) := by decide +kernel
theorem dX12_drawOf_28 : decode cX12_drawOf 28 = .ok (.iload_n 1, 1) := by decide +kernel
theorem dX12_drawOf_29 : decode cX12_drawOf 29 = .ok (.i2l, 1) := by decide +kernel
theorem dX12_drawOf_30 : decode cX12_drawOf 30 = .ok (.lrem, 1) := by decide +kernel
theorem dX12_drawOf_31 : decode cX12_drawOf 31 = .ok (.l2i, 1) := by decide +kernel
theorem dX12_drawOf_32 : decode cX12_drawOf 32 = .ok (.ireturn, 1) := by decide +kernel
theorem dX12_lot_0 : decode cX12_lot 0 = .ok (.aload_n 0, 1) := by decide +kernel
theorem dX12_lot_1 : decode cX12_lot 1 = .ok (.iconst 0, 1) := by decide +kernel
theorem dX12_lot_2 : decode cX12_lot 2 = .ok (.putfield 340, 3) := by decide +kernel
theorem dX12_lot_5 : decode cX12_lot 5 = .ok (.iconst 0, 1) := by decide +kernel
theorem dX12_lot_6 : decode cX12_lot 6 = .ok (.istore_n 1, 1) := by decide +kernel
theorem dX12_lot_7 : decode cX12_lot 7 = .ok (.iload_n 1, 1) := by decide +kernel
theorem dX12_lot_8 : decode cX12_lot 8 = .ok (.aload_n 0, 1) := by decide +kernel
theorem dX12_lot_9 : decode cX12_lot 9 = .ok (.invokevirtual 349, 3) := by decide +kernel
theorem dX12_lot_12 : decode cX12_lot 12 = .ok (.if_icmp .ge 35, 3) := by decide +kernel
theorem dX12_lot_15 : decode cX12_lot 15 = .ok (.aload_n 0, 1) := by decide +kernel
theorem dX12_lot_16 : decode cX12_lot 16 = .ok (.iconst 4, 1) := by decide +kernel
theorem dX12_lot_17 : decode cX12_lot 17 = .ok (.invokevirtual 495, 3) := by decide +kernel
theorem dX12_lot_20 : decode cX12_lot 20 = .ok (.aload_n 0, 1) := by decide +kernel
theorem dX12_lot_21 : decode cX12_lot 21 = .ok (.iload_n 1, 1) := by decide +kernel
theorem dX12_lot_22 : decode cX12_lot 22 = .ok (.iconst 3, 1) := by decide +kernel
theorem dX12_lot_23 : decode cX12_lot 23 = .ok (.invokevirtual 373, 3) := by decide +kernel
theorem dX12_lot_26 : decode cX12_lot 26 = .ok (.if_icmp .ge 15, 3) := by decide +kernel
theorem dX12_lot_29 : decode cX12_lot 29 = .ok (.aload_n 0, 1) := by decide +kernel
theorem dX12_lot_30 : decode cX12_lot 30 = .ok (.dup, 1) := by decide +kernel
theorem dX12_lot_31 : decode cX12_lot 31 = .ok (.getfield 340, 3) := by decide +kernel
theorem dX12_lot_34 : decode cX12_lot 34 = .ok (.iconst 1, 1) := by decide +kernel
theorem dX12_lot_35 : decode cX12_lot 35 = .ok (.iload_n 1, 1) := by decide +kernel
theorem dX12_lot_36 : decode cX12_lot 36 = .ok (.ishl, 1) := by decide +kernel
theorem dX12_lot_37 : decode cX12_lot 37 = .ok (.ior, 1) := by decide +kernel
theorem dX12_lot_38 : decode cX12_lot 38 = .ok (.putfield 340, 3) := by decide +kernel
theorem dX12_lot_41 : decode cX12_lot 41 = .ok (.iinc 1 1, 3) := by decide +kernel
theorem dX12_lot_44 : decode cX12_lot 44 = .ok (.goto (-37), 3) := by decide +kernel
theorem dX12_lot_47 : decode cX12_lot 47 = .ok (.aload_n 0, 1) := by decide +kernel
theorem dX12_lot_48 : decode cX12_lot 48 = .ok (.getfield 340, 3) := by decide +kernel
theorem dX12_lot_51 : decode cX12_lot 51 = .ok (.ireturn, 1) := by decide +kernel
theorem dX12_doesComeOff_0 : decode cX12_doesComeOff 0 = .ok (.aload_n 0, 1) := by decide +kernel
theorem dX12_doesComeOff_1 : decode cX12_doesComeOff 1 = .ok (.invokevirtual 441, 3) := by decide +kernel
theorem dX12_doesComeOff_4 : decode cX12_doesComeOff 4 = .ok (.aload_n 0, 1) := by decide +kernel
theorem dX12_doesComeOff_5 : decode cX12_doesComeOff 5 = .ok (.invokevirtual 458, 3) := by decide +kernel
theorem dX12_doesComeOff_8 : decode cX12_doesComeOff 8 = .ok (.iconst (-1), 1) := by decide +kernel
theorem dX12_doesComeOff_9 : decode cX12_doesComeOff 9 = .ok (.if_icmp .eq 7, 3) := by decide +kernel
theorem dX12_doesComeOff_12 : decode cX12_doesComeOff 12 = .ok (.iconst 1, 1) := by decide +kernel
theorem dX12_doesComeOff_13 : decode cX12_doesComeOff 13 = .ok (.goto 4, 3) := by decide +kernel
theorem dX12_doesComeOff_16 : decode cX12_doesComeOff 16 = .ok (.iconst 0, 1) := by decide +kernel
theorem dX12_doesComeOff_17 : decode cX12_doesComeOff 17 = .ok (.ireturn, 1) := by decide +kernel
theorem dX12_odds_0 : decode cX12_odds 0 = .ok (.aload_n 0, 1) := by decide +kernel
theorem dX12_odds_1 : decode cX12_odds 1 = .ok (.getfield 334, 3) := by decide +kernel
theorem dX12_odds_4 : decode cX12_odds 4 = .ok (.ifCond .ne 5, 3) := by decide +kernel
theorem dX12_odds_7 : decode cX12_odds 7 = .ok (.iconst (-1), 1) := by decide +kernel
theorem dX12_odds_8 : decode cX12_odds 8 = .ok (.ireturn, 1) := by decide +kernel
theorem dX12_odds_9 : decode cX12_odds 9 = .ok (.aload_n 0, 1) := by decide +kernel
theorem dX12_odds_10 : decode cX12_odds 10 = .ok (.getfield 340, 3) := by decide +kernel
theorem dX12_odds_13 : decode cX12_odds 13 = .ok (.istore_n 1, 1) := by decide +kernel
theorem dX12_odds_14 : decode cX12_odds 14 = .ok (.lconst 0, 1) := by decide +kernel
theorem dX12_odds_15 : decode cX12_odds 15 = .ok (.lstore_n 2, 1) := by decide +kernel
theorem dX12_odds_16 : decode cX12_odds 16 = .ok (.lconst 1, 1) := by decide +kernel
theorem dX12_odds_17 : decode cX12_odds 17 = .ok (.lstore 4, 2) := by decide +kernel
theorem dX12_odds_19 : decode cX12_odds 19 = .ok (.iconst 0, 1) := by decide +kernel
theorem dX12_odds_20 : decode cX12_odds 20 = .ok (.istore 6, 2) := by decide +kernel
theorem dX12_odds_22 : decode cX12_odds 22 = .ok (.iload 6, 2) := by decide +kernel
theorem dX12_odds_24 : decode cX12_odds 24 = .ok (.aload_n 0, 1) := by decide +kernel
theorem dX12_odds_25 : decode cX12_odds 25 = .ok (.invokevirtual 349, 3) := by decide +kernel
theorem dX12_odds_28 : decode cX12_odds 28 = .ok (.if_icmp .ge 17, 3) := by decide +kernel
theorem dX12_odds_31 : decode cX12_odds 31 = .ok (.lload 4, 2) := by decide +kernel
theorem dX12_odds_33 : decode cX12_odds 33 = .ok (.ldc2_w 498, 3) := by decide +kernel
theorem dX12_odds_36 : decode cX12_odds 36 = .ok (.lmul, 1) := by decide +kernel
theorem dX12_odds_37 : decode cX12_odds 37 = .ok (.lstore 4, 2) := by decide +kernel
theorem dX12_odds_39 : decode cX12_odds 39 = .ok (.iinc 6 1, 3) := by decide +kernel
theorem dX12_odds_42 : decode cX12_odds 42 = .ok (.goto (-20), 3) := by decide +kernel
theorem dX12_odds_45 : decode cX12_odds 45 = .ok (.iconst 0, 1) := by decide +kernel
theorem dX12_odds_46 : decode cX12_odds 46 = .ok (.istore 6, 2) := by decide +kernel
theorem dX12_odds_48 : decode cX12_odds 48 = .ok (.iload 6, 2) := by decide +kernel
theorem dX12_odds_50 : decode cX12_odds 50 = .ok (.iconst 1, 1) := by decide +kernel
theorem dX12_odds_51 : decode cX12_odds 51 = .ok (.aload_n 0, 1) := by decide +kernel
theorem dX12_odds_52 : decode cX12_odds 52 = .ok (.invokevirtual 349, 3) := by decide +kernel
theorem dX12_odds_55 : decode cX12_odds 55 = .ok (.ishl, 1) := by decide +kernel
theorem dX12_odds_56 : decode cX12_odds 56 = .ok (.if_icmp .ge 92, 3) := by decide +kernel
theorem dX12_odds_59 : decode cX12_odds 59 = .ok (.lconst 1, 1) := by decide +kernel
theorem dX12_odds_60 : decode cX12_odds 60 = .ok (.lstore 7, 2) := by decide +kernel
theorem dX12_odds_62 : decode cX12_odds 62 = .ok (.iconst 0, 1) := by decide +kernel
theorem dX12_odds_63 : decode cX12_odds 63 = .ok (.istore 9, 2) := by decide +kernel
theorem dX12_odds_65 : decode cX12_odds 65 = .ok (.iload 9, 2) := by decide +kernel
theorem dX12_odds_67 : decode cX12_odds 67 = .ok (.aload_n 0, 1) := by decide +kernel
theorem dX12_odds_68 : decode cX12_odds 68 = .ok (.invokevirtual 349, 3) := by decide +kernel
theorem dX12_odds_71 : decode cX12_odds 71 = .ok (.if_icmp .ge 46, 3) := by decide +kernel
theorem dX12_odds_74 : decode cX12_odds 74 = .ok (.lload 7, 2) := by decide +kernel
theorem dX12_odds_76 : decode cX12_odds 76 = .ok (.iload 6, 2) := by decide +kernel
theorem dX12_odds_78 : decode cX12_odds 78 = .ok (.iload 9, 2) := by decide +kernel
theorem dX12_odds_80 : decode cX12_odds 80 = .ok (.ishr, 1) := by decide +kernel
theorem dX12_odds_81 : decode cX12_odds 81 = .ok (.iconst 1, 1) := by decide +kernel
theorem dX12_odds_82 : decode cX12_odds 82 = .ok (.iand, 1) := by decide +kernel
theorem dX12_odds_83 : decode cX12_odds 83 = .ok (.iconst 1, 1) := by decide +kernel
theorem dX12_odds_84 : decode cX12_odds 84 = .ok (.if_icmp .ne 14, 3) := by decide +kernel
theorem dX12_odds_87 : decode cX12_odds 87 = .ok (.aload_n 0, 1) := by decide +kernel
theorem dX12_odds_88 : decode cX12_odds 88 = .ok (.iload 9, 2) := by decide +kernel
theorem dX12_odds_90 : decode cX12_odds 90 = .ok (.iconst 3, 1) := by decide +kernel
theorem dX12_odds_91 : decode cX12_odds 91 = .ok (.invokevirtual 373, 3) := by decide +kernel
theorem dX12_odds_94 : decode cX12_odds 94 = .ok (.i2l, 1) := by decide +kernel
theorem dX12_odds_95 : decode cX12_odds 95 = .ok (.goto 13, 3) := by decide +kernel
theorem dX12_odds_98 : decode cX12_odds 98 = .ok (.iconst 4, 1) := by decide +kernel
theorem dX12_odds_99 : decode cX12_odds 99 = .ok (.aload_n 0, 1) := by decide +kernel
theorem dX12_odds_100 : decode cX12_odds 100 = .ok (.iload 9, 2) := by decide +kernel
theorem dX12_odds_102 : decode cX12_odds 102 = .ok (.iconst 3, 1) := by decide +kernel
theorem dX12_odds_103 : decode cX12_odds 103 = .ok (.invokevirtual 373, 3) := by decide +kernel
theorem dX12_odds_106 : decode cX12_odds 106 = .ok (.isub, 1) := by decide +kernel
theorem dX12_odds_107 : decode cX12_odds 107 = .ok (.i2l, 1) := by decide +kernel
theorem dX12_odds_108 : decode cX12_odds 108 = .ok (.lmul, 1) := by decide +kernel
theorem dX12_odds_109 : decode cX12_odds 109 = .ok (.lstore 7, 2) := by decide +kernel
theorem dX12_odds_111 : decode cX12_odds 111 = .ok (.iinc 9 1, 3) := by decide +kernel
theorem dX12_odds_114 : decode cX12_odds 114 = .ok (.goto (-49), 3) := by decide +kernel
theorem dX12_odds_117 : decode cX12_odds 117 = .ok (.aload_n 0, 1) := by decide +kernel
theorem dX12_odds_118 : decode cX12_odds 118 = .ok (.iload 6, 2) := by decide +kernel
theorem dX12_odds_120 : decode cX12_odds 120 = .ok (.putfield 340, 3) := by decide +kernel
theorem dX12_odds_123 : decode cX12_odds 123 = .ok (.lload 7, 2) := by decide +kernel
theorem dX12_odds_125 : decode cX12_odds 125 = .ok (.lconst 0, 1) := by decide +kernel
theorem dX12_odds_126 : decode cX12_odds 126 = .ok (.lcmp, 1) := by decide +kernel
theorem dX12_odds_127 : decode cX12_odds 127 = .ok (.ifCond .le 15, 3) := by decide +kernel
theorem dX12_odds_130 : decode cX12_odds 130 = .ok (.aload_n 0, 1) := by decide +kernel
theorem dX12_odds_131 : decode cX12_odds 131 = .ok (.invokevirtual 500, 3) := by decide +kernel
theorem dX12_odds_134 : decode cX12_odds 134 = .ok (.ifCond .eq 8, 3) := by decide +kernel
theorem dX12_odds_137 : decode cX12_odds 137 = .ok (.lload_n 2, 1) := by decide +kernel
theorem dX12_odds_138 : decode cX12_odds 138 = .ok (.lload 7, 2) := by decide +kernel
theorem dX12_odds_140 : decode cX12_odds 140 = .ok (.ladd, 1) := by decide +kernel
theorem dX12_odds_141 : decode cX12_odds 141 = .ok (.lstore_n 2, 1) := by decide +kernel
theorem dX12_odds_142 : decode cX12_odds 142 = .ok (.iinc 6 1, 3) := by decide +kernel
theorem dX12_odds_145 : decode cX12_odds 145 = .ok (.goto (-97), 3) := by decide +kernel
theorem dX12_odds_148 : decode cX12_odds 148 = .ok (.aload_n 0, 1) := by decide +kernel
theorem dX12_odds_149 : decode cX12_odds 149 = .ok (.iload_n 1, 1) := by decide +kernel
theorem dX12_odds_150 : decode cX12_odds 150 = .ok (.putfield 340, 3) := by decide +kernel
theorem dX12_odds_153 : decode cX12_odds 153 = .ok (.ldc2_w 503, 3) := by decide +kernel
theorem dX12_odds_156 : decode cX12_odds 156 = .ok (.lload_n 2, 1) := by decide +kernel
theorem dX12_odds_157 : decode cX12_odds 157 = .ok (.lmul, 1) := by decide +kernel
theorem dX12_odds_158 : decode cX12_odds 158 = .ok (.lload 4, 2) := by decide +kernel
theorem dX12_odds_160 : decode cX12_odds 160 = .ok (.ldiv, 1) := by decide +kernel
theorem dX12_odds_161 : decode cX12_odds 161 = .ok (.l2i, 1) := by decide +kernel
theorem dX12_odds_162 : decode cX12_odds 162 = .ok (.ireturn, 1) := by decide +kernel
theorem dX12_spark_0 : decode cX12_spark 0 = .ok (.aload_n 0, 1) := by decide +kernel
theorem dX12_spark_1 : decode cX12_spark 1 = .ok (.iload_n 1, 1) := by decide +kernel
theorem dX12_spark_2 : decode cX12_spark 2 = .ok (.invokevirtual 376, 3) := by decide +kernel
theorem dX12_spark_5 : decode cX12_spark 5 = .ok (.ifCond .eq 13, 3) := by decide +kernel
theorem dX12_spark_8 : decode cX12_spark 8 = .ok (.aload_n 0, 1) := by decide +kernel
theorem dX12_spark_9 : decode cX12_spark 9 = .ok (.iload_n 1, 1) := by decide +kernel
theorem dX12_spark_10 : decode cX12_spark 10 = .ok (.iconst 4, 1) := by decide +kernel
theorem dX12_spark_11 : decode cX12_spark 11 = .ok (.invokevirtual 373, 3) := by decide +kernel
theorem dX12_spark_14 : decode cX12_spark 14 = .ok (.iconst 1, 1) := by decide +kernel
theorem dX12_spark_15 : decode cX12_spark 15 = .ok (.if_icmp .ne 5, 3) := by decide +kernel
theorem dX12_spark_18 : decode cX12_spark 18 = .ok (.iconst (-1), 1) := by decide +kernel
theorem dX12_spark_19 : decode cX12_spark 19 = .ok (.ireturn, 1) := by decide +kernel
theorem dX12_spark_20 : decode cX12_spark 20 = .ok (.aload_n 0, 1) := by decide +kernel
theorem dX12_spark_21 : decode cX12_spark 21 = .ok (.iload_n 1, 1) := by decide +kernel
theorem dX12_spark_22 : decode cX12_spark 22 = .ok (.iconst 1, 1) := by decide +kernel
theorem dX12_spark_23 : decode cX12_spark 23 = .ok (.invokevirtual 373, 3) := by decide +kernel
theorem dX12_spark_26 : decode cX12_spark 26 = .ok (.istore_n 2, 1) := by decide +kernel
theorem dX12_spark_27 : decode cX12_spark 27 = .ok (.aload_n 0, 1) := by decide +kernel
theorem dX12_spark_28 : decode cX12_spark 28 = .ok (.iload_n 1, 1) := by decide +kernel
theorem dX12_spark_29 : decode cX12_spark 29 = .ok (.iconst 1, 1) := by decide +kernel
theorem dX12_spark_30 : decode cX12_spark 30 = .ok (.bipush (-60), 2) := by decide +kernel
theorem dX12_spark_32 : decode cX12_spark 32 = .ok (.invokevirtual 473, 3) := by decide +kernel
theorem dX12_spark_35 : decode cX12_spark 35 = .ok (.aload_n 0, 1) := by decide +kernel
theorem dX12_spark_36 : decode cX12_spark 36 = .ok (.invokevirtual 441, 3) := by decide +kernel
theorem dX12_spark_39 : decode cX12_spark 39 = .ok (.aload_n 0, 1) := by decide +kernel
theorem dX12_spark_40 : decode cX12_spark 40 = .ok (.invokevirtual 467, 3) := by decide +kernel
theorem dX12_spark_43 : decode cX12_spark 43 = .ok (.istore_n 3, 1) := by decide +kernel
theorem dX12_spark_44 : decode cX12_spark 44 = .ok (.aload_n 0, 1) := by decide +kernel
theorem dX12_spark_45 : decode cX12_spark 45 = .ok (.iload_n 1, 1) := by decide +kernel
theorem dX12_spark_46 : decode cX12_spark 46 = .ok (.iconst 1, 1) := by decide +kernel
theorem dX12_spark_47 : decode cX12_spark 47 = .ok (.iload_n 2, 1) := by decide +kernel
theorem dX12_spark_48 : decode cX12_spark 48 = .ok (.invokevirtual 473, 3) := by decide +kernel
theorem dX12_spark_51 : decode cX12_spark 51 = .ok (.iload_n 3, 1) := by decide +kernel
theorem dX12_spark_52 : decode cX12_spark 52 = .ok (.ireturn, 1) := by decide +kernel
theorem dX12_bits_0 : decode cX12_bits 0 = .ok (.iconst 0, 1) := by decide +kernel
theorem dX12_bits_1 : decode cX12_bits 1 = .ok (.istore_n 1, 1) := by decide +kernel
theorem dX12_bits_2 : decode cX12_bits 2 = .ok (.iload_n 0, 1) := by decide +kernel
theorem dX12_bits_3 : decode cX12_bits 3 = .ok (.istore_n 2, 1) := by decide +kernel
theorem dX12_bits_4 : decode cX12_bits 4 = .ok (.iload_n 2, 1) := by decide +kernel
theorem dX12_bits_5 : decode cX12_bits 5 = .ok (.ifCond .eq 15, 3) := by decide +kernel
theorem dX12_bits_8 : decode cX12_bits 8 = .ok (.iinc 1 1, 3) := by decide +kernel
theorem dX12_bits_11 : decode cX12_bits 11 = .ok (.iload_n 2, 1) := by decide +kernel
theorem dX12_bits_12 : decode cX12_bits 12 = .ok (.iload_n 2, 1) := by decide +kernel
theorem dX12_bits_13 : decode cX12_bits 13 = .ok (.iconst 1, 1) := by decide +kernel
theorem dX12_bits_14 : decode cX12_bits 14 = .ok (.isub, 1) := by decide +kernel
theorem dX12_bits_15 : decode cX12_bits 15 = .ok (.iand, 1) := by decide +kernel
theorem dX12_bits_16 : decode cX12_bits 16 = .ok (.istore_n 2, 1) := by decide +kernel
theorem dX12_bits_17 : decode cX12_bits 17 = .ok (.goto (-13), 3) := by decide +kernel
theorem dX12_bits_20 : decode cX12_bits 20 = .ok (.iload_n 1, 1) := by decide +kernel
theorem dX12_bits_21 : decode cX12_bits 21 = .ok (.ireturn, 1) := by decide +kernel
theorem dX12_dares_0 : decode cX12_dares 0 = .ok (.iconst 0, 1) := by decide +kernel
theorem dX12_dares_1 : decode cX12_dares 1 = .ok (.istore_n 2, 1) := by decide +kernel
theorem dX12_dares_2 : decode cX12_dares 2 = .ok (.iload_n 2, 1) := by decide +kernel
theorem dX12_dares_3 : decode cX12_dares 3 = .ok (.aload_n 0, 1) := by decide +kernel
theorem dX12_dares_4 : decode cX12_dares 4 = .ok (.invokevirtual 349, 3) := by decide +kernel
theorem dX12_dares_7 : decode cX12_dares 7 = .ok (.if_icmp .ge 34, 3) := by decide +kernel
theorem dX12_dares_10 : decode cX12_dares 10 = .ok (.aload_n 0, 1) := by decide +kernel
theorem dX12_dares_11 : decode cX12_dares 11 = .ok (.iload_n 2, 1) := by decide +kernel
theorem dX12_dares_12 : decode cX12_dares 12 = .ok (.iconst 2, 1) := by decide +kernel
theorem dX12_dares_13 : decode cX12_dares 13 = .ok (.iload_n 1, 1) := by decide +kernel
theorem dX12_dares_14 : decode cX12_dares 14 = .ok (.iload_n 2, 1) := by decide +kernel
theorem dX12_dares_15 : decode cX12_dares 15 = .ok (.ishr, 1) := by decide +kernel
theorem dX12_dares_16 : decode cX12_dares 16 = .ok (.iconst 1, 1) := by decide +kernel
theorem dX12_dares_17 : decode cX12_dares 17 = .ok (.iand, 1) := by decide +kernel
theorem dX12_dares_18 : decode cX12_dares 18 = .ok (.iconst 1, 1) := by decide +kernel
theorem dX12_dares_19 : decode cX12_dares 19 = .ok (.if_icmp .ne 7, 3) := by decide +kernel
theorem dX12_dares_22 : decode cX12_dares 22 = .ok (.iconst 1, 1) := by decide +kernel
theorem dX12_dares_23 : decode cX12_dares 23 = .ok (.goto 9, 3) := by decide +kernel
theorem dX12_dares_26 : decode cX12_dares 26 = .ok (.aload_n 0, 1) := by decide +kernel
theorem dX12_dares_27 : decode cX12_dares 27 = .ok (.getfield 123, 3) := by decide +kernel
theorem dX12_dares_30 : decode cX12_dares 30 = .ok (.iload_n 2, 1) := by decide +kernel
theorem dX12_dares_31 : decode cX12_dares 31 = .ok (.iaload, 1) := by decide +kernel
theorem dX12_dares_32 : decode cX12_dares 32 = .ok (.invokevirtual 473, 3) := by decide +kernel
theorem dX12_dares_35 : decode cX12_dares 35 = .ok (.iinc 2 1, 3) := by decide +kernel
theorem dX12_dares_38 : decode cX12_dares 38 = .ok (.goto (-36), 3) := by decide +kernel
theorem dX12_dares_41 : decode cX12_dares 41 = .ok (.return_, 1) := by decide +kernel
theorem dX12_daring_0 : decode cX12_daring 0 = .ok (.iload_n 1, 1) := by decide +kernel
theorem dX12_daring_1 : decode cX12_daring 1 = .ok (.i2l, 1) := by decide +kernel
theorem dX12_daring_2 : decode cX12_daring 2 = .ok (.lconst 0, 1) := by decide +kernel
theorem dX12_daring_3 : decode cX12_daring 3 = .ok (.lconst 1, 1) := by decide +kernel
theorem dX12_daring_4 : decode cX12_daring 4 = .ok (.invokestatic 244, 3) := by decide +kernel
theorem dX12_daring_7 : decode cX12_daring 7 = .ok (.ifCond .eq 10, 3) := by decide +kernel
theorem dX12_daring_10 : decode cX12_daring 10 = .ok (.aload_n 0, 1) := by decide +kernel
theorem dX12_daring_11 : decode cX12_daring 11 = .ok (.getfield 334, 3) := by decide +kernel
theorem dX12_daring_14 : decode cX12_daring 14 = .ok (.ifCond .ne 5, 3) := by decide +kernel
theorem dX12_daring_17 : decode cX12_daring 17 = .ok (.iconst (-1), 1) := by decide +kernel
theorem dX12_daring_18 : decode cX12_daring 18 = .ok (.ireturn, 1) := by decide +kernel
theorem dX12_daring_19 : decode cX12_daring 19 = .ok (.iconst 0, 1) := by decide +kernel
theorem dX12_daring_20 : decode cX12_daring 20 = .ok (.istore_n 2, 1) := by decide +kernel
theorem dX12_daring_21 : decode cX12_daring 21 = .ok (.iload_n 2, 1) := by decide +kernel
theorem dX12_daring_22 : decode cX12_daring 22 = .ok (.aload_n 0, 1) := by decide +kernel
theorem dX12_daring_23 : decode cX12_daring 23 = .ok (.invokevirtual 349, 3) := by decide +kernel
theorem dX12_daring_26 : decode cX12_daring 26 = .ok (.if_icmp .ge 21, 3) := by decide +kernel
theorem dX12_daring_29 : decode cX12_daring 29 = .ok (.aload_n 0, 1) := by decide +kernel
theorem dX12_daring_30 : decode cX12_daring 30 = .ok (.getfield 123, 3) := by decide +kernel
theorem dX12_daring_33 : decode cX12_daring 33 = .ok (.iload_n 2, 1) := by decide +kernel
theorem dX12_daring_34 : decode cX12_daring 34 = .ok (.aload_n 0, 1) := by decide +kernel
theorem dX12_daring_35 : decode cX12_daring 35 = .ok (.iload_n 2, 1) := by decide +kernel
theorem dX12_daring_36 : decode cX12_daring 36 = .ok (.iconst 2, 1) := by decide +kernel
theorem dX12_daring_37 : decode cX12_daring 37 = .ok (.invokevirtual 373, 3) := by decide +kernel
theorem dX12_daring_40 : decode cX12_daring 40 = .ok (.iastore, 1) := by decide +kernel
theorem dX12_daring_41 : decode cX12_daring 41 = .ok (.iinc 2 1, 3) := by decide +kernel
theorem dX12_daring_44 : decode cX12_daring 44 = .ok (.goto (-23), 3) := by decide +kernel
theorem dX12_daring_47 : decode cX12_daring 47 = .ok (.iconst (-1), 1) := by decide +kernel
theorem dX12_daring_48 : decode cX12_daring 48 = .ok (.istore_n 2, 1) := by decide +kernel
theorem dX12_daring_49 : decode cX12_daring 49 = .ok (.iconst 0, 1) := by decide +kernel
theorem dX12_daring_50 : decode cX12_daring 50 = .ok (.istore_n 3, 1) := by decide +kernel
theorem dX12_daring_51 : decode cX12_daring 51 = .ok (.iload_n 3, 1) := by decide +kernel
theorem dX12_daring_52 : decode cX12_daring 52 = .ok (.iconst 1, 1) := by decide +kernel
theorem dX12_daring_53 : decode cX12_daring 53 = .ok (.aload_n 0, 1) := by decide +kernel
theorem dX12_daring_54 : decode cX12_daring 54 = .ok (.invokevirtual 349, 3) := by decide +kernel
theorem dX12_daring_57 : decode cX12_daring 57 = .ok (.ishl, 1) := by decide +kernel
theorem dX12_daring_58 : decode cX12_daring 58 = .ok (.if_icmp .ge 53, 3) := by decide +kernel
theorem dX12_daring_61 : decode cX12_daring 61 = .ok (.iload_n 3, 1) := by decide +kernel
theorem dX12_daring_62 : decode cX12_daring 62 = .ok (.aload_n 0, 1) := by decide +kernel
theorem dX12_daring_63 : decode cX12_daring 63 = .ok (.getfield 340, 3) := by decide +kernel
theorem dX12_daring_66 : decode cX12_daring 66 = .ok (.iconst (-1), 1) := by decide +kernel
theorem dX12_daring_67 : decode cX12_daring 67 = .ok (.ixor, 1) := by decide +kernel
theorem dX12_daring_68 : decode cX12_daring 68 = .ok (.iand, 1) := by decide +kernel
theorem dX12_daring_69 : decode cX12_daring 69 = .ok (.ifCond .ne 36, 3) := by decide +kernel
theorem dX12_daring_72 : decode cX12_daring 72 = .ok (.iload_n 2, 1) := by decide +kernel
theorem dX12_daring_73 : decode cX12_daring 73 = .ok (.iconst (-1), 1) := by decide +kernel
theorem dX12_daring_74 : decode cX12_daring 74 = .ok (.if_icmp .eq 17, 3) := by decide +kernel
theorem dX12_daring_77 : decode cX12_daring 77 = .ok (.iload_n 3, 1) := by decide +kernel
theorem dX12_daring_78 : decode cX12_daring 78 = .ok (.invokestatic 505, 3) := by decide +kernel
theorem dX12_daring_81 : decode cX12_daring 81 = .ok (.iload_n 2, 1) := by decide +kernel
theorem dX12_daring_82 : decode cX12_daring 82 = .ok (.invokestatic 505, 3) := by decide +kernel
theorem dX12_daring_85 : decode cX12_daring 85 = .ok (.if_icmp .lt 6, 3) := by decide +kernel
theorem dX12_daring_88 : decode cX12_daring 88 = .ok (.goto 17, 3) := by decide +kernel
theorem dX12_daring_91 : decode cX12_daring 91 = .ok (.aload_n 0, 1) := by decide +kernel
theorem dX12_daring_92 : decode cX12_daring 92 = .ok (.iload_n 3, 1) := by decide +kernel
theorem dX12_daring_93 : decode cX12_daring 93 = .ok (.invokevirtual 508, 3) := by decide +kernel
theorem dX12_daring_96 : decode cX12_daring 96 = .ok (.aload_n 0, 1) := by decide +kernel
theorem dX12_daring_97 : decode cX12_daring 97 = .ok (.invokevirtual 500, 3) := by decide +kernel
theorem dX12_daring_100 : decode cX12_daring 100 = .ok (.ifCond .eq 5, 3) := by decide +kernel
theorem dX12_daring_103 : decode cX12_daring 103 = .ok (.iload_n 3, 1) := by decide +kernel
theorem dX12_daring_104 : decode cX12_daring 104 = .ok (.istore_n 2, 1) := by decide +kernel
theorem dX12_daring_105 : decode cX12_daring 105 = .ok (.iinc 3 1, 3) := by decide +kernel
theorem dX12_daring_108 : decode cX12_daring 108 = .ok (.goto (-57), 3) := by decide +kernel
theorem dX12_daring_111 : decode cX12_daring 111 = .ok (.aload_n 0, 1) := by decide +kernel
theorem dX12_daring_112 : decode cX12_daring 112 = .ok (.iconst 0, 1) := by decide +kernel
theorem dX12_daring_113 : decode cX12_daring 113 = .ok (.invokevirtual 508, 3) := by decide +kernel
theorem dX12_daring_116 : decode cX12_daring 116 = .ok (.iload_n 2, 1) := by decide +kernel
theorem dX12_daring_117 : decode cX12_daring 117 = .ok (.iconst (-1), 1) := by decide +kernel
theorem dX12_daring_118 : decode cX12_daring 118 = .ok (.if_icmp .ne 7, 3) := by decide +kernel
theorem dX12_daring_121 : decode cX12_daring 121 = .ok (.iconst (-1), 1) := by decide +kernel
theorem dX12_daring_122 : decode cX12_daring 122 = .ok (.goto 15, 3) := by decide +kernel
theorem dX12_daring_125 : decode cX12_daring 125 = .ok (.iload_n 1, 1) := by decide +kernel
theorem dX12_daring_126 : decode cX12_daring 126 = .ok (.ifCond .ne 10, 3) := by decide +kernel
theorem dX12_daring_129 : decode cX12_daring 129 = .ok (.iload_n 2, 1) := by decide +kernel
theorem dX12_daring_130 : decode cX12_daring 130 = .ok (.invokestatic 505, 3) := by decide +kernel
theorem dX12_daring_133 : decode cX12_daring 133 = .ok (.goto 4, 3) := by decide +kernel
theorem dX12_daring_136 : decode cX12_daring 136 = .ok (.iload_n 2, 1) := by decide +kernel
theorem dX12_daring_137 : decode cX12_daring 137 = .ok (.ireturn, 1) := by decide +kernel
theorem dX12_isOpenThen_0 : decode cX12_isOpenThen 0 = .ok (.aload_n 0, 1) := by decide +kernel
theorem dX12_isOpenThen_1 : decode cX12_isOpenThen 1 = .ok (.invokevirtual 441, 3) := by decide +kernel
theorem dX12_isOpenThen_4 : decode cX12_isOpenThen 4 = .ok (.iconst 0, 1) := by decide +kernel
theorem dX12_isOpenThen_5 : decode cX12_isOpenThen 5 = .ok (.istore_n 2, 1) := by decide +kernel
theorem dX12_isOpenThen_6 : decode cX12_isOpenThen 6 = .ok (.iload_n 2, 1) := by decide +kernel
theorem dX12_isOpenThen_7 : decode cX12_isOpenThen 7 = .ok (.sipush 200, 3) := by decide +kernel
theorem dX12_isOpenThen_10 : decode cX12_isOpenThen 10 = .ok (.if_icmp .gt 35, 3) := by decide +kernel
theorem dX12_isOpenThen_13 : decode cX12_isOpenThen 13 = .ok (.aload_n 0, 1) := by decide +kernel
theorem dX12_isOpenThen_14 : decode cX12_isOpenThen 14 = .ok (.iload_n 1, 1) := by decide +kernel
theorem dX12_isOpenThen_15 : decode cX12_isOpenThen 15 = .ok (.iload_n 2, 1) := by decide +kernel
theorem dX12_isOpenThen_16 : decode cX12_isOpenThen 16 = .ok (.invokevirtual 379, 3) := by decide +kernel
theorem dX12_isOpenThen_19 : decode cX12_isOpenThen 19 = .ok (.ifCond .eq 20, 3) := by decide +kernel
theorem dX12_isOpenThen_22 : decode cX12_isOpenThen 22 = .ok (.aload_n 0, 1) := by decide +kernel
theorem dX12_isOpenThen_23 : decode cX12_isOpenThen 23 = .ok (.iload_n 2, 1) := by decide +kernel
theorem dX12_isOpenThen_24 : decode cX12_isOpenThen 24 = .ok (.invokevirtual 426, 3) := by decide +kernel
theorem dX12_isOpenThen_27 : decode cX12_isOpenThen 27 = .ok (.aload_n 0, 1) := by decide +kernel
theorem dX12_isOpenThen_28 : decode cX12_isOpenThen 28 = .ok (.getfield 89, 3) := by decide +kernel
theorem dX12_isOpenThen_31 : decode cX12_isOpenThen 31 = .ok (.bipush 7, 2) := by decide +kernel
theorem dX12_isOpenThen_33 : decode cX12_isOpenThen 33 = .ok (.iaload, 1) := by decide +kernel
theorem dX12_isOpenThen_34 : decode cX12_isOpenThen 34 = .ok (.if_icmp .lt 5, 3) := by decide +kernel
theorem dX12_isOpenThen_37 : decode cX12_isOpenThen 37 = .ok (.iconst 1, 1) := by decide +kernel
theorem dX12_isOpenThen_38 : decode cX12_isOpenThen 38 = .ok (.ireturn, 1) := by decide +kernel
theorem dX12_isOpenThen_39 : decode cX12_isOpenThen 39 = .ok (.iinc 2 1, 3) := by decide +kernel
theorem dX12_isOpenThen_42 : decode cX12_isOpenThen 42 = .ok (.goto (-36), 3) := by decide +kernel
theorem dX12_isOpenThen_45 : decode cX12_isOpenThen 45 = .ok (.iconst 0, 1) := by decide +kernel
theorem dX12_isOpenThen_46 : decode cX12_isOpenThen 46 = .ok (.ireturn, 1) := by decide +kernel
theorem dX12_late_0 : decode cX12_late 0 = .ok (.aload_n 0, 1) := by decide +kernel
theorem dX12_late_1 : decode cX12_late 1 = .ok (.iload_n 1, 1) := by decide +kernel
theorem dX12_late_2 : decode cX12_late 2 = .ok (.invokevirtual 376, 3) := by decide +kernel
theorem dX12_late_5 : decode cX12_late 5 = .ok (.ifCond .eq 13, 3) := by decide +kernel
theorem dX12_late_8 : decode cX12_late 8 = .ok (.aload_n 0, 1) := by decide +kernel
theorem dX12_late_9 : decode cX12_late 9 = .ok (.iload_n 1, 1) := by decide +kernel
theorem dX12_late_10 : decode cX12_late 10 = .ok (.iconst 4, 1) := by decide +kernel
theorem dX12_late_11 : decode cX12_late 11 = .ok (.invokevirtual 373, 3) := by decide +kernel
theorem dX12_late_14 : decode cX12_late 14 = .ok (.iconst 1, 1) := by decide +kernel
theorem dX12_late_15 : decode cX12_late 15 = .ok (.if_icmp .ne 5, 3) := by decide +kernel
theorem dX12_late_18 : decode cX12_late 18 = .ok (.iconst (-1), 1) := by decide +kernel
theorem dX12_late_19 : decode cX12_late 19 = .ok (.ireturn, 1) := by decide +kernel
theorem dX12_late_20 : decode cX12_late 20 = .ok (.aload_n 0, 1) := by decide +kernel
theorem dX12_late_21 : decode cX12_late 21 = .ok (.iload_n 1, 1) := by decide +kernel
theorem dX12_late_22 : decode cX12_late 22 = .ok (.iconst 1, 1) := by decide +kernel
theorem dX12_late_23 : decode cX12_late 23 = .ok (.invokevirtual 373, 3) := by decide +kernel
theorem dX12_late_26 : decode cX12_late 26 = .ok (.istore_n 2, 1) := by decide +kernel
theorem dX12_late_27 : decode cX12_late 27 = .ok (.iconst (-1), 1) := by decide +kernel
theorem dX12_late_28 : decode cX12_late 28 = .ok (.istore_n 3, 1) := by decide +kernel
theorem dX12_late_29 : decode cX12_late 29 = .ok (.bipush 60, 2) := by decide +kernel
theorem dX12_late_31 : decode cX12_late 31 = .ok (.istore 4, 2) := by decide +kernel
theorem dX12_late_33 : decode cX12_late 33 = .ok (.iload 4, 2) := by decide +kernel
theorem dX12_late_35 : decode cX12_late 35 = .ok (.bipush (-60), 2) := by decide +kernel
theorem dX12_late_37 : decode cX12_late 37 = .ok (.if_icmp .lt 36, 3) := by decide +kernel
theorem dX12_late_40 : decode cX12_late 40 = .ok (.iload_n 3, 1) := by decide +kernel
theorem dX12_late_41 : decode cX12_late 41 = .ok (.iconst (-1), 1) := by decide +kernel
