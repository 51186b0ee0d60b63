/-! the law's instructions -/
theorem dw_129 : decode code 129 = .ok (.aload_n 0, 1) := by decide +kernel
theorem dw_130 : decode code 130 = .ok (.iload 4, 2) := by decide +kernel
theorem dw_132 : decode code 132 = .ok (.iconst 1, 1) := by decide +kernel
theorem dw_133 : decode code 133 = .ok (.iadd, 1) := by decide +kernel
theorem dw_134 : decode code 134 = .ok (.iaload, 1) := by decide +kernel
theorem dw_135 : decode code 135 = .ok (.i2l, 1) := by decide +kernel
theorem dw_136 : decode code 136 = .ok (.bipush 32, 2) := by decide +kernel
theorem dw_138 : decode code 138 = .ok (.lshl, 1) := by decide +kernel
theorem dw_139 : decode code 139 = .ok (.aload_n 0, 1) := by decide +kernel
theorem dw_140 : decode code 140 = .ok (.iload 4, 2) := by decide +kernel
theorem dw_142 : decode code 142 = .ok (.iconst 2, 1) := by decide +kernel
theorem dw_143 : decode code 143 = .ok (.iadd, 1) := by decide +kernel
theorem dw_144 : decode code 144 = .ok (.iaload, 1) := by decide +kernel
theorem dw_145 : decode code 145 = .ok (.i2l, 1) := by decide +kernel
theorem dw_146 : decode code 146 = .ok (.ldc2_w 32, 3) := by decide +kernel
theorem dw_149 : decode code 149 = .ok (.land, 1) := by decide +kernel
theorem dw_150 : decode code 150 = .ok (.lor, 1) := by decide +kernel
theorem dw_151 : decode code 151 = .ok (.aload_n 0, 1) := by decide +kernel
theorem dw_152 : decode code 152 = .ok (.iload 4, 2) := by decide +kernel
theorem dw_154 : decode code 154 = .ok (.iconst 3, 1) := by decide +kernel
theorem dw_155 : decode code 155 = .ok (.iadd, 1) := by decide +kernel
theorem dw_156 : decode code 156 = .ok (.iaload, 1) := by decide +kernel
theorem dw_157 : decode code 157 = .ok (.invokevirtual 38, 3) := by decide +kernel
theorem dw_160 : decode code 160 = .ok (.if_icmp .eq 355, 3) := by decide +kernel
theorem dw_163 : decode code 163 = .ok (.iconst 0, 1) := by decide +kernel
theorem dw_164 : decode code 164 = .ok (.ireturn, 1) := by decide +kernel
theorem dw_165 : decode code 165 = .ok (.aload_n 1, 1) := by decide +kernel
theorem dw_166 : decode code 166 = .ok (.aload_n 0, 1) := by decide +kernel
theorem dw_167 : decode code 167 = .ok (.iload 4, 2) := by decide +kernel
theorem dw_169 : decode code 169 = .ok (.iconst 1, 1) := by decide +kernel
theorem dw_170 : decode code 170 = .ok (.iadd, 1) := by decide +kernel
theorem dw_171 : decode code 171 = .ok (.iaload, 1) := by decide +kernel
theorem dw_172 : decode code 172 = .ok (.invokevirtual 39, 3) := by decide +kernel
theorem dw_175 : decode code 175 = .ok (.aload_n 2, 1) := by decide +kernel
theorem dw_176 : decode code 176 = .ok (.aload_n 0, 1) := by decide +kernel
theorem dw_177 : decode code 177 = .ok (.iload 4, 2) := by decide +kernel
theorem dw_179 : decode code 179 = .ok (.iconst 1, 1) := by decide +kernel
theorem dw_180 : decode code 180 = .ok (.iadd, 1) := by decide +kernel
theorem dw_181 : decode code 181 = .ok (.iaload, 1) := by decide +kernel
theorem dw_182 : decode code 182 = .ok (.invokevirtual 43, 3) := by decide +kernel
theorem dw_185 : decode code 185 = .ok (.if_icmp .eq 330, 3) := by decide +kernel
theorem dw_188 : decode code 188 = .ok (.iconst 0, 1) := by decide +kernel
theorem dw_189 : decode code 189 = .ok (.ireturn, 1) := by decide +kernel
theorem dw_190 : decode code 190 = .ok (.aload_n 1, 1) := by decide +kernel
theorem dw_191 : decode code 191 = .ok (.aload_n 3, 1) := by decide +kernel
theorem dw_192 : decode code 192 = .ok (.invokestatic 44, 3) := by decide +kernel
theorem dw_195 : decode code 195 = .ok (.istore 5, 2) := by decide +kernel
theorem dw_197 : decode code 197 = .ok (.aload_n 2, 1) := by decide +kernel
theorem dw_198 : decode code 198 = .ok (.invokevirtual 49, 3) := by decide +kernel
theorem dw_201 : decode code 201 = .ok (.istore 6, 2) := by decide +kernel
