/-! THE LAW: its instructions, 2 -/
theorem dl_127 : decode code 127 = .ok (.invokevirtual 49, 3) := by decide +kernel
theorem dl_130 : decode code 130 = .ok (.aload_n 2, 1) := by decide +kernel
theorem dl_131 : decode code 131 = .ok (.invokevirtual 52, 3) := by decide +kernel
theorem dl_134 : decode code 134 = .ok (.if_icmp .eq 330, 3) := by decide +kernel
theorem dl_137 : decode code 137 = .ok (.iconst 0, 1) := by decide +kernel
theorem dl_138 : decode code 138 = .ok (.ireturn, 1) := by decide +kernel
theorem dl_139 : decode code 139 = .ok (.aload_n 1, 1) := by decide +kernel
theorem dl_140 : decode code 140 = .ok (.invokevirtual 53, 3) := by decide +kernel
theorem dl_143 : decode code 143 = .ok (.aload_n 2, 1) := by decide +kernel
theorem dl_144 : decode code 144 = .ok (.invokevirtual 56, 3) := by decide +kernel
theorem dl_147 : decode code 147 = .ok (.if_icmp .eq 317, 3) := by decide +kernel
theorem dl_150 : decode code 150 = .ok (.iconst 0, 1) := by decide +kernel
theorem dl_151 : decode code 151 = .ok (.ireturn, 1) := by decide +kernel
theorem dl_152 : decode code 152 = .ok (.aload_n 1, 1) := by decide +kernel
theorem dl_153 : decode code 153 = .ok (.aload_n 0, 1) := by decide +kernel
theorem dl_154 : decode code 154 = .ok (.iload 4, 2) := by decide +kernel
theorem dl_156 : decode code 156 = .ok (.iconst 1, 1) := by decide +kernel
theorem dl_157 : decode code 157 = .ok (.iadd, 1) := by decide +kernel
theorem dl_158 : decode code 158 = .ok (.iaload, 1) := by decide +kernel
theorem dl_159 : decode code 159 = .ok (.aload_n 3, 1) := by decide +kernel
theorem dl_160 : decode code 160 = .ok (.invokestatic 57, 3) := by decide +kernel
theorem dl_163 : decode code 163 = .ok (.istore 5, 2) := by decide +kernel
theorem dl_165 : decode code 165 = .ok (.aload_n 2, 1) := by decide +kernel
theorem dl_166 : decode code 166 = .ok (.aload_n 0, 1) := by decide +kernel
theorem dl_167 : decode code 167 = .ok (.iload 4, 2) := by decide +kernel
theorem dl_169 : decode code 169 = .ok (.iconst 1, 1) := by decide +kernel
theorem dl_170 : decode code 170 = .ok (.iadd, 1) := by decide +kernel
theorem dl_171 : decode code 171 = .ok (.iaload, 1) := by decide +kernel
theorem dl_172 : decode code 172 = .ok (.invokevirtual 62, 3) := by decide +kernel
theorem dl_175 : decode code 175 = .ok (.istore 6, 2) := by decide +kernel
theorem dl_177 : decode code 177 = .ok (.aload_n 2, 1) := by decide +kernel
theorem dl_178 : decode code 178 = .ok (.invokevirtual 63, 3) := by decide +kernel
theorem dl_181 : decode code 181 = .ok (.iload 5, 2) := by decide +kernel
theorem dl_183 : decode code 183 = .ok (.if_icmp .eq 5, 3) := by decide +kernel
theorem dl_186 : decode code 186 = .ok (.iconst 0, 1) := by decide +kernel
theorem dl_187 : decode code 187 = .ok (.ireturn, 1) := by decide +kernel
theorem dl_188 : decode code 188 = .ok (.iload 5, 2) := by decide +kernel
theorem dl_190 : decode code 190 = .ok (.ifCond .ne 15, 3) := by decide +kernel
theorem dl_193 : decode code 193 = .ok (.aload_n 3, 1) := by decide +kernel
theorem dl_194 : decode code 194 = .ok (.iconst 0, 1) := by decide +kernel
theorem dl_195 : decode code 195 = .ok (.laload, 1) := by decide +kernel
theorem dl_196 : decode code 196 = .ok (.iload 6, 2) := by decide +kernel
theorem dl_198 : decode code 198 = .ok (.i2l, 1) := by decide +kernel
theorem dl_199 : decode code 199 = .ok (.lcmp, 1) := by decide +kernel
theorem dl_200 : decode code 200 = .ok (.ifCond .eq 5, 3) := by decide +kernel
theorem dl_203 : decode code 203 = .ok (.iconst 0, 1) := by decide +kernel
theorem dl_204 : decode code 204 = .ok (.ireturn, 1) := by decide +kernel
theorem dl_205 : decode code 205 = .ok (.goto 259, 3) := by decide +kernel
theorem dl_208 : decode code 208 = .ok (.aload_n 1, 1) := by decide +kernel
theorem dl_209 : decode code 209 = .ok (.aload_n 0, 1) := by decide +kernel
