/-! the law's body: its instructions, its loop -/
def yL (nm : String) : xY := (⟨"DirectorySessionLaw", nm, "([I)Z"⟩, code, maxLocals, ret)
theorem d_LW_law_0 {nm : String} : xd (yL nm) 0 3 3 (.new 7) := ⟨(by decide +kernel : decode code 0 = .ok (.new 7, 3)), rfl⟩
theorem d_LW_law_3 {nm : String} : xd (yL nm) 3 1 4 (.dup) := ⟨(by decide +kernel : decode code 3 = .ok (.dup, 1)), rfl⟩
theorem d_LW_law_4 {nm : String} : xd (yL nm) 4 3 7 (.invokespecial 9) := ⟨(by decide +kernel : decode code 4 = .ok (.invokespecial 9, 3)), rfl⟩
theorem d_LW_law_7 {nm : String} : xd (yL nm) 7 1 8 (.astore_n 1) := ⟨(by decide +kernel : decode code 7 = .ok (.astore_n 1, 1)), rfl⟩
theorem d_LW_law_8 {nm : String} : xd (yL nm) 8 3 11 (.new 10) := ⟨(by decide +kernel : decode code 8 = .ok (.new 10, 3)), rfl⟩
theorem d_LW_law_11 {nm : String} : xd (yL nm) 11 1 12 (.dup) := ⟨(by decide +kernel : decode code 11 = .ok (.dup, 1)), rfl⟩
theorem d_LW_law_12 {nm : String} : xd (yL nm) 12 3 15 (.invokespecial 12) := ⟨(by decide +kernel : decode code 12 = .ok (.invokespecial 12, 3)), rfl⟩
theorem d_LW_law_15 {nm : String} : xd (yL nm) 15 1 16 (.astore_n 2) := ⟨(by decide +kernel : decode code 15 = .ok (.astore_n 2, 1)), rfl⟩
theorem d_LW_law_16 {nm : String} : xd (yL nm) 16 1 17 (.iconst 0) := ⟨(by decide +kernel : decode code 16 = .ok (.iconst 0, 1)), rfl⟩
theorem d_LW_law_17 {nm : String} : xd (yL nm) 17 1 18 (.istore_n 3) := ⟨(by decide +kernel : decode code 17 = .ok (.istore_n 3, 1)), rfl⟩
theorem d_LW_law_18 {nm : String} : xd (yL nm) 18 1 19 (.iload_n 3) := ⟨(by decide +kernel : decode code 18 = .ok (.iload_n 3, 1)), rfl⟩
theorem d_LW_law_19 {nm : String} : xd (yL nm) 19 1 20 (.aload_n 0) := ⟨(by decide +kernel : decode code 19 = .ok (.aload_n 0, 1)), rfl⟩
theorem d_LW_law_20 {nm : String} : xd (yL nm) 20 1 21 (.arraylength) := ⟨(by decide +kernel : decode code 20 = .ok (.arraylength, 1)), rfl⟩
theorem d_LW_law_21 {nm : String} : xd (yL nm) 21 1 22 (.iconst 5) := ⟨(by decide +kernel : decode code 21 = .ok (.iconst 5, 1)), rfl⟩
theorem d_LW_law_22 {nm : String} : xd (yL nm) 22 1 23 (.isub) := ⟨(by decide +kernel : decode code 22 = .ok (.isub, 1)), rfl⟩
theorem d_LW_law_23 {nm : String} : xd (yL nm) 23 3 26 (.if_icmp .gt 381) := ⟨(by decide +kernel : decode code 23 = .ok (.if_icmp .gt 381, 3)), rfl⟩
theorem d_LW_law_26 {nm : String} : xd (yL nm) 26 1 27 (.aload_n 0) := ⟨(by decide +kernel : decode code 26 = .ok (.aload_n 0, 1)), rfl⟩
theorem d_LW_law_27 {nm : String} : xd (yL nm) 27 1 28 (.iload_n 3) := ⟨(by decide +kernel : decode code 27 = .ok (.iload_n 3, 1)), rfl⟩
theorem d_LW_law_28 {nm : String} : xd (yL nm) 28 1 29 (.iaload) := ⟨(by decide +kernel : decode code 28 = .ok (.iaload, 1)), rfl⟩
theorem d_LW_law_29 {nm : String} : xd (yL nm) 29 2 31 (.bipush 15) := ⟨(by decide +kernel : decode code 29 = .ok (.bipush 15, 2)), rfl⟩
theorem d_LW_law_31 {nm : String} : xd (yL nm) 31 1 32 (.iand) := ⟨(by decide +kernel : decode code 31 = .ok (.iand, 1)), rfl⟩
theorem d_LW_law_32 {nm : String} : xd (yL nm) 32 68 100 (.tableswitch 366 0 12 #[68, 131, 142, 155, 168, 181, 194, 207, 220, 244, 257, 280, 313]) := ⟨(by decide +kernel : decode code 32 = .ok (.tableswitch 366 0 12 #[68, 131, 142, 155, 168, 181, 194, 207, 220, 244, 257, 280, 313], 68)), rfl⟩
theorem d_LW_law_100 {nm : String} : xd (yL nm) 100 1 101 (.aload_n 1) := ⟨(by decide +kernel : decode code 100 = .ok (.aload_n 1, 1)), rfl⟩
theorem d_LW_law_101 {nm : String} : xd (yL nm) 101 1 102 (.aload_n 0) := ⟨(by decide +kernel : decode code 101 = .ok (.aload_n 0, 1)), rfl⟩
theorem d_LW_law_102 {nm : String} : xd (yL nm) 102 1 103 (.iload_n 3) := ⟨(by decide +kernel : decode code 102 = .ok (.iload_n 3, 1)), rfl⟩
theorem d_LW_law_103 {nm : String} : xd (yL nm) 103 1 104 (.iconst 1) := ⟨(by decide +kernel : decode code 103 = .ok (.iconst 1, 1)), rfl⟩
theorem d_LW_law_104 {nm : String} : xd (yL nm) 104 1 105 (.iadd) := ⟨(by decide +kernel : decode code 104 = .ok (.iadd, 1)), rfl⟩
theorem d_LW_law_105 {nm : String} : xd (yL nm) 105 1 106 (.iaload) := ⟨(by decide +kernel : decode code 105 = .ok (.iaload, 1)), rfl⟩
theorem d_LW_law_106 {nm : String} : xd (yL nm) 106 1 107 (.i2l) := ⟨(by decide +kernel : decode code 106 = .ok (.i2l, 1)), rfl⟩
theorem d_LW_law_107 {nm : String} : xd (yL nm) 107 2 109 (.bipush 32) := ⟨(by decide +kernel : decode code 107 = .ok (.bipush 32, 2)), rfl⟩
theorem d_LW_law_109 {nm : String} : xd (yL nm) 109 1 110 (.lshl) := ⟨(by decide +kernel : decode code 109 = .ok (.lshl, 1)), rfl⟩
theorem d_LW_law_110 {nm : String} : xd (yL nm) 110 1 111 (.aload_n 0) := ⟨(by decide +kernel : decode code 110 = .ok (.aload_n 0, 1)), rfl⟩
theorem d_LW_law_111 {nm : String} : xd (yL nm) 111 1 112 (.iload_n 3) := ⟨(by decide +kernel : decode code 111 = .ok (.iload_n 3, 1)), rfl⟩
theorem d_LW_law_112 {nm : String} : xd (yL nm) 112 1 113 (.iconst 2) := ⟨(by decide +kernel : decode code 112 = .ok (.iconst 2, 1)), rfl⟩
theorem d_LW_law_113 {nm : String} : xd (yL nm) 113 1 114 (.iadd) := ⟨(by decide +kernel : decode code 113 = .ok (.iadd, 1)), rfl⟩
theorem d_LW_law_114 {nm : String} : xd (yL nm) 114 1 115 (.iaload) := ⟨(by decide +kernel : decode code 114 = .ok (.iaload, 1)), rfl⟩
theorem d_LW_law_115 {nm : String} : xd (yL nm) 115 1 116 (.i2l) := ⟨(by decide +kernel : decode code 115 = .ok (.i2l, 1)), rfl⟩
theorem d_LW_law_116 {nm : String} : xd (yL nm) 116 3 119 (.ldc2_w 13) := ⟨(by decide +kernel : decode code 116 = .ok (.ldc2_w 13, 3)), rfl⟩
theorem d_LW_law_119 {nm : String} : xd (yL nm) 119 1 120 (.land) := ⟨(by decide +kernel : decode code 119 = .ok (.land, 1)), rfl⟩
theorem d_LW_law_120 {nm : String} : xd (yL nm) 120 1 121 (.lor) := ⟨(by decide +kernel : decode code 120 = .ok (.lor, 1)), rfl⟩
theorem d_LW_law_121 {nm : String} : xd (yL nm) 121 1 122 (.aload_n 0) := ⟨(by decide +kernel : decode code 121 = .ok (.aload_n 0, 1)), rfl⟩
theorem d_LW_law_122 {nm : String} : xd (yL nm) 122 1 123 (.iload_n 3) := ⟨(by decide +kernel : decode code 122 = .ok (.iload_n 3, 1)), rfl⟩
theorem d_LW_law_123 {nm : String} : xd (yL nm) 123 1 124 (.iconst 3) := ⟨(by decide +kernel : decode code 123 = .ok (.iconst 3, 1)), rfl⟩
theorem d_LW_law_124 {nm : String} : xd (yL nm) 124 1 125 (.iadd) := ⟨(by decide +kernel : decode code 124 = .ok (.iadd, 1)), rfl⟩
theorem d_LW_law_125 {nm : String} : xd (yL nm) 125 1 126 (.iaload) := ⟨(by decide +kernel : decode code 125 = .ok (.iaload, 1)), rfl⟩
theorem d_LW_law_126 {nm : String} : xd (yL nm) 126 3 129 (.invokevirtual 15) := ⟨(by decide +kernel : decode code 126 = .ok (.invokevirtual 15, 3)), rfl⟩
theorem d_LW_law_129 {nm : String} : xd (yL nm) 129 1 130 (.aload_n 2) := ⟨(by decide +kernel : decode code 129 = .ok (.aload_n 2, 1)), rfl⟩
theorem d_LW_law_130 {nm : String} : xd (yL nm) 130 1 131 (.aload_n 0) := ⟨(by decide +kernel : decode code 130 = .ok (.aload_n 0, 1)), rfl⟩
theorem d_LW_law_131 {nm : String} : xd (yL nm) 131 1 132 (.iload_n 3) := ⟨(by decide +kernel : decode code 131 = .ok (.iload_n 3, 1)), rfl⟩
theorem d_LW_law_132 {nm : String} : xd (yL nm) 132 1 133 (.iconst 1) := ⟨(by decide +kernel : decode code 132 = .ok (.iconst 1, 1)), rfl⟩
theorem d_LW_law_133 {nm : String} : xd (yL nm) 133 1 134 (.iadd) := ⟨(by decide +kernel : decode code 133 = .ok (.iadd, 1)), rfl⟩
theorem d_LW_law_134 {nm : String} : xd (yL nm) 134 1 135 (.iaload) := ⟨(by decide +kernel : decode code 134 = .ok (.iaload, 1)), rfl⟩
theorem d_LW_law_135 {nm : String} : xd (yL nm) 135 1 136 (.i2l) := ⟨(by decide +kernel : decode code 135 = .ok (.i2l, 1)), rfl⟩
theorem d_LW_law_136 {nm : String} : xd (yL nm) 136 2 138 (.bipush 32) := ⟨(by decide +kernel : decode code 136 = .ok (.bipush 32, 2)), rfl⟩
theorem d_LW_law_138 {nm : String} : xd (yL nm) 138 1 139 (.lshl) := ⟨(by decide +kernel : decode code 138 = .ok (.lshl, 1)), rfl⟩
theorem d_LW_law_139 {nm : String} : xd (yL nm) 139 1 140 (.aload_n 0) := ⟨(by decide +kernel : decode code 139 = .ok (.aload_n 0, 1)), rfl⟩
theorem d_LW_law_140 {nm : String} : xd (yL nm) 140 1 141 (.iload_n 3) := ⟨(by decide +kernel : decode code 140 = .ok (.iload_n 3, 1)), rfl⟩
theorem d_LW_law_141 {nm : String} : xd (yL nm) 141 1 142 (.iconst 2) := ⟨(by decide +kernel : decode code 141 = .ok (.iconst 2, 1)), rfl⟩
theorem d_LW_law_142 {nm : String} : xd (yL nm) 142 1 143 (.iadd) := ⟨(by decide +kernel : decode code 142 = .ok (.iadd, 1)), rfl⟩
theorem d_LW_law_143 {nm : String} : xd (yL nm) 143 1 144 (.iaload) := ⟨(by decide +kernel : decode code 143 = .ok (.iaload, 1)), rfl⟩
theorem d_LW_law_144 {nm : String} : xd (yL nm) 144 1 145 (.i2l) := ⟨(by decide +kernel : decode code 144 = .ok (.i2l, 1)), rfl⟩
theorem d_LW_law_145 {nm : String} : xd (yL nm) 145 3 148 (.ldc2_w 13) := ⟨(by decide +kernel : decode code 145 = .ok (.ldc2_w 13, 3)), rfl⟩
theorem d_LW_law_148 {nm : String} : xd (yL nm) 148 1 149 (.land) := ⟨(by decide +kernel : decode code 148 = .ok (.land, 1)), rfl⟩
theorem d_LW_law_149 {nm : String} : xd (yL nm) 149 1 150 (.lor) := ⟨(by decide +kernel : decode code 149 = .ok (.lor, 1)), rfl⟩
theorem d_LW_law_150 {nm : String} : xd (yL nm) 150 1 151 (.aload_n 0) := ⟨(by decide +kernel : decode code 150 = .ok (.aload_n 0, 1)), rfl⟩
theorem d_LW_law_151 {nm : String} : xd (yL nm) 151 1 152 (.iload_n 3) := ⟨(by decide +kernel : decode code 151 = .ok (.iload_n 3, 1)), rfl⟩
theorem d_LW_law_152 {nm : String} : xd (yL nm) 152 1 153 (.iconst 3) := ⟨(by decide +kernel : decode code 152 = .ok (.iconst 3, 1)), rfl⟩
theorem d_LW_law_153 {nm : String} : xd (yL nm) 153 1 154 (.iadd) := ⟨(by decide +kernel : decode code 153 = .ok (.iadd, 1)), rfl⟩
theorem d_LW_law_154 {nm : String} : xd (yL nm) 154 1 155 (.iaload) := ⟨(by decide +kernel : decode code 154 = .ok (.iaload, 1)), rfl⟩
theorem d_LW_law_155 {nm : String} : xd (yL nm) 155 3 158 (.invokevirtual 19) := ⟨(by decide +kernel : decode code 155 = .ok (.invokevirtual 19, 3)), rfl⟩
theorem d_LW_law_158 {nm : String} : xd (yL nm) 158 3 161 (.if_icmp .eq 240) := ⟨(by decide +kernel : decode code 158 = .ok (.if_icmp .eq 240, 3)), rfl⟩
theorem d_LW_law_161 {nm : String} : xd (yL nm) 161 1 162 (.iconst 0) := ⟨(by decide +kernel : decode code 161 = .ok (.iconst 0, 1)), rfl⟩
theorem d_LW_law_162 {nm : String} : xd (yL nm) 162 1 163 (.ireturn) := ⟨(by decide +kernel : decode code 162 = .ok (.ireturn, 1)), rfl⟩
theorem d_LW_law_163 {nm : String} : xd (yL nm) 163 1 164 (.aload_n 1) := ⟨(by decide +kernel : decode code 163 = .ok (.aload_n 1, 1)), rfl⟩
theorem d_LW_law_164 {nm : String} : xd (yL nm) 164 3 167 (.invokevirtual 20) := ⟨(by decide +kernel : decode code 164 = .ok (.invokevirtual 20, 3)), rfl⟩
theorem d_LW_law_167 {nm : String} : xd (yL nm) 167 1 168 (.aload_n 2) := ⟨(by decide +kernel : decode code 167 = .ok (.aload_n 2, 1)), rfl⟩
theorem d_LW_law_168 {nm : String} : xd (yL nm) 168 3 171 (.invokevirtual 23) := ⟨(by decide +kernel : decode code 168 = .ok (.invokevirtual 23, 3)), rfl⟩
theorem d_LW_law_171 {nm : String} : xd (yL nm) 171 3 174 (.goto 227) := ⟨(by decide +kernel : decode code 171 = .ok (.goto 227, 3)), rfl⟩
theorem d_LW_law_174 {nm : String} : xd (yL nm) 174 1 175 (.aload_n 1) := ⟨(by decide +kernel : decode code 174 = .ok (.aload_n 1, 1)), rfl⟩
theorem d_LW_law_175 {nm : String} : xd (yL nm) 175 3 178 (.invokevirtual 24) := ⟨(by decide +kernel : decode code 175 = .ok (.invokevirtual 24, 3)), rfl⟩
theorem d_LW_law_178 {nm : String} : xd (yL nm) 178 1 179 (.aload_n 2) := ⟨(by decide +kernel : decode code 178 = .ok (.aload_n 2, 1)), rfl⟩
theorem d_LW_law_179 {nm : String} : xd (yL nm) 179 3 182 (.invokevirtual 28) := ⟨(by decide +kernel : decode code 179 = .ok (.invokevirtual 28, 3)), rfl⟩
theorem d_LW_law_182 {nm : String} : xd (yL nm) 182 3 185 (.if_icmp .eq 216) := ⟨(by decide +kernel : decode code 182 = .ok (.if_icmp .eq 216, 3)), rfl⟩
theorem d_LW_law_185 {nm : String} : xd (yL nm) 185 1 186 (.iconst 0) := ⟨(by decide +kernel : decode code 185 = .ok (.iconst 0, 1)), rfl⟩
theorem d_LW_law_186 {nm : String} : xd (yL nm) 186 1 187 (.ireturn) := ⟨(by decide +kernel : decode code 186 = .ok (.ireturn, 1)), rfl⟩
theorem d_LW_law_187 {nm : String} : xd (yL nm) 187 1 188 (.aload_n 1) := ⟨(by decide +kernel : decode code 187 = .ok (.aload_n 1, 1)), rfl⟩
theorem d_LW_law_188 {nm : String} : xd (yL nm) 188 3 191 (.invokevirtual 29) := ⟨(by decide +kernel : decode code 188 = .ok (.invokevirtual 29, 3)), rfl⟩
theorem d_LW_law_191 {nm : String} : xd (yL nm) 191 1 192 (.aload_n 2) := ⟨(by decide +kernel : decode code 191 = .ok (.aload_n 2, 1)), rfl⟩
theorem d_LW_law_192 {nm : String} : xd (yL nm) 192 3 195 (.invokevirtual 33) := ⟨(by decide +kernel : decode code 192 = .ok (.invokevirtual 33, 3)), rfl⟩
theorem d_LW_law_195 {nm : String} : xd (yL nm) 195 3 198 (.if_icmp .eq 203) := ⟨(by decide +kernel : decode code 195 = .ok (.if_icmp .eq 203, 3)), rfl⟩
theorem d_LW_law_198 {nm : String} : xd (yL nm) 198 1 199 (.iconst 0) := ⟨(by decide +kernel : decode code 198 = .ok (.iconst 0, 1)), rfl⟩
theorem d_LW_law_199 {nm : String} : xd (yL nm) 199 1 200 (.ireturn) := ⟨(by decide +kernel : decode code 199 = .ok (.ireturn, 1)), rfl⟩
theorem d_LW_law_200 {nm : String} : xd (yL nm) 200 1 201 (.aload_n 1) := ⟨(by decide +kernel : decode code 200 = .ok (.aload_n 1, 1)), rfl⟩
theorem d_LW_law_201 {nm : String} : xd (yL nm) 201 3 204 (.invokevirtual 34) := ⟨(by decide +kernel : decode code 201 = .ok (.invokevirtual 34, 3)), rfl⟩
theorem d_LW_law_204 {nm : String} : xd (yL nm) 204 1 205 (.aload_n 2) := ⟨(by decide +kernel : decode code 204 = .ok (.aload_n 2, 1)), rfl⟩
theorem d_LW_law_205 {nm : String} : xd (yL nm) 205 3 208 (.invokevirtual 37) := ⟨(by decide +kernel : decode code 205 = .ok (.invokevirtual 37, 3)), rfl⟩
theorem d_LW_law_208 {nm : String} : xd (yL nm) 208 3 211 (.if_icmp .eq 190) := ⟨(by decide +kernel : decode code 208 = .ok (.if_icmp .eq 190, 3)), rfl⟩
theorem d_LW_law_211 {nm : String} : xd (yL nm) 211 1 212 (.iconst 0) := ⟨(by decide +kernel : decode code 211 = .ok (.iconst 0, 1)), rfl⟩
theorem d_LW_law_212 {nm : String} : xd (yL nm) 212 1 213 (.ireturn) := ⟨(by decide +kernel : decode code 212 = .ok (.ireturn, 1)), rfl⟩
theorem d_LW_law_213 {nm : String} : xd (yL nm) 213 1 214 (.aload_n 1) := ⟨(by decide +kernel : decode code 213 = .ok (.aload_n 1, 1)), rfl⟩
theorem d_LW_law_214 {nm : String} : xd (yL nm) 214 3 217 (.invokevirtual 38) := ⟨(by decide +kernel : decode code 214 = .ok (.invokevirtual 38, 3)), rfl⟩
theorem d_LW_law_217 {nm : String} : xd (yL nm) 217 1 218 (.aload_n 2) := ⟨(by decide +kernel : decode code 217 = .ok (.aload_n 2, 1)), rfl⟩
theorem d_LW_law_218 {nm : String} : xd (yL nm) 218 3 221 (.invokevirtual 41) := ⟨(by decide +kernel : decode code 218 = .ok (.invokevirtual 41, 3)), rfl⟩
theorem d_LW_law_221 {nm : String} : xd (yL nm) 221 3 224 (.if_icmp .eq 177) := ⟨(by decide +kernel : decode code 221 = .ok (.if_icmp .eq 177, 3)), rfl⟩
theorem d_LW_law_224 {nm : String} : xd (yL nm) 224 1 225 (.iconst 0) := ⟨(by decide +kernel : decode code 224 = .ok (.iconst 0, 1)), rfl⟩
theorem d_LW_law_225 {nm : String} : xd (yL nm) 225 1 226 (.ireturn) := ⟨(by decide +kernel : decode code 225 = .ok (.ireturn, 1)), rfl⟩
theorem d_LW_law_226 {nm : String} : xd (yL nm) 226 1 227 (.aload_n 1) := ⟨(by decide +kernel : decode code 226 = .ok (.aload_n 1, 1)), rfl⟩
theorem d_LW_law_227 {nm : String} : xd (yL nm) 227 3 230 (.invokevirtual 42) := ⟨(by decide +kernel : decode code 227 = .ok (.invokevirtual 42, 3)), rfl⟩
theorem d_LW_law_230 {nm : String} : xd (yL nm) 230 1 231 (.aload_n 2) := ⟨(by decide +kernel : decode code 230 = .ok (.aload_n 2, 1)), rfl⟩
theorem d_LW_law_231 {nm : String} : xd (yL nm) 231 3 234 (.invokevirtual 45) := ⟨(by decide +kernel : decode code 231 = .ok (.invokevirtual 45, 3)), rfl⟩
theorem d_LW_law_234 {nm : String} : xd (yL nm) 234 3 237 (.if_icmp .eq 164) := ⟨(by decide +kernel : decode code 234 = .ok (.if_icmp .eq 164, 3)), rfl⟩
theorem d_LW_law_237 {nm : String} : xd (yL nm) 237 1 238 (.iconst 0) := ⟨(by decide +kernel : decode code 237 = .ok (.iconst 0, 1)), rfl⟩
theorem d_LW_law_238 {nm : String} : xd (yL nm) 238 1 239 (.ireturn) := ⟨(by decide +kernel : decode code 238 = .ok (.ireturn, 1)), rfl⟩
theorem d_LW_law_239 {nm : String} : xd (yL nm) 239 1 240 (.aload_n 1) := ⟨(by decide +kernel : decode code 239 = .ok (.aload_n 1, 1)), rfl⟩
theorem d_LW_law_240 {nm : String} : xd (yL nm) 240 3 243 (.invokevirtual 46) := ⟨(by decide +kernel : decode code 240 = .ok (.invokevirtual 46, 3)), rfl⟩
theorem d_LW_law_243 {nm : String} : xd (yL nm) 243 1 244 (.aload_n 2) := ⟨(by decide +kernel : decode code 243 = .ok (.aload_n 2, 1)), rfl⟩
theorem d_LW_law_244 {nm : String} : xd (yL nm) 244 3 247 (.invokevirtual 49) := ⟨(by decide +kernel : decode code 244 = .ok (.invokevirtual 49, 3)), rfl⟩
theorem d_LW_law_247 {nm : String} : xd (yL nm) 247 3 250 (.if_icmp .eq 151) := ⟨(by decide +kernel : decode code 247 = .ok (.if_icmp .eq 151, 3)), rfl⟩
theorem d_LW_law_250 {nm : String} : xd (yL nm) 250 1 251 (.iconst 0) := ⟨(by decide +kernel : decode code 250 = .ok (.iconst 0, 1)), rfl⟩
theorem d_LW_law_251 {nm : String} : xd (yL nm) 251 1 252 (.ireturn) := ⟨(by decide +kernel : decode code 251 = .ok (.ireturn, 1)), rfl⟩
theorem d_LW_law_252 {nm : String} : xd (yL nm) 252 1 253 (.aload_n 1) := ⟨(by decide +kernel : decode code 252 = .ok (.aload_n 1, 1)), rfl⟩
theorem d_LW_law_253 {nm : String} : xd (yL nm) 253 1 254 (.aload_n 0) := ⟨(by decide +kernel : decode code 253 = .ok (.aload_n 0, 1)), rfl⟩
theorem d_LW_law_254 {nm : String} : xd (yL nm) 254 1 255 (.iload_n 3) := ⟨(by decide +kernel : decode code 254 = .ok (.iload_n 3, 1)), rfl⟩
theorem d_LW_law_255 {nm : String} : xd (yL nm) 255 1 256 (.iconst 1) := ⟨(by decide +kernel : decode code 255 = .ok (.iconst 1, 1)), rfl⟩
theorem d_LW_law_256 {nm : String} : xd (yL nm) 256 1 257 (.iadd) := ⟨(by decide +kernel : decode code 256 = .ok (.iadd, 1)), rfl⟩
theorem d_LW_law_257 {nm : String} : xd (yL nm) 257 1 258 (.iaload) := ⟨(by decide +kernel : decode code 257 = .ok (.iaload, 1)), rfl⟩
theorem d_LW_law_258 {nm : String} : xd (yL nm) 258 3 261 (.invokevirtual 50) := ⟨(by decide +kernel : decode code 258 = .ok (.invokevirtual 50, 3)), rfl⟩
theorem d_LW_law_261 {nm : String} : xd (yL nm) 261 1 262 (.aload_n 2) := ⟨(by decide +kernel : decode code 261 = .ok (.aload_n 2, 1)), rfl⟩
theorem d_LW_law_262 {nm : String} : xd (yL nm) 262 1 263 (.aload_n 0) := ⟨(by decide +kernel : decode code 262 = .ok (.aload_n 0, 1)), rfl⟩
theorem d_LW_law_263 {nm : String} : xd (yL nm) 263 1 264 (.iload_n 3) := ⟨(by decide +kernel : decode code 263 = .ok (.iload_n 3, 1)), rfl⟩
theorem d_LW_law_264 {nm : String} : xd (yL nm) 264 1 265 (.iconst 1) := ⟨(by decide +kernel : decode code 264 = .ok (.iconst 1, 1)), rfl⟩
theorem d_LW_law_265 {nm : String} : xd (yL nm) 265 1 266 (.iadd) := ⟨(by decide +kernel : decode code 265 = .ok (.iadd, 1)), rfl⟩
theorem d_LW_law_266 {nm : String} : xd (yL nm) 266 1 267 (.iaload) := ⟨(by decide +kernel : decode code 266 = .ok (.iaload, 1)), rfl⟩
theorem d_LW_law_267 {nm : String} : xd (yL nm) 267 3 270 (.invokevirtual 54) := ⟨(by decide +kernel : decode code 267 = .ok (.invokevirtual 54, 3)), rfl⟩
theorem d_LW_law_270 {nm : String} : xd (yL nm) 270 1 271 (.lcmp) := ⟨(by decide +kernel : decode code 270 = .ok (.lcmp, 1)), rfl⟩
theorem d_LW_law_271 {nm : String} : xd (yL nm) 271 3 274 (.ifCond .eq 127) := ⟨(by decide +kernel : decode code 271 = .ok (.ifCond .eq 127, 3)), rfl⟩
theorem d_LW_law_274 {nm : String} : xd (yL nm) 274 1 275 (.iconst 0) := ⟨(by decide +kernel : decode code 274 = .ok (.iconst 0, 1)), rfl⟩
theorem d_LW_law_275 {nm : String} : xd (yL nm) 275 1 276 (.ireturn) := ⟨(by decide +kernel : decode code 275 = .ok (.ireturn, 1)), rfl⟩
theorem d_LW_law_276 {nm : String} : xd (yL nm) 276 1 277 (.aload_n 1) := ⟨(by decide +kernel : decode code 276 = .ok (.aload_n 1, 1)), rfl⟩
theorem d_LW_law_277 {nm : String} : xd (yL nm) 277 3 280 (.invokevirtual 55) := ⟨(by decide +kernel : decode code 277 = .ok (.invokevirtual 55, 3)), rfl⟩
theorem d_LW_law_280 {nm : String} : xd (yL nm) 280 1 281 (.aload_n 2) := ⟨(by decide +kernel : decode code 280 = .ok (.aload_n 2, 1)), rfl⟩
theorem d_LW_law_281 {nm : String} : xd (yL nm) 281 3 284 (.invokevirtual 58) := ⟨(by decide +kernel : decode code 281 = .ok (.invokevirtual 58, 3)), rfl⟩
theorem d_LW_law_284 {nm : String} : xd (yL nm) 284 3 287 (.if_icmp .eq 114) := ⟨(by decide +kernel : decode code 284 = .ok (.if_icmp .eq 114, 3)), rfl⟩
theorem d_LW_law_287 {nm : String} : xd (yL nm) 287 1 288 (.iconst 0) := ⟨(by decide +kernel : decode code 287 = .ok (.iconst 0, 1)), rfl⟩
theorem d_LW_law_288 {nm : String} : xd (yL nm) 288 1 289 (.ireturn) := ⟨(by decide +kernel : decode code 288 = .ok (.ireturn, 1)), rfl⟩
theorem d_LW_law_289 {nm : String} : xd (yL nm) 289 1 290 (.aload_n 1) := ⟨(by decide +kernel : decode code 289 = .ok (.aload_n 1, 1)), rfl⟩
theorem d_LW_law_290 {nm : String} : xd (yL nm) 290 1 291 (.aload_n 0) := ⟨(by decide +kernel : decode code 290 = .ok (.aload_n 0, 1)), rfl⟩
theorem d_LW_law_291 {nm : String} : xd (yL nm) 291 1 292 (.iload_n 3) := ⟨(by decide +kernel : decode code 291 = .ok (.iload_n 3, 1)), rfl⟩
theorem d_LW_law_292 {nm : String} : xd (yL nm) 292 1 293 (.iconst 1) := ⟨(by decide +kernel : decode code 292 = .ok (.iconst 1, 1)), rfl⟩
theorem d_LW_law_293 {nm : String} : xd (yL nm) 293 1 294 (.iadd) := ⟨(by decide +kernel : decode code 293 = .ok (.iadd, 1)), rfl⟩
theorem d_LW_law_294 {nm : String} : xd (yL nm) 294 1 295 (.iaload) := ⟨(by decide +kernel : decode code 294 = .ok (.iaload, 1)), rfl⟩
theorem d_LW_law_295 {nm : String} : xd (yL nm) 295 3 298 (.invokevirtual 59) := ⟨(by decide +kernel : decode code 295 = .ok (.invokevirtual 59, 3)), rfl⟩
theorem d_LW_law_298 {nm : String} : xd (yL nm) 298 1 299 (.aload_n 2) := ⟨(by decide +kernel : decode code 298 = .ok (.aload_n 2, 1)), rfl⟩
theorem d_LW_law_299 {nm : String} : xd (yL nm) 299 1 300 (.aload_n 0) := ⟨(by decide +kernel : decode code 299 = .ok (.aload_n 0, 1)), rfl⟩
theorem d_LW_law_300 {nm : String} : xd (yL nm) 300 1 301 (.iload_n 3) := ⟨(by decide +kernel : decode code 300 = .ok (.iload_n 3, 1)), rfl⟩
theorem d_LW_law_301 {nm : String} : xd (yL nm) 301 1 302 (.iconst 1) := ⟨(by decide +kernel : decode code 301 = .ok (.iconst 1, 1)), rfl⟩
theorem d_LW_law_302 {nm : String} : xd (yL nm) 302 1 303 (.iadd) := ⟨(by decide +kernel : decode code 302 = .ok (.iadd, 1)), rfl⟩
theorem d_LW_law_303 {nm : String} : xd (yL nm) 303 1 304 (.iaload) := ⟨(by decide +kernel : decode code 303 = .ok (.iaload, 1)), rfl⟩
theorem d_LW_law_304 {nm : String} : xd (yL nm) 304 3 307 (.invokevirtual 63) := ⟨(by decide +kernel : decode code 304 = .ok (.invokevirtual 63, 3)), rfl⟩
theorem d_LW_law_307 {nm : String} : xd (yL nm) 307 3 310 (.if_icmp .eq 91) := ⟨(by decide +kernel : decode code 307 = .ok (.if_icmp .eq 91, 3)), rfl⟩
theorem d_LW_law_310 {nm : String} : xd (yL nm) 310 1 311 (.iconst 0) := ⟨(by decide +kernel : decode code 310 = .ok (.iconst 0, 1)), rfl⟩
theorem d_LW_law_311 {nm : String} : xd (yL nm) 311 1 312 (.ireturn) := ⟨(by decide +kernel : decode code 311 = .ok (.ireturn, 1)), rfl⟩
theorem d_LW_law_312 {nm : String} : xd (yL nm) 312 1 313 (.aload_n 1) := ⟨(by decide +kernel : decode code 312 = .ok (.aload_n 1, 1)), rfl⟩
theorem d_LW_law_313 {nm : String} : xd (yL nm) 313 1 314 (.aload_n 0) := ⟨(by decide +kernel : decode code 313 = .ok (.aload_n 0, 1)), rfl⟩
theorem d_LW_law_314 {nm : String} : xd (yL nm) 314 1 315 (.iload_n 3) := ⟨(by decide +kernel : decode code 314 = .ok (.iload_n 3, 1)), rfl⟩
theorem d_LW_law_315 {nm : String} : xd (yL nm) 315 1 316 (.iconst 1) := ⟨(by decide +kernel : decode code 315 = .ok (.iconst 1, 1)), rfl⟩
theorem d_LW_law_316 {nm : String} : xd (yL nm) 316 1 317 (.iadd) := ⟨(by decide +kernel : decode code 316 = .ok (.iadd, 1)), rfl⟩
theorem d_LW_law_317 {nm : String} : xd (yL nm) 317 1 318 (.iaload) := ⟨(by decide +kernel : decode code 317 = .ok (.iaload, 1)), rfl⟩
theorem d_LW_law_318 {nm : String} : xd (yL nm) 318 1 319 (.aload_n 0) := ⟨(by decide +kernel : decode code 318 = .ok (.aload_n 0, 1)), rfl⟩
theorem d_LW_law_319 {nm : String} : xd (yL nm) 319 1 320 (.iload_n 3) := ⟨(by decide +kernel : decode code 319 = .ok (.iload_n 3, 1)), rfl⟩
theorem d_LW_law_320 {nm : String} : xd (yL nm) 320 1 321 (.iconst 2) := ⟨(by decide +kernel : decode code 320 = .ok (.iconst 2, 1)), rfl⟩
theorem d_LW_law_321 {nm : String} : xd (yL nm) 321 1 322 (.iadd) := ⟨(by decide +kernel : decode code 321 = .ok (.iadd, 1)), rfl⟩
theorem d_LW_law_322 {nm : String} : xd (yL nm) 322 1 323 (.iaload) := ⟨(by decide +kernel : decode code 322 = .ok (.iaload, 1)), rfl⟩
theorem d_LW_law_323 {nm : String} : xd (yL nm) 323 3 326 (.invokevirtual 64) := ⟨(by decide +kernel : decode code 323 = .ok (.invokevirtual 64, 3)), rfl⟩
theorem d_LW_law_326 {nm : String} : xd (yL nm) 326 1 327 (.aload_n 2) := ⟨(by decide +kernel : decode code 326 = .ok (.aload_n 2, 1)), rfl⟩
theorem d_LW_law_327 {nm : String} : xd (yL nm) 327 1 328 (.aload_n 0) := ⟨(by decide +kernel : decode code 327 = .ok (.aload_n 0, 1)), rfl⟩
theorem d_LW_law_328 {nm : String} : xd (yL nm) 328 1 329 (.iload_n 3) := ⟨(by decide +kernel : decode code 328 = .ok (.iload_n 3, 1)), rfl⟩
theorem d_LW_law_329 {nm : String} : xd (yL nm) 329 1 330 (.iconst 1) := ⟨(by decide +kernel : decode code 329 = .ok (.iconst 1, 1)), rfl⟩
theorem d_LW_law_330 {nm : String} : xd (yL nm) 330 1 331 (.iadd) := ⟨(by decide +kernel : decode code 330 = .ok (.iadd, 1)), rfl⟩
theorem d_LW_law_331 {nm : String} : xd (yL nm) 331 1 332 (.iaload) := ⟨(by decide +kernel : decode code 331 = .ok (.iaload, 1)), rfl⟩
theorem d_LW_law_332 {nm : String} : xd (yL nm) 332 1 333 (.aload_n 0) := ⟨(by decide +kernel : decode code 332 = .ok (.aload_n 0, 1)), rfl⟩
theorem d_LW_law_333 {nm : String} : xd (yL nm) 333 1 334 (.iload_n 3) := ⟨(by decide +kernel : decode code 333 = .ok (.iload_n 3, 1)), rfl⟩
theorem d_LW_law_334 {nm : String} : xd (yL nm) 334 1 335 (.iconst 2) := ⟨(by decide +kernel : decode code 334 = .ok (.iconst 2, 1)), rfl⟩
theorem d_LW_law_335 {nm : String} : xd (yL nm) 335 1 336 (.iadd) := ⟨(by decide +kernel : decode code 335 = .ok (.iadd, 1)), rfl⟩
theorem d_LW_law_336 {nm : String} : xd (yL nm) 336 1 337 (.iaload) := ⟨(by decide +kernel : decode code 336 = .ok (.iaload, 1)), rfl⟩
theorem d_LW_law_337 {nm : String} : xd (yL nm) 337 3 340 (.invokevirtual 68) := ⟨(by decide +kernel : decode code 337 = .ok (.invokevirtual 68, 3)), rfl⟩
theorem d_LW_law_340 {nm : String} : xd (yL nm) 340 3 343 (.if_icmp .eq 58) := ⟨(by decide +kernel : decode code 340 = .ok (.if_icmp .eq 58, 3)), rfl⟩
theorem d_LW_law_343 {nm : String} : xd (yL nm) 343 1 344 (.iconst 0) := ⟨(by decide +kernel : decode code 343 = .ok (.iconst 0, 1)), rfl⟩
theorem d_LW_law_344 {nm : String} : xd (yL nm) 344 1 345 (.ireturn) := ⟨(by decide +kernel : decode code 344 = .ok (.ireturn, 1)), rfl⟩
theorem d_LW_law_345 {nm : String} : xd (yL nm) 345 1 346 (.aload_n 1) := ⟨(by decide +kernel : decode code 345 = .ok (.aload_n 1, 1)), rfl⟩
theorem d_LW_law_346 {nm : String} : xd (yL nm) 346 1 347 (.aload_n 0) := ⟨(by decide +kernel : decode code 346 = .ok (.aload_n 0, 1)), rfl⟩
theorem d_LW_law_347 {nm : String} : xd (yL nm) 347 1 348 (.iload_n 3) := ⟨(by decide +kernel : decode code 347 = .ok (.iload_n 3, 1)), rfl⟩
theorem d_LW_law_348 {nm : String} : xd (yL nm) 348 1 349 (.iconst 1) := ⟨(by decide +kernel : decode code 348 = .ok (.iconst 1, 1)), rfl⟩
theorem d_LW_law_349 {nm : String} : xd (yL nm) 349 1 350 (.iadd) := ⟨(by decide +kernel : decode code 349 = .ok (.iadd, 1)), rfl⟩
theorem d_LW_law_350 {nm : String} : xd (yL nm) 350 1 351 (.iaload) := ⟨(by decide +kernel : decode code 350 = .ok (.iaload, 1)), rfl⟩
theorem d_LW_law_351 {nm : String} : xd (yL nm) 351 1 352 (.aload_n 0) := ⟨(by decide +kernel : decode code 351 = .ok (.aload_n 0, 1)), rfl⟩
theorem d_LW_law_352 {nm : String} : xd (yL nm) 352 1 353 (.iload_n 3) := ⟨(by decide +kernel : decode code 352 = .ok (.iload_n 3, 1)), rfl⟩
theorem d_LW_law_353 {nm : String} : xd (yL nm) 353 1 354 (.iconst 2) := ⟨(by decide +kernel : decode code 353 = .ok (.iconst 2, 1)), rfl⟩
theorem d_LW_law_354 {nm : String} : xd (yL nm) 354 1 355 (.iadd) := ⟨(by decide +kernel : decode code 354 = .ok (.iadd, 1)), rfl⟩
theorem d_LW_law_355 {nm : String} : xd (yL nm) 355 1 356 (.iaload) := ⟨(by decide +kernel : decode code 355 = .ok (.iaload, 1)), rfl⟩
theorem d_LW_law_356 {nm : String} : xd (yL nm) 356 1 357 (.aload_n 0) := ⟨(by decide +kernel : decode code 356 = .ok (.aload_n 0, 1)), rfl⟩
theorem d_LW_law_357 {nm : String} : xd (yL nm) 357 1 358 (.iload_n 3) := ⟨(by decide +kernel : decode code 357 = .ok (.iload_n 3, 1)), rfl⟩
theorem d_LW_law_358 {nm : String} : xd (yL nm) 358 1 359 (.iconst 3) := ⟨(by decide +kernel : decode code 358 = .ok (.iconst 3, 1)), rfl⟩
theorem d_LW_law_359 {nm : String} : xd (yL nm) 359 1 360 (.iadd) := ⟨(by decide +kernel : decode code 359 = .ok (.iadd, 1)), rfl⟩
theorem d_LW_law_360 {nm : String} : xd (yL nm) 360 1 361 (.iaload) := ⟨(by decide +kernel : decode code 360 = .ok (.iaload, 1)), rfl⟩
theorem d_LW_law_361 {nm : String} : xd (yL nm) 361 1 362 (.aload_n 0) := ⟨(by decide +kernel : decode code 361 = .ok (.aload_n 0, 1)), rfl⟩
theorem d_LW_law_362 {nm : String} : xd (yL nm) 362 1 363 (.iload_n 3) := ⟨(by decide +kernel : decode code 362 = .ok (.iload_n 3, 1)), rfl⟩
theorem d_LW_law_363 {nm : String} : xd (yL nm) 363 1 364 (.iconst 4) := ⟨(by decide +kernel : decode code 363 = .ok (.iconst 4, 1)), rfl⟩
theorem d_LW_law_364 {nm : String} : xd (yL nm) 364 1 365 (.iadd) := ⟨(by decide +kernel : decode code 364 = .ok (.iadd, 1)), rfl⟩
theorem d_LW_law_365 {nm : String} : xd (yL nm) 365 1 366 (.iaload) := ⟨(by decide +kernel : decode code 365 = .ok (.iaload, 1)), rfl⟩
theorem d_LW_law_366 {nm : String} : xd (yL nm) 366 3 369 (.invokevirtual 69) := ⟨(by decide +kernel : decode code 366 = .ok (.invokevirtual 69, 3)), rfl⟩
theorem d_LW_law_369 {nm : String} : xd (yL nm) 369 1 370 (.aload_n 2) := ⟨(by decide +kernel : decode code 369 = .ok (.aload_n 2, 1)), rfl⟩
theorem d_LW_law_370 {nm : String} : xd (yL nm) 370 1 371 (.aload_n 0) := ⟨(by decide +kernel : decode code 370 = .ok (.aload_n 0, 1)), rfl⟩
theorem d_LW_law_371 {nm : String} : xd (yL nm) 371 1 372 (.iload_n 3) := ⟨(by decide +kernel : decode code 371 = .ok (.iload_n 3, 1)), rfl⟩
theorem d_LW_law_372 {nm : String} : xd (yL nm) 372 1 373 (.iconst 1) := ⟨(by decide +kernel : decode code 372 = .ok (.iconst 1, 1)), rfl⟩
theorem d_LW_law_373 {nm : String} : xd (yL nm) 373 1 374 (.iadd) := ⟨(by decide +kernel : decode code 373 = .ok (.iadd, 1)), rfl⟩
theorem d_LW_law_374 {nm : String} : xd (yL nm) 374 1 375 (.iaload) := ⟨(by decide +kernel : decode code 374 = .ok (.iaload, 1)), rfl⟩
theorem d_LW_law_375 {nm : String} : xd (yL nm) 375 1 376 (.aload_n 0) := ⟨(by decide +kernel : decode code 375 = .ok (.aload_n 0, 1)), rfl⟩
theorem d_LW_law_376 {nm : String} : xd (yL nm) 376 1 377 (.iload_n 3) := ⟨(by decide +kernel : decode code 376 = .ok (.iload_n 3, 1)), rfl⟩
theorem d_LW_law_377 {nm : String} : xd (yL nm) 377 1 378 (.iconst 2) := ⟨(by decide +kernel : decode code 377 = .ok (.iconst 2, 1)), rfl⟩
theorem d_LW_law_378 {nm : String} : xd (yL nm) 378 1 379 (.iadd) := ⟨(by decide +kernel : decode code 378 = .ok (.iadd, 1)), rfl⟩
theorem d_LW_law_379 {nm : String} : xd (yL nm) 379 1 380 (.iaload) := ⟨(by decide +kernel : decode code 379 = .ok (.iaload, 1)), rfl⟩
theorem d_LW_law_380 {nm : String} : xd (yL nm) 380 1 381 (.aload_n 0) := ⟨(by decide +kernel : decode code 380 = .ok (.aload_n 0, 1)), rfl⟩
theorem d_LW_law_381 {nm : String} : xd (yL nm) 381 1 382 (.iload_n 3) := ⟨(by decide +kernel : decode code 381 = .ok (.iload_n 3, 1)), rfl⟩
theorem d_LW_law_382 {nm : String} : xd (yL nm) 382 1 383 (.iconst 3) := ⟨(by decide +kernel : decode code 382 = .ok (.iconst 3, 1)), rfl⟩
theorem d_LW_law_383 {nm : String} : xd (yL nm) 383 1 384 (.iadd) := ⟨(by decide +kernel : decode code 383 = .ok (.iadd, 1)), rfl⟩
theorem d_LW_law_384 {nm : String} : xd (yL nm) 384 1 385 (.iaload) := ⟨(by decide +kernel : decode code 384 = .ok (.iaload, 1)), rfl⟩
theorem d_LW_law_385 {nm : String} : xd (yL nm) 385 1 386 (.aload_n 0) := ⟨(by decide +kernel : decode code 385 = .ok (.aload_n 0, 1)), rfl⟩
theorem d_LW_law_386 {nm : String} : xd (yL nm) 386 1 387 (.iload_n 3) := ⟨(by decide +kernel : decode code 386 = .ok (.iload_n 3, 1)), rfl⟩
theorem d_LW_law_387 {nm : String} : xd (yL nm) 387 1 388 (.iconst 4) := ⟨(by decide +kernel : decode code 387 = .ok (.iconst 4, 1)), rfl⟩
theorem d_LW_law_388 {nm : String} : xd (yL nm) 388 1 389 (.iadd) := ⟨(by decide +kernel : decode code 388 = .ok (.iadd, 1)), rfl⟩
theorem d_LW_law_389 {nm : String} : xd (yL nm) 389 1 390 (.iaload) := ⟨(by decide +kernel : decode code 389 = .ok (.iaload, 1)), rfl⟩
theorem d_LW_law_390 {nm : String} : xd (yL nm) 390 3 393 (.invokevirtual 73) := ⟨(by decide +kernel : decode code 390 = .ok (.invokevirtual 73, 3)), rfl⟩
theorem d_LW_law_393 {nm : String} : xd (yL nm) 393 3 396 (.if_icmp .eq 5) := ⟨(by decide +kernel : decode code 393 = .ok (.if_icmp .eq 5, 3)), rfl⟩
theorem d_LW_law_396 {nm : String} : xd (yL nm) 396 1 397 (.iconst 0) := ⟨(by decide +kernel : decode code 396 = .ok (.iconst 0, 1)), rfl⟩
theorem d_LW_law_397 {nm : String} : xd (yL nm) 397 1 398 (.ireturn) := ⟨(by decide +kernel : decode code 397 = .ok (.ireturn, 1)), rfl⟩
theorem d_LW_law_398 {nm : String} : xd (yL nm) 398 3 401 (.iinc 3 5) := ⟨(by decide +kernel : decode code 398 = .ok (.iinc 3 5, 3)), rfl⟩
theorem d_LW_law_401 {nm : String} : xd (yL nm) 401 3 404 (.goto (-383)) := ⟨(by decide +kernel : decode code 401 = .ok (.goto (-383), 3)), rfl⟩
theorem d_LW_law_404 {nm : String} : xd (yL nm) 404 1 405 (.iconst 1) := ⟨(by decide +kernel : decode code 404 = .ok (.iconst 1, 1)), rfl⟩
theorem d_LW_law_405 {nm : String} : xd (yL nm) 405 1 406 (.ireturn) := ⟨(by decide +kernel : decode code 405 = .ok (.ireturn, 1)), rfl⟩
abbrev G_LW_law (l : Launch) (V : xV) (Q : String × xFin) (pc : Nat) (lv : List (Nat × xX)) (st : List xX) (I : xIt) (J : xJt) (P : xPt) : Prop := xG l V (yL Q.1) room_1 Q.2 pc lv st xS0 I J P (0, 0)
set_option maxRecDepth 20000 in
theorem b_LW_law_18 {l : Launch} {V : xV} {Q : String × xFin} {I : xIt} {J : xJt} {P : xPt} (hL : xL P) {v3 : Int32} (h : ((((Int32.ofNat V.2.2.2.2.1) - 5) < v3 → G_LW_law l V Q 404 [(3, xi v3), (2, xq (some 250)), (1, xq (some 0)), (0, xt 3)] [] I J P) ∧ (¬ ((Int32.ofNat V.2.2.2.2.1) - 5) < v3 → (vp_in v3 V.2.2.2.2.1 ∧ (((V.2.2.2.2.2 v3.toNatClampNeg) &&& 15 = 0 → G_LW_law l V Q 100 [(3, xi v3), (2, xq (some 250)), (1, xq (some 0)), (0, xt 3)] [] I J P) ∧ ((V.2.2.2.2.2 v3.toNatClampNeg) &&& 15 = 1 → G_LW_law l V Q 163 [(3, xi v3), (2, xq (some 250)), (1, xq (some 0)), (0, xt 3)] [] I J P) ∧ ((V.2.2.2.2.2 v3.toNatClampNeg) &&& 15 = 2 → G_LW_law l V Q 174 [(3, xi v3), (2, xq (some 250)), (1, xq (some 0)), (0, xt 3)] [] I J P) ∧ ((V.2.2.2.2.2 v3.toNatClampNeg) &&& 15 = 3 → G_LW_law l V Q 187 [(3, xi v3), (2, xq (some 250)), (1, xq (some 0)), (0, xt 3)] [] I J P) ∧ ((V.2.2.2.2.2 v3.toNatClampNeg) &&& 15 = 4 → G_LW_law l V Q 200 [(3, xi v3), (2, xq (some 250)), (1, xq (some 0)), (0, xt 3)] [] I J P) ∧ ((V.2.2.2.2.2 v3.toNatClampNeg) &&& 15 = 5 → G_LW_law l V Q 213 [(3, xi v3), (2, xq (some 250)), (1, xq (some 0)), (0, xt 3)] [] I J P) ∧ ((V.2.2.2.2.2 v3.toNatClampNeg) &&& 15 = 6 → G_LW_law l V Q 226 [(3, xi v3), (2, xq (some 250)), (1, xq (some 0)), (0, xt 3)] [] I J P) ∧ ((V.2.2.2.2.2 v3.toNatClampNeg) &&& 15 = 7 → G_LW_law l V Q 239 [(3, xi v3), (2, xq (some 250)), (1, xq (some 0)), (0, xt 3)] [] I J P) ∧ ((V.2.2.2.2.2 v3.toNatClampNeg) &&& 15 = 8 → G_LW_law l V Q 252 [(3, xi v3), (2, xq (some 250)), (1, xq (some 0)), (0, xt 3)] [] I J P) ∧ ((V.2.2.2.2.2 v3.toNatClampNeg) &&& 15 = 9 → G_LW_law l V Q 276 [(3, xi v3), (2, xq (some 250)), (1, xq (some 0)), (0, xt 3)] [] I J P) ∧ ((V.2.2.2.2.2 v3.toNatClampNeg) &&& 15 = 10 → G_LW_law l V Q 289 [(3, xi v3), (2, xq (some 250)), (1, xq (some 0)), (0, xt 3)] [] I J P) ∧ ((V.2.2.2.2.2 v3.toNatClampNeg) &&& 15 = 11 → G_LW_law l V Q 312 [(3, xi v3), (2, xq (some 250)), (1, xq (some 0)), (0, xt 3)] [] I J P) ∧ ((V.2.2.2.2.2 v3.toNatClampNeg) &&& 15 = 12 → G_LW_law l V Q 345 [(3, xi v3), (2, xq (some 250)), (1, xq (some 0)), (0, xt 3)] [] I J P) ∧ (¬ (V.2.2.2.2.2 v3.toNatClampNeg) &&& 15 = 0 → ¬ (V.2.2.2.2.2 v3.toNatClampNeg) &&& 15 = 1 → ¬ (V.2.2.2.2.2 v3.toNatClampNeg) &&& 15 = 2 → ¬ (V.2.2.2.2.2 v3.toNatClampNeg) &&& 15 = 3 → ¬ (V.2.2.2.2.2 v3.toNatClampNeg) &&& 15 = 4 → ¬ (V.2.2.2.2.2 v3.toNatClampNeg) &&& 15 = 5 → ¬ (V.2.2.2.2.2 v3.toNatClampNeg) &&& 15 = 6 → ¬ (V.2.2.2.2.2 v3.toNatClampNeg) &&& 15 = 7 → ¬ (V.2.2.2.2.2 v3.toNatClampNeg) &&& 15 = 8 → ¬ (V.2.2.2.2.2 v3.toNatClampNeg) &&& 15 = 9 → ¬ (V.2.2.2.2.2 v3.toNatClampNeg) &&& 15 = 10 → ¬ (V.2.2.2.2.2 v3.toNatClampNeg) &&& 15 = 11 → ¬ (V.2.2.2.2.2 v3.toNatClampNeg) &&& 15 = 12 → G_LW_law l V Q 398 [(3, xi v3), (2, xq (some 250)), (1, xq (some 0)), (0, xt 3)] [] I J P)))))) : G_LW_law l V Q 18 [(3, xi v3), (2, xq (some 250)), (1, xq (some 0)), (0, xt 3)] [] I J P := by
  refine xG_iload_n d_LW_law_18 rfl rfl ?_
  refine xG_aload_n d_LW_law_19 rfl rfl rfl ?_
  refine xG_tlen (v := Int32.ofNat V.2.2.2.2.1) d_LW_law_20 (by decide) rfl ?_
  refine xG_iconst (v := 5) d_LW_law_21 rfl ?_
  refine xG_isub d_LW_law_22 ?_
  refine xG_icmp_gt (tgt := 404) d_LW_law_23 (by decide) (fun c => ?_) (fun c => ?_)
  · have h := h.1 c
    exact h
  · have h := h.2 c
    refine xG_aload_n d_LW_law_26 rfl rfl rfl ?_
    refine xG_iload_n d_LW_law_27 rfl rfl ?_
    refine xG_ti d_LW_law_28 (by decide) rfl h.1 ?_
    have h := h.2
    refine xG_topi (x' := V.2.2.2.2.2 v3.toNatClampNeg) rfl ?_
    refine xG_bipush (v := 15) d_LW_law_29 rfl ?_
    refine xG_iand d_LW_law_31 ?_
    by_cases c0 : (V.2.2.2.2.2 v3.toNatClampNeg) &&& 15 = 0
    · have h := h.1 c0
      refine xG_topi (x' := 0) c0 ?_
      refine xG_tableIn (off := 68) (tgt := 100) d_LW_law_32 (by decide) (by decide) rfl (by decide) ?_
      exact h
    by_cases c1 : (V.2.2.2.2.2 v3.toNatClampNeg) &&& 15 = 1
    · have h := h.2.1 c1
      refine xG_topi (x' := 1) c1 ?_
      refine xG_tableIn (off := 131) (tgt := 163) d_LW_law_32 (by decide) (by decide) rfl (by decide) ?_
      exact h
    by_cases c2 : (V.2.2.2.2.2 v3.toNatClampNeg) &&& 15 = 2
    · have h := h.2.2.1 c2
      refine xG_topi (x' := 2) c2 ?_
      refine xG_tableIn (off := 142) (tgt := 174) d_LW_law_32 (by decide) (by decide) rfl (by decide) ?_
      exact h
    by_cases c3 : (V.2.2.2.2.2 v3.toNatClampNeg) &&& 15 = 3
    · have h := h.2.2.2.1 c3
      refine xG_topi (x' := 3) c3 ?_
      refine xG_tableIn (off := 155) (tgt := 187) d_LW_law_32 (by decide) (by decide) rfl (by decide) ?_
      exact h
    by_cases c4 : (V.2.2.2.2.2 v3.toNatClampNeg) &&& 15 = 4
    · have h := h.2.2.2.2.1 c4
      refine xG_topi (x' := 4) c4 ?_
      refine xG_tableIn (off := 168) (tgt := 200) d_LW_law_32 (by decide) (by decide) rfl (by decide) ?_
      exact h
    by_cases c5 : (V.2.2.2.2.2 v3.toNatClampNeg) &&& 15 = 5
    · have h := h.2.2.2.2.2.1 c5
      refine xG_topi (x' := 5) c5 ?_
      refine xG_tableIn (off := 181) (tgt := 213) d_LW_law_32 (by decide) (by decide) rfl (by decide) ?_
      exact h
    by_cases c6 : (V.2.2.2.2.2 v3.toNatClampNeg) &&& 15 = 6
    · have h := h.2.2.2.2.2.2.1 c6
      refine xG_topi (x' := 6) c6 ?_
      refine xG_tableIn (off := 194) (tgt := 226) d_LW_law_32 (by decide) (by decide) rfl (by decide) ?_
      exact h
    by_cases c7 : (V.2.2.2.2.2 v3.toNatClampNeg) &&& 15 = 7
    · have h := h.2.2.2.2.2.2.2.1 c7
      refine xG_topi (x' := 7) c7 ?_
      refine xG_tableIn (off := 207) (tgt := 239) d_LW_law_32 (by decide) (by decide) rfl (by decide) ?_
      exact h
    by_cases c8 : (V.2.2.2.2.2 v3.toNatClampNeg) &&& 15 = 8
    · have h := h.2.2.2.2.2.2.2.2.1 c8
      refine xG_topi (x' := 8) c8 ?_
      refine xG_tableIn (off := 220) (tgt := 252) d_LW_law_32 (by decide) (by decide) rfl (by decide) ?_
      exact h
    by_cases c9 : (V.2.2.2.2.2 v3.toNatClampNeg) &&& 15 = 9
    · have h := h.2.2.2.2.2.2.2.2.2.1 c9
      refine xG_topi (x' := 9) c9 ?_
      refine xG_tableIn (off := 244) (tgt := 276) d_LW_law_32 (by decide) (by decide) rfl (by decide) ?_
      exact h
    by_cases c10 : (V.2.2.2.2.2 v3.toNatClampNeg) &&& 15 = 10
    · have h := h.2.2.2.2.2.2.2.2.2.2.1 c10
      refine xG_topi (x' := 10) c10 ?_
      refine xG_tableIn (off := 257) (tgt := 289) d_LW_law_32 (by decide) (by decide) rfl (by decide) ?_
      exact h
    by_cases c11 : (V.2.2.2.2.2 v3.toNatClampNeg) &&& 15 = 11
    · have h := h.2.2.2.2.2.2.2.2.2.2.2.1 c11
      refine xG_topi (x' := 11) c11 ?_
      refine xG_tableIn (off := 280) (tgt := 312) d_LW_law_32 (by decide) (by decide) rfl (by decide) ?_
      exact h
    by_cases c12 : (V.2.2.2.2.2 v3.toNatClampNeg) &&& 15 = 12
    · have h := h.2.2.2.2.2.2.2.2.2.2.2.2.1 c12
      refine xG_topi (x' := 12) c12 ?_
      refine xG_tableIn (off := 313) (tgt := 345) d_LW_law_32 (by decide) (by decide) rfl (by decide) ?_
      exact h
    have h := h.2.2.2.2.2.2.2.2.2.2.2.2.2 c0 c1 c2 c3 c4 c5 c6 c7 c8 c9 c10 c11 c12
    refine xG_tableOut (tgt := 398) d_LW_law_32 (by have n0 := lv_neT c0 (show (0 : Int32).toInt = 0 by decide); have n1 := lv_neT c1 (show (1 : Int32).toInt = 1 by decide); have n2 := lv_neT c2 (show (2 : Int32).toInt = 2 by decide); have n3 := lv_neT c3 (show (3 : Int32).toInt = 3 by decide); have n4 := lv_neT c4 (show (4 : Int32).toInt = 4 by decide); have n5 := lv_neT c5 (show (5 : Int32).toInt = 5 by decide); have n6 := lv_neT c6 (show (6 : Int32).toInt = 6 by decide); have n7 := lv_neT c7 (show (7 : Int32).toInt = 7 by decide); have n8 := lv_neT c8 (show (8 : Int32).toInt = 8 by decide); have n9 := lv_neT c9 (show (9 : Int32).toInt = 9 by decide); have n10 := lv_neT c10 (show (10 : Int32).toInt = 10 by decide); have n11 := lv_neT c11 (show (11 : Int32).toInt = 11 by decide); have n12 := lv_neT c12 (show (12 : Int32).toInt = 12 by decide); omega) (by decide) ?_
    exact h
set_option maxRecDepth 20000 in
theorem b_LW_law_100 {l : Launch} {V : xV} {Q : String × xFin} {I : xIt} {J : xJt} {P : xPt} (hL : xL P) {v3 : Int32} (h : (vp_in (v3 + 1) V.2.2.2.2.1 ∧ (vp_in (v3 + 2) V.2.2.2.2.1 ∧ (vp_in (v3 + 3) V.2.2.2.2.1 ∧ (∃ Q1 : Int32 → xIt → xJt → xPt → Prop, xMet l V y_DS_feed 13 0 0 [xq (some 0), xj ((((V.2.2.2.2.2 (v3 + 1).toNatClampNeg).toInt64) <<< ((32 : Int32).toInt64 &&& 63)) ||| (((V.2.2.2.2.2 (v3 + 2).toNatClampNeg).toInt64) &&& 4294967295)), xi (V.2.2.2.2.2 (v3 + 3).toNatClampNeg)] xS0 I J P (xPi Q1) ∧ ∀ (z1 : Int32) (I1 : xIt) (J1 : xJt) (P1 : xPt), Q1 z1 I1 J1 P1 → (vp_in (v3 + 1) V.2.2.2.2.1 ∧ (vp_in (v3 + 2) V.2.2.2.2.1 ∧ (vp_in (v3 + 3) V.2.2.2.2.1 ∧ (∃ Q2 : Int32 → xIt → xJt → xPt → Prop, xMet l V y_RF_feed 9 0 0 [xq (some 250), xj ((((V.2.2.2.2.2 (v3 + 1).toNatClampNeg).toInt64) <<< ((32 : Int32).toInt64 &&& 63)) ||| (((V.2.2.2.2.2 (v3 + 2).toNatClampNeg).toInt64) &&& 4294967295)), xi (V.2.2.2.2.2 (v3 + 3).toNatClampNeg)] xS0 I1 J1 P1 (xPi Q2) ∧ ∀ (z2 : Int32) (I2 : xIt) (J2 : xJt) (P2 : xPt), Q2 z2 I2 J2 P2 → ((z1 = z2 → G_LW_law l V Q 398 [(3, xi v3), (2, xq (some 250)), (1, xq (some 0)), (0, xt 3)] [] I2 J2 P2) ∧ (¬ z1 = z2 → False))))))))))) : G_LW_law l V Q 100 [(3, xi v3), (2, xq (some 250)), (1, xq (some 0)), (0, xt 3)] [] I J P := by
  refine xG_aload_n d_LW_law_100 rfl rfl rfl ?_
  refine xG_aload_n d_LW_law_101 rfl rfl rfl ?_
  refine xG_iload_n d_LW_law_102 rfl rfl ?_
  refine xG_iconst (v := 1) d_LW_law_103 rfl ?_
  refine xG_iadd d_LW_law_104 ?_
  refine xG_ti d_LW_law_105 (by decide) rfl h.1 ?_
  have h := h.2
  refine xG_topi (x' := V.2.2.2.2.2 (v3 + 1).toNatClampNeg) rfl ?_
  refine xG_i2l d_LW_law_106 ?_
  refine xG_bipush (v := 32) d_LW_law_107 rfl ?_
  refine xG_lshl d_LW_law_109 ?_
  refine xG_aload_n d_LW_law_110 rfl rfl rfl ?_
  refine xG_iload_n d_LW_law_111 rfl rfl ?_
  refine xG_iconst (v := 2) d_LW_law_112 rfl ?_
  refine xG_iadd d_LW_law_113 ?_
  refine xG_ti d_LW_law_114 (by decide) rfl h.1 ?_
  have h := h.2
  refine xG_topi (x' := V.2.2.2.2.2 (v3 + 2).toNatClampNeg) rfl ?_
  refine xG_i2l d_LW_law_115 ?_
  refine xG_ldc2 (v := 4294967295) d_LW_law_116 w6_7 ?_
  refine xG_land d_LW_law_119 ?_
  refine xG_lor d_LW_law_120 ?_
  refine xG_aload_n d_LW_law_121 rfl rfl rfl ?_
  refine xG_iload_n d_LW_law_122 rfl rfl ?_
  refine xG_iconst (v := 3) d_LW_law_123 rfl ?_
  refine xG_iadd d_LW_law_124 ?_
  refine xG_ti d_LW_law_125 (by decide) rfl h.1 ?_
  have h := h.2
  refine xG_topi (x' := V.2.2.2.2.2 (v3 + 3).toNatClampNeg) rfl ?_
  obtain ⟨Q1, hM, h⟩ := h
  refine xG_callv (as := [xj ((((V.2.2.2.2.2 (v3 + 1).toNatClampNeg).toInt64) <<< ((32 : Int32).toInt64 &&& 63)) ||| (((V.2.2.2.2.2 (v3 + 2).toNatClampNeg).toInt64) &&& 4294967295)), xi (V.2.2.2.2.2 (v3 + 3).toNatClampNeg)]) (rest := []) d_LW_law_126 yv_DS_feed w2_38 rfl rfl rfl s0_0 (by decide) rfl hM ⟨by decide, by decide⟩ (Nat.le_of_ble_eq_true rfl) ⟨Nat.zero_le _, Nat.zero_le _⟩ (fun r S1 I1 J1 P1 hp => ?_)
  obtain ⟨rfl, hL1, z1, rfl, hq⟩ := hp
  have h := h z1 I1 J1 P1 hq
  refine xG_aload_n d_LW_law_129 rfl rfl rfl ?_
  refine xG_aload_n d_LW_law_130 rfl rfl rfl ?_
  refine xG_iload_n d_LW_law_131 rfl rfl ?_
  refine xG_iconst (v := 1) d_LW_law_132 rfl ?_
  refine xG_iadd d_LW_law_133 ?_
  refine xG_ti d_LW_law_134 (by decide) rfl h.1 ?_
  have h := h.2
  refine xG_topi (x' := V.2.2.2.2.2 (v3 + 1).toNatClampNeg) rfl ?_
  refine xG_i2l d_LW_law_135 ?_
  refine xG_bipush (v := 32) d_LW_law_136 rfl ?_
  refine xG_lshl d_LW_law_138 ?_
  refine xG_aload_n d_LW_law_139 rfl rfl rfl ?_
  refine xG_iload_n d_LW_law_140 rfl rfl ?_
  refine xG_iconst (v := 2) d_LW_law_141 rfl ?_
  refine xG_iadd d_LW_law_142 ?_
  refine xG_ti d_LW_law_143 (by decide) rfl h.1 ?_
  have h := h.2
  refine xG_topi (x' := V.2.2.2.2.2 (v3 + 2).toNatClampNeg) rfl ?_
  refine xG_i2l d_LW_law_144 ?_
  refine xG_ldc2 (v := 4294967295) d_LW_law_145 w6_7 ?_
  refine xG_land d_LW_law_148 ?_
  refine xG_lor d_LW_law_149 ?_
  refine xG_aload_n d_LW_law_150 rfl rfl rfl ?_
  refine xG_iload_n d_LW_law_151 rfl rfl ?_
  refine xG_iconst (v := 3) d_LW_law_152 rfl ?_
  refine xG_iadd d_LW_law_153 ?_
  refine xG_ti d_LW_law_154 (by decide) rfl h.1 ?_
  have h := h.2
  refine xG_topi (x' := V.2.2.2.2.2 (v3 + 3).toNatClampNeg) rfl ?_
  obtain ⟨Q2, hM, h⟩ := h
  refine xG_callv (as := [xj ((((V.2.2.2.2.2 (v3 + 1).toNatClampNeg).toInt64) <<< ((32 : Int32).toInt64 &&& 63)) ||| (((V.2.2.2.2.2 (v3 + 2).toNatClampNeg).toInt64) &&& 4294967295)), xi (V.2.2.2.2.2 (v3 + 3).toNatClampNeg)]) (rest := [xi z1]) d_LW_law_155 yv_RF_feed w4_174 rfl rfl rfl s0_250 (by decide) rfl hM ⟨by decide, by decide⟩ (Nat.le_of_ble_eq_true rfl) ⟨Nat.zero_le _, Nat.zero_le _⟩ (fun r S2 I2 J2 P2 hp => ?_)
  obtain ⟨rfl, hL2, z2, rfl, hq⟩ := hp
  have h := h z2 I2 J2 P2 hq
  refine xG_icmp_eq (tgt := 398) d_LW_law_158 (by decide) (fun c => ?_) (fun c => ?_)
  · have h := h.1 c
    exact h
  · have h := h.2 c
    refine xG_iconst (v := 0) d_LW_law_161 rfl ?_
    exact h.elim
set_option maxRecDepth 20000 in
theorem b_LW_law_163 {l : Launch} {V : xV} {Q : String × xFin} {I : xIt} {J : xJt} {P : xPt} (hL : xL P) {v3 : Int32} (h : (∃ Q1 : xIt → xJt → xPt → Prop, xMet l V y_DS_connect 1 0 0 [xq (some 0)] xS0 I J P (xPv Q1) ∧ ∀ (I1 : xIt) (J1 : xJt) (P1 : xPt), Q1 I1 J1 P1 → (∃ Q2 : xIt → xJt → xPt → Prop, xMet l V y_RF_connect 1 0 0 [xq (some 250)] xS0 I1 J1 P1 (xPv Q2) ∧ ∀ (I2 : xIt) (J2 : xJt) (P2 : xPt), Q2 I2 J2 P2 → G_LW_law l V Q 398 [(3, xi v3), (2, xq (some 250)), (1, xq (some 0)), (0, xt 3)] [] I2 J2 P2))) : G_LW_law l V Q 163 [(3, xi v3), (2, xq (some 250)), (1, xq (some 0)), (0, xt 3)] [] I J P := by
  refine xG_aload_n d_LW_law_163 rfl rfl rfl ?_
  obtain ⟨Q1, hM, h⟩ := h
  refine xG_callv (as := []) (rest := []) d_LW_law_164 yv_DS_connect w3_204 rfl rfl rfl s0_0 (by decide) rfl hM ⟨by decide, by decide⟩ (Nat.le_of_ble_eq_true rfl) ⟨Nat.zero_le _, Nat.zero_le _⟩ (fun r S1 I1 J1 P1 hp => ?_)
  obtain ⟨rfl, hL1, rfl, hq⟩ := hp
  have h := h I1 J1 P1 hq
  refine xG_aload_n d_LW_law_167 rfl rfl rfl ?_
  obtain ⟨Q2, hM, h⟩ := h
  refine xG_callv (as := []) (rest := []) d_LW_law_168 yv_RF_connect w5_199 rfl rfl rfl s0_250 (by decide) rfl hM ⟨by decide, by decide⟩ (Nat.le_of_ble_eq_true rfl) ⟨Nat.zero_le _, Nat.zero_le _⟩ (fun r S2 I2 J2 P2 hp => ?_)
  obtain ⟨rfl, hL2, rfl, hq⟩ := hp
  have h := h I2 J2 P2 hq
  refine xG_goto (tgt := 398) d_LW_law_171 (by decide) ?_
  exact h
set_option maxRecDepth 20000 in
theorem b_LW_law_174 {l : Launch} {V : xV} {Q : String × xFin} {I : xIt} {J : xJt} {P : xPt} (hL : xL P) {v3 : Int32} (h : (∃ Q1 : Int32 → xIt → xJt → xPt → Prop, xMet l V y_DS_open 1 0 0 [xq (some 0)] xS0 I J P (xPi Q1) ∧ ∀ (z1 : Int32) (I1 : xIt) (J1 : xJt) (P1 : xPt), Q1 z1 I1 J1 P1 → (∃ Q2 : Int32 → xIt → xJt → xPt → Prop, xMet l V y_RF_open 1 0 0 [xq (some 250)] xS0 I1 J1 P1 (xPi Q2) ∧ ∀ (z2 : Int32) (I2 : xIt) (J2 : xJt) (P2 : xPt), Q2 z2 I2 J2 P2 → ((z1 = z2 → G_LW_law l V Q 398 [(3, xi v3), (2, xq (some 250)), (1, xq (some 0)), (0, xt 3)] [] I2 J2 P2) ∧ (¬ z1 = z2 → False))))) : G_LW_law l V Q 174 [(3, xi v3), (2, xq (some 250)), (1, xq (some 0)), (0, xt 3)] [] I J P := by
  refine xG_aload_n d_LW_law_174 rfl rfl rfl ?_
  obtain ⟨Q1, hM, h⟩ := h
  refine xG_callv (as := []) (rest := []) d_LW_law_175 yv_DS_open w3_208 rfl rfl rfl s0_0 (by decide) rfl hM ⟨by decide, by decide⟩ (Nat.le_of_ble_eq_true rfl) ⟨Nat.zero_le _, Nat.zero_le _⟩ (fun r S1 I1 J1 P1 hp => ?_)
  obtain ⟨rfl, hL1, z1, rfl, hq⟩ := hp
  have h := h z1 I1 J1 P1 hq
  refine xG_aload_n d_LW_law_178 rfl rfl rfl ?_
  obtain ⟨Q2, hM, h⟩ := h
  refine xG_callv (as := []) (rest := [xi z1]) d_LW_law_179 yv_RF_open w5_203 rfl rfl rfl s0_250 (by decide) rfl hM ⟨by decide, by decide⟩ (Nat.le_of_ble_eq_true rfl) ⟨Nat.zero_le _, Nat.zero_le _⟩ (fun r S2 I2 J2 P2 hp => ?_)
  obtain ⟨rfl, hL2, z2, rfl, hq⟩ := hp
  have h := h z2 I2 J2 P2 hq
  refine xG_icmp_eq (tgt := 398) d_LW_law_182 (by decide) (fun c => ?_) (fun c => ?_)
  · have h := h.1 c
    exact h
  · have h := h.2 c
    refine xG_iconst (v := 0) d_LW_law_185 rfl ?_
    exact h.elim
set_option maxRecDepth 20000 in
theorem b_LW_law_187 {l : Launch} {V : xV} {Q : String × xFin} {I : xIt} {J : xJt} {P : xPt} (hL : xL P) {v3 : Int32} (h : (∃ Q1 : Int32 → xIt → xJt → xPt → Prop, xMet l V y_DS_kept 1 0 0 [xq (some 0)] xS0 I J P (xPi Q1) ∧ ∀ (z1 : Int32) (I1 : xIt) (J1 : xJt) (P1 : xPt), Q1 z1 I1 J1 P1 → (∃ Q2 : Int32 → xIt → xJt → xPt → Prop, xMet l V y_RF_kept 1 0 0 [xq (some 250)] xS0 I1 J1 P1 (xPi Q2) ∧ ∀ (z2 : Int32) (I2 : xIt) (J2 : xJt) (P2 : xPt), Q2 z2 I2 J2 P2 → ((z1 = z2 → G_LW_law l V Q 398 [(3, xi v3), (2, xq (some 250)), (1, xq (some 0)), (0, xt 3)] [] I2 J2 P2) ∧ (¬ z1 = z2 → False))))) : G_LW_law l V Q 187 [(3, xi v3), (2, xq (some 250)), (1, xq (some 0)), (0, xt 3)] [] I J P := by
  refine xG_aload_n d_LW_law_187 rfl rfl rfl ?_
  obtain ⟨Q1, hM, h⟩ := h
  refine xG_callv (as := []) (rest := []) d_LW_law_188 yv_DS_kept w3_212 rfl rfl rfl s0_0 (by decide) rfl hM ⟨by decide, by decide⟩ (Nat.le_of_ble_eq_true rfl) ⟨Nat.zero_le _, Nat.zero_le _⟩ (fun r S1 I1 J1 P1 hp => ?_)
  obtain ⟨rfl, hL1, z1, rfl, hq⟩ := hp
  have h := h z1 I1 J1 P1 hq
  refine xG_aload_n d_LW_law_191 rfl rfl rfl ?_
  obtain ⟨Q2, hM, h⟩ := h
  refine xG_callv (as := []) (rest := [xi z1]) d_LW_law_192 yv_RF_kept w5_207 rfl rfl rfl s0_250 (by decide) rfl hM ⟨by decide, by decide⟩ (Nat.le_of_ble_eq_true rfl) ⟨Nat.zero_le _, Nat.zero_le _⟩ (fun r S2 I2 J2 P2 hp => ?_)
  obtain ⟨rfl, hL2, z2, rfl, hq⟩ := hp
  have h := h z2 I2 J2 P2 hq
  refine xG_icmp_eq (tgt := 398) d_LW_law_195 (by decide) (fun c => ?_) (fun c => ?_)
  · have h := h.1 c
    exact h
  · have h := h.2 c
    refine xG_iconst (v := 0) d_LW_law_198 rfl ?_
    exact h.elim
set_option maxRecDepth 20000 in
theorem b_LW_law_200 {l : Launch} {V : xV} {Q : String × xFin} {I : xIt} {J : xJt} {P : xPt} (hL : xL P) {v3 : Int32} (h : (∃ Q1 : Int32 → xIt → xJt → xPt → Prop, xMet l V y_DS_bound 2 0 0 [xq (some 0)] xS0 I J P (xPi Q1) ∧ ∀ (z1 : Int32) (I1 : xIt) (J1 : xJt) (P1 : xPt), Q1 z1 I1 J1 P1 → (∃ Q2 : Int32 → xIt → xJt → xPt → Prop, xMet l V y_RF_bound 1 0 0 [xq (some 250)] xS0 I1 J1 P1 (xPi Q2) ∧ ∀ (z2 : Int32) (I2 : xIt) (J2 : xJt) (P2 : xPt), Q2 z2 I2 J2 P2 → ((z1 = z2 → G_LW_law l V Q 398 [(3, xi v3), (2, xq (some 250)), (1, xq (some 0)), (0, xt 3)] [] I2 J2 P2) ∧ (¬ z1 = z2 → False))))) : G_LW_law l V Q 200 [(3, xi v3), (2, xq (some 250)), (1, xq (some 0)), (0, xt 3)] [] I J P := by
  refine xG_aload_n d_LW_law_200 rfl rfl rfl ?_
  obtain ⟨Q1, hM, h⟩ := h
  refine xG_callv (as := []) (rest := []) d_LW_law_201 yv_DS_bound w3_216 rfl rfl rfl s0_0 (by decide) rfl hM ⟨by decide, by decide⟩ (Nat.le_of_ble_eq_true rfl) ⟨Nat.zero_le _, Nat.zero_le _⟩ (fun r S1 I1 J1 P1 hp => ?_)
  obtain ⟨rfl, hL1, z1, rfl, hq⟩ := hp
  have h := h z1 I1 J1 P1 hq
  refine xG_aload_n d_LW_law_204 rfl rfl rfl ?_
  obtain ⟨Q2, hM, h⟩ := h
  refine xG_callv (as := []) (rest := [xi z1]) d_LW_law_205 yv_RF_bound w5_211 rfl rfl rfl s0_250 (by decide) rfl hM ⟨by decide, by decide⟩ (Nat.le_of_ble_eq_true rfl) ⟨Nat.zero_le _, Nat.zero_le _⟩ (fun r S2 I2 J2 P2 hp => ?_)
  obtain ⟨rfl, hL2, z2, rfl, hq⟩ := hp
  have h := h z2 I2 J2 P2 hq
  refine xG_icmp_eq (tgt := 398) d_LW_law_208 (by decide) (fun c => ?_) (fun c => ?_)
  · have h := h.1 c
    exact h
  · have h := h.2 c
    refine xG_iconst (v := 0) d_LW_law_211 rfl ?_
    exact h.elim
set_option maxRecDepth 20000 in
theorem b_LW_law_213 {l : Launch} {V : xV} {Q : String × xFin} {I : xIt} {J : xJt} {P : xPt} (hL : xL P) {v3 : Int32} (h : (∃ Q1 : Int32 → xIt → xJt → xPt → Prop, xMet l V y_DS_code 1 0 0 [xq (some 0)] xS0 I J P (xPi Q1) ∧ ∀ (z1 : Int32) (I1 : xIt) (J1 : xJt) (P1 : xPt), Q1 z1 I1 J1 P1 → (∃ Q2 : Int32 → xIt → xJt → xPt → Prop, xMet l V y_RF_code 1 0 0 [xq (some 250)] xS0 I1 J1 P1 (xPi Q2) ∧ ∀ (z2 : Int32) (I2 : xIt) (J2 : xJt) (P2 : xPt), Q2 z2 I2 J2 P2 → ((z1 = z2 → G_LW_law l V Q 398 [(3, xi v3), (2, xq (some 250)), (1, xq (some 0)), (0, xt 3)] [] I2 J2 P2) ∧ (¬ z1 = z2 → False))))) : G_LW_law l V Q 213 [(3, xi v3), (2, xq (some 250)), (1, xq (some 0)), (0, xt 3)] [] I J P := by
  refine xG_aload_n d_LW_law_213 rfl rfl rfl ?_
  obtain ⟨Q1, hM, h⟩ := h
  refine xG_callv (as := []) (rest := []) d_LW_law_214 yv_DS_code w3_221 rfl rfl rfl s0_0 (by decide) rfl hM ⟨by decide, by decide⟩ (Nat.le_of_ble_eq_true rfl) ⟨Nat.zero_le _, Nat.zero_le _⟩ (fun r S1 I1 J1 P1 hp => ?_)
  obtain ⟨rfl, hL1, z1, rfl, hq⟩ := hp
  have h := h z1 I1 J1 P1 hq
  refine xG_aload_n d_LW_law_217 rfl rfl rfl ?_
  obtain ⟨Q2, hM, h⟩ := h
  refine xG_callv (as := []) (rest := [xi z1]) d_LW_law_218 yv_RF_code w5_215 rfl rfl rfl s0_250 (by decide) rfl hM ⟨by decide, by decide⟩ (Nat.le_of_ble_eq_true rfl) ⟨Nat.zero_le _, Nat.zero_le _⟩ (fun r S2 I2 J2 P2 hp => ?_)
  obtain ⟨rfl, hL2, z2, rfl, hq⟩ := hp
  have h := h z2 I2 J2 P2 hq
  refine xG_icmp_eq (tgt := 398) d_LW_law_221 (by decide) (fun c => ?_) (fun c => ?_)
  · have h := h.1 c
    exact h
  · have h := h.2 c
    refine xG_iconst (v := 0) d_LW_law_224 rfl ?_
    exact h.elim
set_option maxRecDepth 20000 in
theorem b_LW_law_226 {l : Launch} {V : xV} {Q : String × xFin} {I : xIt} {J : xJt} {P : xPt} (hL : xL P) {v3 : Int32} (h : (∃ Q1 : Int32 → xIt → xJt → xPt → Prop, xMet l V y_DS_found 1 0 0 [xq (some 0)] xS0 I J P (xPi Q1) ∧ ∀ (z1 : Int32) (I1 : xIt) (J1 : xJt) (P1 : xPt), Q1 z1 I1 J1 P1 → (∃ Q2 : Int32 → xIt → xJt → xPt → Prop, xMet l V y_RF_found 1 0 0 [xq (some 250)] xS0 I1 J1 P1 (xPi Q2) ∧ ∀ (z2 : Int32) (I2 : xIt) (J2 : xJt) (P2 : xPt), Q2 z2 I2 J2 P2 → ((z1 = z2 → G_LW_law l V Q 398 [(3, xi v3), (2, xq (some 250)), (1, xq (some 0)), (0, xt 3)] [] I2 J2 P2) ∧ (¬ z1 = z2 → False))))) : G_LW_law l V Q 226 [(3, xi v3), (2, xq (some 250)), (1, xq (some 0)), (0, xt 3)] [] I J P := by
  refine xG_aload_n d_LW_law_226 rfl rfl rfl ?_
  obtain ⟨Q1, hM, h⟩ := h
  refine xG_callv (as := []) (rest := []) d_LW_law_227 yv_DS_found w3_225 rfl rfl rfl s0_0 (by decide) rfl hM ⟨by decide, by decide⟩ (Nat.le_of_ble_eq_true rfl) ⟨Nat.zero_le _, Nat.zero_le _⟩ (fun r S1 I1 J1 P1 hp => ?_)
  obtain ⟨rfl, hL1, z1, rfl, hq⟩ := hp
  have h := h z1 I1 J1 P1 hq
  refine xG_aload_n d_LW_law_230 rfl rfl rfl ?_
  obtain ⟨Q2, hM, h⟩ := h
  refine xG_callv (as := []) (rest := [xi z1]) d_LW_law_231 yv_RF_found w5_219 rfl rfl rfl s0_250 (by decide) rfl hM ⟨by decide, by decide⟩ (Nat.le_of_ble_eq_true rfl) ⟨Nat.zero_le _, Nat.zero_le _⟩ (fun r S2 I2 J2 P2 hp => ?_)
  obtain ⟨rfl, hL2, z2, rfl, hq⟩ := hp
  have h := h z2 I2 J2 P2 hq
  refine xG_icmp_eq (tgt := 398) d_LW_law_234 (by decide) (fun c => ?_) (fun c => ?_)
  · have h := h.1 c
    exact h
  · have h := h.2 c
    refine xG_iconst (v := 0) d_LW_law_237 rfl ?_
    exact h.elim
set_option maxRecDepth 20000 in
theorem b_LW_law_239 {l : Launch} {V : xV} {Q : String × xFin} {I : xIt} {J : xJt} {P : xPt} (hL : xL P) {v3 : Int32} (h : (∃ Q1 : Int32 → xIt → xJt → xPt → Prop, xMet l V y_DS_length 1 0 0 [xq (some 0)] xS0 I J P (xPi Q1) ∧ ∀ (z1 : Int32) (I1 : xIt) (J1 : xJt) (P1 : xPt), Q1 z1 I1 J1 P1 → (∃ Q2 : Int32 → xIt → xJt → xPt → Prop, xMet l V y_RF_length 1 0 0 [xq (some 250)] xS0 I1 J1 P1 (xPi Q2) ∧ ∀ (z2 : Int32) (I2 : xIt) (J2 : xJt) (P2 : xPt), Q2 z2 I2 J2 P2 → ((z1 = z2 → G_LW_law l V Q 398 [(3, xi v3), (2, xq (some 250)), (1, xq (some 0)), (0, xt 3)] [] I2 J2 P2) ∧ (¬ z1 = z2 → False))))) : G_LW_law l V Q 239 [(3, xi v3), (2, xq (some 250)), (1, xq (some 0)), (0, xt 3)] [] I J P := by
  refine xG_aload_n d_LW_law_239 rfl rfl rfl ?_
  obtain ⟨Q1, hM, h⟩ := h
  refine xG_callv (as := []) (rest := []) d_LW_law_240 yv_DS_length w3_229 rfl rfl rfl s0_0 (by decide) rfl hM ⟨by decide, by decide⟩ (Nat.le_of_ble_eq_true rfl) ⟨Nat.zero_le _, Nat.zero_le _⟩ (fun r S1 I1 J1 P1 hp => ?_)
  obtain ⟨rfl, hL1, z1, rfl, hq⟩ := hp
  have h := h z1 I1 J1 P1 hq
  refine xG_aload_n d_LW_law_243 rfl rfl rfl ?_
  obtain ⟨Q2, hM, h⟩ := h
  refine xG_callv (as := []) (rest := [xi z1]) d_LW_law_244 yv_RF_length w5_223 rfl rfl rfl s0_250 (by decide) rfl hM ⟨by decide, by decide⟩ (Nat.le_of_ble_eq_true rfl) ⟨Nat.zero_le _, Nat.zero_le _⟩ (fun r S2 I2 J2 P2 hp => ?_)
  obtain ⟨rfl, hL2, z2, rfl, hq⟩ := hp
  have h := h z2 I2 J2 P2 hq
  refine xG_icmp_eq (tgt := 398) d_LW_law_247 (by decide) (fun c => ?_) (fun c => ?_)
  · have h := h.1 c
    exact h
  · have h := h.2 c
    refine xG_iconst (v := 0) d_LW_law_250 rfl ?_
    exact h.elim
set_option maxRecDepth 20000 in
theorem b_LW_law_252 {l : Launch} {V : xV} {Q : String × xFin} {I : xIt} {J : xJt} {P : xPt} (hL : xL P) {v3 : Int32} (h : (vp_in (v3 + 1) V.2.2.2.2.1 ∧ (∃ Q1 : Int64 → xIt → xJt → xPt → Prop, xMet l V y_DS_output 2 0 0 [xq (some 0), xi (V.2.2.2.2.2 (v3 + 1).toNatClampNeg)] xS0 I J P (xPl Q1) ∧ ∀ (z1 : Int64) (I1 : xIt) (J1 : xJt) (P1 : xPt), Q1 z1 I1 J1 P1 → (vp_in (v3 + 1) V.2.2.2.2.1 ∧ (∃ Q2 : Int64 → xIt → xJt → xPt → Prop, xMet l V y_RF_output 1 0 0 [xq (some 250), xi (V.2.2.2.2.2 (v3 + 1).toNatClampNeg)] xS0 I1 J1 P1 (xPl Q2) ∧ ∀ (z2 : Int64) (I2 : xIt) (J2 : xJt) (P2 : xPt), Q2 z2 I2 J2 P2 → (((lg_cmp z1 z2) = 0 → G_LW_law l V Q 398 [(3, xi v3), (2, xq (some 250)), (1, xq (some 0)), (0, xt 3)] [] I2 J2 P2) ∧ (¬ (lg_cmp z1 z2) = 0 → False))))))) : G_LW_law l V Q 252 [(3, xi v3), (2, xq (some 250)), (1, xq (some 0)), (0, xt 3)] [] I J P := by
  refine xG_aload_n d_LW_law_252 rfl rfl rfl ?_
  refine xG_aload_n d_LW_law_253 rfl rfl rfl ?_
  refine xG_iload_n d_LW_law_254 rfl rfl ?_
  refine xG_iconst (v := 1) d_LW_law_255 rfl ?_
  refine xG_iadd d_LW_law_256 ?_
  refine xG_ti d_LW_law_257 (by decide) rfl h.1 ?_
  have h := h.2
  refine xG_topi (x' := V.2.2.2.2.2 (v3 + 1).toNatClampNeg) rfl ?_
  obtain ⟨Q1, hM, h⟩ := h
  refine xG_callv (as := [xi (V.2.2.2.2.2 (v3 + 1).toNatClampNeg)]) (rest := []) d_LW_law_258 yv_DS_output w3_233 rfl rfl rfl s0_0 (by decide) rfl hM ⟨by decide, by decide⟩ (Nat.le_of_ble_eq_true rfl) ⟨Nat.zero_le _, Nat.zero_le _⟩ (fun r S1 I1 J1 P1 hp => ?_)
  obtain ⟨rfl, hL1, z1, rfl, hq⟩ := hp
  have h := h z1 I1 J1 P1 hq
  refine xG_aload_n d_LW_law_261 rfl rfl rfl ?_
  refine xG_aload_n d_LW_law_262 rfl rfl rfl ?_
  refine xG_iload_n d_LW_law_263 rfl rfl ?_
  refine xG_iconst (v := 1) d_LW_law_264 rfl ?_
  refine xG_iadd d_LW_law_265 ?_
  refine xG_ti d_LW_law_266 (by decide) rfl h.1 ?_
  have h := h.2
  refine xG_topi (x' := V.2.2.2.2.2 (v3 + 1).toNatClampNeg) rfl ?_
  obtain ⟨Q2, hM, h⟩ := h
  refine xG_callv (as := [xi (V.2.2.2.2.2 (v3 + 1).toNatClampNeg)]) (rest := [xj z1]) d_LW_law_267 yv_RF_output w5_227 rfl rfl rfl s0_250 (by decide) rfl hM ⟨by decide, by decide⟩ (Nat.le_of_ble_eq_true rfl) ⟨Nat.zero_le _, Nat.zero_le _⟩ (fun r S2 I2 J2 P2 hp => ?_)
  obtain ⟨rfl, hL2, z2, rfl, hq⟩ := hp
  have h := h z2 I2 J2 P2 hq
  refine xG_lcmp d_LW_law_270 ?_
  refine xG_if_eq (tgt := 398) d_LW_law_271 (by decide) (fun c => ?_) (fun c => ?_)
  · have h := h.1 c
    exact h
  · have h := h.2 c
    refine xG_iconst (v := 0) d_LW_law_274 rfl ?_
    exact h.elim
set_option maxRecDepth 20000 in
theorem b_LW_law_276 {l : Launch} {V : xV} {Q : String × xFin} {I : xIt} {J : xJt} {P : xPt} (hL : xL P) {v3 : Int32} (h : (∃ Q1 : Int32 → xIt → xJt → xPt → Prop, xMet l V y_DS_entries 1 0 0 [xq (some 0)] xS0 I J P (xPi Q1) ∧ ∀ (z1 : Int32) (I1 : xIt) (J1 : xJt) (P1 : xPt), Q1 z1 I1 J1 P1 → (∃ Q2 : Int32 → xIt → xJt → xPt → Prop, xMet l V y_RF_entries 1 0 0 [xq (some 250)] xS0 I1 J1 P1 (xPi Q2) ∧ ∀ (z2 : Int32) (I2 : xIt) (J2 : xJt) (P2 : xPt), Q2 z2 I2 J2 P2 → ((z1 = z2 → G_LW_law l V Q 398 [(3, xi v3), (2, xq (some 250)), (1, xq (some 0)), (0, xt 3)] [] I2 J2 P2) ∧ (¬ z1 = z2 → False))))) : G_LW_law l V Q 276 [(3, xi v3), (2, xq (some 250)), (1, xq (some 0)), (0, xt 3)] [] I J P := by
  refine xG_aload_n d_LW_law_276 rfl rfl rfl ?_
  obtain ⟨Q1, hM, h⟩ := h
  refine xG_callv (as := []) (rest := []) d_LW_law_277 yv_DS_entries w4_1 rfl rfl rfl s0_0 (by decide) rfl hM ⟨by decide, by decide⟩ (Nat.le_of_ble_eq_true rfl) ⟨Nat.zero_le _, Nat.zero_le _⟩ (fun r S1 I1 J1 P1 hp => ?_)
  obtain ⟨rfl, hL1, z1, rfl, hq⟩ := hp
  have h := h z1 I1 J1 P1 hq
  refine xG_aload_n d_LW_law_280 rfl rfl rfl ?_
  obtain ⟨Q2, hM, h⟩ := h
  refine xG_callv (as := []) (rest := [xi z1]) d_LW_law_281 yv_RF_entries w5_231 rfl rfl rfl s0_250 (by decide) rfl hM ⟨by decide, by decide⟩ (Nat.le_of_ble_eq_true rfl) ⟨Nat.zero_le _, Nat.zero_le _⟩ (fun r S2 I2 J2 P2 hp => ?_)
  obtain ⟨rfl, hL2, z2, rfl, hq⟩ := hp
  have h := h z2 I2 J2 P2 hq
  refine xG_icmp_eq (tgt := 398) d_LW_law_284 (by decide) (fun c => ?_) (fun c => ?_)
  · have h := h.1 c
    exact h
  · have h := h.2 c
    refine xG_iconst (v := 0) d_LW_law_287 rfl ?_
    exact h.elim
set_option maxRecDepth 20000 in
theorem b_LW_law_289 {l : Launch} {V : xV} {Q : String × xFin} {I : xIt} {J : xJt} {P : xPt} (hL : xL P) {v3 : Int32} (h : (vp_in (v3 + 1) V.2.2.2.2.1 ∧ (∃ Q1 : Int32 → xIt → xJt → xPt → Prop, xMet l V y_DS_parent 2 0 0 [xq (some 0), xi (V.2.2.2.2.2 (v3 + 1).toNatClampNeg)] xS0 I J P (xPi Q1) ∧ ∀ (z1 : Int32) (I1 : xIt) (J1 : xJt) (P1 : xPt), Q1 z1 I1 J1 P1 → (vp_in (v3 + 1) V.2.2.2.2.1 ∧ (∃ Q2 : Int32 → xIt → xJt → xPt → Prop, xMet l V y_RF_parent 1 0 0 [xq (some 250), xi (V.2.2.2.2.2 (v3 + 1).toNatClampNeg)] xS0 I1 J1 P1 (xPi Q2) ∧ ∀ (z2 : Int32) (I2 : xIt) (J2 : xJt) (P2 : xPt), Q2 z2 I2 J2 P2 → ((z1 = z2 → G_LW_law l V Q 398 [(3, xi v3), (2, xq (some 250)), (1, xq (some 0)), (0, xt 3)] [] I2 J2 P2) ∧ (¬ z1 = z2 → False))))))) : G_LW_law l V Q 289 [(3, xi v3), (2, xq (some 250)), (1, xq (some 0)), (0, xt 3)] [] I J P := by
  refine xG_aload_n d_LW_law_289 rfl rfl rfl ?_
  refine xG_aload_n d_LW_law_290 rfl rfl rfl ?_
  refine xG_iload_n d_LW_law_291 rfl rfl ?_
  refine xG_iconst (v := 1) d_LW_law_292 rfl ?_
  refine xG_iadd d_LW_law_293 ?_
  refine xG_ti d_LW_law_294 (by decide) rfl h.1 ?_
  have h := h.2
  refine xG_topi (x' := V.2.2.2.2.2 (v3 + 1).toNatClampNeg) rfl ?_
  obtain ⟨Q1, hM, h⟩ := h
  refine xG_callv (as := [xi (V.2.2.2.2.2 (v3 + 1).toNatClampNeg)]) (rest := []) d_LW_law_295 yv_DS_parent w4_5 rfl rfl rfl s0_0 (by decide) rfl hM ⟨by decide, by decide⟩ (Nat.le_of_ble_eq_true rfl) ⟨Nat.zero_le _, Nat.zero_le _⟩ (fun r S1 I1 J1 P1 hp => ?_)
  obtain ⟨rfl, hL1, z1, rfl, hq⟩ := hp
  have h := h z1 I1 J1 P1 hq
  refine xG_aload_n d_LW_law_298 rfl rfl rfl ?_
  refine xG_aload_n d_LW_law_299 rfl rfl rfl ?_
  refine xG_iload_n d_LW_law_300 rfl rfl ?_
  refine xG_iconst (v := 1) d_LW_law_301 rfl ?_
  refine xG_iadd d_LW_law_302 ?_
  refine xG_ti d_LW_law_303 (by decide) rfl h.1 ?_
  have h := h.2
  refine xG_topi (x' := V.2.2.2.2.2 (v3 + 1).toNatClampNeg) rfl ?_
  obtain ⟨Q2, hM, h⟩ := h
  refine xG_callv (as := [xi (V.2.2.2.2.2 (v3 + 1).toNatClampNeg)]) (rest := [xi z1]) d_LW_law_304 yv_RF_parent w5_235 rfl rfl rfl s0_250 (by decide) rfl hM ⟨by decide, by decide⟩ (Nat.le_of_ble_eq_true rfl) ⟨Nat.zero_le _, Nat.zero_le _⟩ (fun r S2 I2 J2 P2 hp => ?_)
  obtain ⟨rfl, hL2, z2, rfl, hq⟩ := hp
  have h := h z2 I2 J2 P2 hq
  refine xG_icmp_eq (tgt := 398) d_LW_law_307 (by decide) (fun c => ?_) (fun c => ?_)
  · have h := h.1 c
    exact h
  · have h := h.2 c
    refine xG_iconst (v := 0) d_LW_law_310 rfl ?_
    exact h.elim
set_option maxRecDepth 20000 in
theorem b_LW_law_312 {l : Launch} {V : xV} {Q : String × xFin} {I : xIt} {J : xJt} {P : xPt} (hL : xL P) {v3 : Int32} (h : (vp_in (v3 + 1) V.2.2.2.2.1 ∧ (vp_in (v3 + 2) V.2.2.2.2.1 ∧ (∃ Q1 : Int32 → xIt → xJt → xPt → Prop, xMet l V y_DS_values 2 0 0 [xq (some 0), xi (V.2.2.2.2.2 (v3 + 1).toNatClampNeg), xi (V.2.2.2.2.2 (v3 + 2).toNatClampNeg)] xS0 I J P (xPi Q1) ∧ ∀ (z1 : Int32) (I1 : xIt) (J1 : xJt) (P1 : xPt), Q1 z1 I1 J1 P1 → (vp_in (v3 + 1) V.2.2.2.2.1 ∧ (vp_in (v3 + 2) V.2.2.2.2.1 ∧ (∃ Q2 : Int32 → xIt → xJt → xPt → Prop, xMet l V y_RF_values 1 0 0 [xq (some 250), xi (V.2.2.2.2.2 (v3 + 1).toNatClampNeg), xi (V.2.2.2.2.2 (v3 + 2).toNatClampNeg)] xS0 I1 J1 P1 (xPi Q2) ∧ ∀ (z2 : Int32) (I2 : xIt) (J2 : xJt) (P2 : xPt), Q2 z2 I2 J2 P2 → ((z1 = z2 → G_LW_law l V Q 398 [(3, xi v3), (2, xq (some 250)), (1, xq (some 0)), (0, xt 3)] [] I2 J2 P2) ∧ (¬ z1 = z2 → False))))))))) : G_LW_law l V Q 312 [(3, xi v3), (2, xq (some 250)), (1, xq (some 0)), (0, xt 3)] [] I J P := by
  refine xG_aload_n d_LW_law_312 rfl rfl rfl ?_
  refine xG_aload_n d_LW_law_313 rfl rfl rfl ?_
  refine xG_iload_n d_LW_law_314 rfl rfl ?_
  refine xG_iconst (v := 1) d_LW_law_315 rfl ?_
  refine xG_iadd d_LW_law_316 ?_
  refine xG_ti d_LW_law_317 (by decide) rfl h.1 ?_
  have h := h.2
  refine xG_topi (x' := V.2.2.2.2.2 (v3 + 1).toNatClampNeg) rfl ?_
  refine xG_aload_n d_LW_law_318 rfl rfl rfl ?_
  refine xG_iload_n d_LW_law_319 rfl rfl ?_
  refine xG_iconst (v := 2) d_LW_law_320 rfl ?_
  refine xG_iadd d_LW_law_321 ?_
  refine xG_ti d_LW_law_322 (by decide) rfl h.1 ?_
  have h := h.2
  refine xG_topi (x' := V.2.2.2.2.2 (v3 + 2).toNatClampNeg) rfl ?_
  obtain ⟨Q1, hM, h⟩ := h
  refine xG_callv (as := [xi (V.2.2.2.2.2 (v3 + 1).toNatClampNeg), xi (V.2.2.2.2.2 (v3 + 2).toNatClampNeg)]) (rest := []) d_LW_law_323 yv_DS_values w4_13 rfl rfl rfl s0_0 (by decide) rfl hM ⟨by decide, by decide⟩ (Nat.le_of_ble_eq_true rfl) ⟨Nat.zero_le _, Nat.zero_le _⟩ (fun r S1 I1 J1 P1 hp => ?_)
  obtain ⟨rfl, hL1, z1, rfl, hq⟩ := hp
  have h := h z1 I1 J1 P1 hq
  refine xG_aload_n d_LW_law_326 rfl rfl rfl ?_
  refine xG_aload_n d_LW_law_327 rfl rfl rfl ?_
  refine xG_iload_n d_LW_law_328 rfl rfl ?_
  refine xG_iconst (v := 1) d_LW_law_329 rfl ?_
  refine xG_iadd d_LW_law_330 ?_
  refine xG_ti d_LW_law_331 (by decide) rfl h.1 ?_
  have h := h.2
  refine xG_topi (x' := V.2.2.2.2.2 (v3 + 1).toNatClampNeg) rfl ?_
  refine xG_aload_n d_LW_law_332 rfl rfl rfl ?_
  refine xG_iload_n d_LW_law_333 rfl rfl ?_
  refine xG_iconst (v := 2) d_LW_law_334 rfl ?_
  refine xG_iadd d_LW_law_335 ?_
  refine xG_ti d_LW_law_336 (by decide) rfl h.1 ?_
  have h := h.2
  refine xG_topi (x' := V.2.2.2.2.2 (v3 + 2).toNatClampNeg) rfl ?_
  obtain ⟨Q2, hM, h⟩ := h
  refine xG_callv (as := [xi (V.2.2.2.2.2 (v3 + 1).toNatClampNeg), xi (V.2.2.2.2.2 (v3 + 2).toNatClampNeg)]) (rest := [xi z1]) d_LW_law_337 yv_RF_values w5_239 rfl rfl rfl s0_250 (by decide) rfl hM ⟨by decide, by decide⟩ (Nat.le_of_ble_eq_true rfl) ⟨Nat.zero_le _, Nat.zero_le _⟩ (fun r S2 I2 J2 P2 hp => ?_)
  obtain ⟨rfl, hL2, z2, rfl, hq⟩ := hp
  have h := h z2 I2 J2 P2 hq
  refine xG_icmp_eq (tgt := 398) d_LW_law_340 (by decide) (fun c => ?_) (fun c => ?_)
  · have h := h.1 c
    exact h
  · have h := h.2 c
    refine xG_iconst (v := 0) d_LW_law_343 rfl ?_
    exact h.elim
set_option maxRecDepth 20000 in
theorem b_LW_law_345 {l : Launch} {V : xV} {Q : String × xFin} {I : xIt} {J : xJt} {P : xPt} (hL : xL P) {v3 : Int32} (h : (vp_in (v3 + 1) V.2.2.2.2.1 ∧ (vp_in (v3 + 2) V.2.2.2.2.1 ∧ (vp_in (v3 + 3) V.2.2.2.2.1 ∧ (vp_in (v3 + 4) V.2.2.2.2.1 ∧ (∃ Q1 : Int32 → xIt → xJt → xPt → Prop, xMet l V y_DS_value 2 0 0 [xq (some 0), xi (V.2.2.2.2.2 (v3 + 1).toNatClampNeg), xi (V.2.2.2.2.2 (v3 + 2).toNatClampNeg), xi (V.2.2.2.2.2 (v3 + 3).toNatClampNeg), xi (V.2.2.2.2.2 (v3 + 4).toNatClampNeg)] xS0 I J P (xPi Q1) ∧ ∀ (z1 : Int32) (I1 : xIt) (J1 : xJt) (P1 : xPt), Q1 z1 I1 J1 P1 → (vp_in (v3 + 1) V.2.2.2.2.1 ∧ (vp_in (v3 + 2) V.2.2.2.2.1 ∧ (vp_in (v3 + 3) V.2.2.2.2.1 ∧ (vp_in (v3 + 4) V.2.2.2.2.1 ∧ (∃ Q2 : Int32 → xIt → xJt → xPt → Prop, xMet l V y_RF_value 1 0 0 [xq (some 250), xi (V.2.2.2.2.2 (v3 + 1).toNatClampNeg), xi (V.2.2.2.2.2 (v3 + 2).toNatClampNeg), xi (V.2.2.2.2.2 (v3 + 3).toNatClampNeg), xi (V.2.2.2.2.2 (v3 + 4).toNatClampNeg)] xS0 I1 J1 P1 (xPi Q2) ∧ ∀ (z2 : Int32) (I2 : xIt) (J2 : xJt) (P2 : xPt), Q2 z2 I2 J2 P2 → ((z1 = z2 → G_LW_law l V Q 398 [(3, xi v3), (2, xq (some 250)), (1, xq (some 0)), (0, xt 3)] [] I2 J2 P2) ∧ (¬ z1 = z2 → False))))))))))))) : G_LW_law l V Q 345 [(3, xi v3), (2, xq (some 250)), (1, xq (some 0)), (0, xt 3)] [] I J P := by
  refine xG_aload_n d_LW_law_345 rfl rfl rfl ?_
  refine xG_aload_n d_LW_law_346 rfl rfl rfl ?_
  refine xG_iload_n d_LW_law_347 rfl rfl ?_
  refine xG_iconst (v := 1) d_LW_law_348 rfl ?_
  refine xG_iadd d_LW_law_349 ?_
  refine xG_ti d_LW_law_350 (by decide) rfl h.1 ?_
  have h := h.2
  refine xG_topi (x' := V.2.2.2.2.2 (v3 + 1).toNatClampNeg) rfl ?_
  refine xG_aload_n d_LW_law_351 rfl rfl rfl ?_
  refine xG_iload_n d_LW_law_352 rfl rfl ?_
  refine xG_iconst (v := 2) d_LW_law_353 rfl ?_
  refine xG_iadd d_LW_law_354 ?_
  refine xG_ti d_LW_law_355 (by decide) rfl h.1 ?_
  have h := h.2
  refine xG_topi (x' := V.2.2.2.2.2 (v3 + 2).toNatClampNeg) rfl ?_
  refine xG_aload_n d_LW_law_356 rfl rfl rfl ?_
  refine xG_iload_n d_LW_law_357 rfl rfl ?_
  refine xG_iconst (v := 3) d_LW_law_358 rfl ?_
  refine xG_iadd d_LW_law_359 ?_
  refine xG_ti d_LW_law_360 (by decide) rfl h.1 ?_
  have h := h.2
  refine xG_topi (x' := V.2.2.2.2.2 (v3 + 3).toNatClampNeg) rfl ?_
  refine xG_aload_n d_LW_law_361 rfl rfl rfl ?_
  refine xG_iload_n d_LW_law_362 rfl rfl ?_
  refine xG_iconst (v := 4) d_LW_law_363 rfl ?_
  refine xG_iadd d_LW_law_364 ?_
  refine xG_ti d_LW_law_365 (by decide) rfl h.1 ?_
  have h := h.2
  refine xG_topi (x' := V.2.2.2.2.2 (v3 + 4).toNatClampNeg) rfl ?_
  obtain ⟨Q1, hM, h⟩ := h
  refine xG_callv (as := [xi (V.2.2.2.2.2 (v3 + 1).toNatClampNeg), xi (V.2.2.2.2.2 (v3 + 2).toNatClampNeg), xi (V.2.2.2.2.2 (v3 + 3).toNatClampNeg), xi (V.2.2.2.2.2 (v3 + 4).toNatClampNeg)]) (rest := []) d_LW_law_366 yv_DS_value w4_17 rfl rfl rfl s0_0 (by decide) rfl hM ⟨by decide, by decide⟩ (Nat.le_of_ble_eq_true rfl) ⟨Nat.zero_le _, Nat.zero_le _⟩ (fun r S1 I1 J1 P1 hp => ?_)
  obtain ⟨rfl, hL1, z1, rfl, hq⟩ := hp
  have h := h z1 I1 J1 P1 hq
  refine xG_aload_n d_LW_law_369 rfl rfl rfl ?_
  refine xG_aload_n d_LW_law_370 rfl rfl rfl ?_
  refine xG_iload_n d_LW_law_371 rfl rfl ?_
  refine xG_iconst (v := 1) d_LW_law_372 rfl ?_
  refine xG_iadd d_LW_law_373 ?_
  refine xG_ti d_LW_law_374 (by decide) rfl h.1 ?_
  have h := h.2
  refine xG_topi (x' := V.2.2.2.2.2 (v3 + 1).toNatClampNeg) rfl ?_
  refine xG_aload_n d_LW_law_375 rfl rfl rfl ?_
  refine xG_iload_n d_LW_law_376 rfl rfl ?_
  refine xG_iconst (v := 2) d_LW_law_377 rfl ?_
  refine xG_iadd d_LW_law_378 ?_
  refine xG_ti d_LW_law_379 (by decide) rfl h.1 ?_
  have h := h.2
  refine xG_topi (x' := V.2.2.2.2.2 (v3 + 2).toNatClampNeg) rfl ?_
  refine xG_aload_n d_LW_law_380 rfl rfl rfl ?_
  refine xG_iload_n d_LW_law_381 rfl rfl ?_
  refine xG_iconst (v := 3) d_LW_law_382 rfl ?_
  refine xG_iadd d_LW_law_383 ?_
  refine xG_ti d_LW_law_384 (by decide) rfl h.1 ?_
  have h := h.2
  refine xG_topi (x' := V.2.2.2.2.2 (v3 + 3).toNatClampNeg) rfl ?_
  refine xG_aload_n d_LW_law_385 rfl rfl rfl ?_
  refine xG_iload_n d_LW_law_386 rfl rfl ?_
  refine xG_iconst (v := 4) d_LW_law_387 rfl ?_
  refine xG_iadd d_LW_law_388 ?_
  refine xG_ti d_LW_law_389 (by decide) rfl h.1 ?_
  have h := h.2
  refine xG_topi (x' := V.2.2.2.2.2 (v3 + 4).toNatClampNeg) rfl ?_
  obtain ⟨Q2, hM, h⟩ := h
  refine xG_callv (as := [xi (V.2.2.2.2.2 (v3 + 1).toNatClampNeg), xi (V.2.2.2.2.2 (v3 + 2).toNatClampNeg), xi (V.2.2.2.2.2 (v3 + 3).toNatClampNeg), xi (V.2.2.2.2.2 (v3 + 4).toNatClampNeg)]) (rest := [xi z1]) d_LW_law_390 yv_RF_value w6_3 rfl rfl rfl s0_250 (by decide) rfl hM ⟨by decide, by decide⟩ (Nat.le_of_ble_eq_true rfl) ⟨Nat.zero_le _, Nat.zero_le _⟩ (fun r S2 I2 J2 P2 hp => ?_)
  obtain ⟨rfl, hL2, z2, rfl, hq⟩ := hp
  have h := h z2 I2 J2 P2 hq
  refine xG_icmp_eq (tgt := 398) d_LW_law_393 (by decide) (fun c => ?_) (fun c => ?_)
  · have h := h.1 c
    exact h
  · have h := h.2 c
    refine xG_iconst (v := 0) d_LW_law_396 rfl ?_
    exact h.elim
set_option maxRecDepth 20000 in
theorem b_LW_law_398 {l : Launch} {V : xV} {Q : String × xFin} {I : xIt} {J : xJt} {P : xPt} (hL : xL P) {v3 : Int32} (h : G_LW_law l V Q 18 [(3, xi (v3 + 5)), (2, xq (some 250)), (1, xq (some 0)), (0, xt 3)] [] I J P) : G_LW_law l V Q 398 [(3, xi v3), (2, xq (some 250)), (1, xq (some 0)), (0, xt 3)] [] I J P := by
  refine xG_iinc (v := v3 + 5) (lv' := [(3, xi (v3 + 5)), (2, xq (some 250)), (1, xq (some 0)), (0, xt 3)]) d_LW_law_398 rfl rfl (Nat.le_of_ble_eq_true rfl) rfl ?_
  refine xG_goto (tgt := 18) d_LW_law_401 (by decide) ?_
  exact h
