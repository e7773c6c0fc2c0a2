theorem dX8_init_0 : decode cX8_init 0 = .ok (.aload_n 0, 1) ∧ 0 + 1 = 1 := ⟨by decide +kernel, rfl⟩
theorem dX8_init_1 : decode cX8_init 1 = .ok (.invokespecial 1, 3) ∧ 1 + 3 = 4 := ⟨by decide +kernel, rfl⟩
theorem dX8_init_4 : decode cX8_init 4 = .ok (.aload_n 0, 1) ∧ 4 + 1 = 5 := ⟨by decide +kernel, rfl⟩
theorem dX8_init_5 : decode cX8_init 5 = .ok (.bipush 6, 2) ∧ 5 + 2 = 7 := ⟨by decide +kernel, rfl⟩
theorem dX8_init_7 : decode cX8_init 7 = .ok (.newarray .int, 2) ∧ 7 + 2 = 9 := ⟨by decide +kernel, rfl⟩
theorem dX8_init_9 : decode cX8_init 9 = .ok (.putfield 7, 3) ∧ 9 + 3 = 12 := ⟨by decide +kernel, rfl⟩
theorem dX8_init_12 : decode cX8_init 12 = .ok (.aload_n 0, 1) ∧ 12 + 1 = 13 := ⟨by decide +kernel, rfl⟩
theorem dX8_init_13 : decode cX8_init 13 = .ok (.bipush 6, 2) ∧ 13 + 2 = 15 := ⟨by decide +kernel, rfl⟩
theorem dX8_init_15 : decode cX8_init 15 = .ok (.newarray .int, 2) ∧ 15 + 2 = 17 := ⟨by decide +kernel, rfl⟩
theorem dX8_init_17 : decode cX8_init 17 = .ok (.putfield 13, 3) ∧ 17 + 3 = 20 := ⟨by decide +kernel, rfl⟩
theorem dX8_init_20 : decode cX8_init 20 = .ok (.aload_n 0, 1) ∧ 20 + 1 = 21 := ⟨by decide +kernel, rfl⟩
theorem dX8_init_21 : decode cX8_init 21 = .ok (.bipush 12, 2) ∧ 21 + 2 = 23 := ⟨by decide +kernel, rfl⟩
theorem dX8_init_23 : decode cX8_init 23 = .ok (.newarray .int, 2) ∧ 23 + 2 = 25 := ⟨by decide +kernel, rfl⟩
theorem dX8_init_25 : decode cX8_init 25 = .ok (.putfield 16, 3) ∧ 25 + 3 = 28 := ⟨by decide +kernel, rfl⟩
theorem dX8_init_28 : decode cX8_init 28 = .ok (.aload_n 0, 1) ∧ 28 + 1 = 29 := ⟨by decide +kernel, rfl⟩
theorem dX8_init_29 : decode cX8_init 29 = .ok (.bipush 10, 2) ∧ 29 + 2 = 31 := ⟨by decide +kernel, rfl⟩
theorem dX8_init_31 : decode cX8_init 31 = .ok (.newarray .int, 2) ∧ 31 + 2 = 33 := ⟨by decide +kernel, rfl⟩
theorem dX8_init_33 : decode cX8_init 33 = .ok (.putfield 19, 3) ∧ 33 + 3 = 36 := ⟨by decide +kernel, rfl⟩
theorem dX8_init_36 : decode cX8_init 36 = .ok (.aload_n 0, 1) ∧ 36 + 1 = 37 := ⟨by decide +kernel, rfl⟩
theorem dX8_init_37 : decode cX8_init 37 = .ok (.bipush 10, 2) ∧ 37 + 2 = 39 := ⟨by decide +kernel, rfl⟩
theorem dX8_init_39 : decode cX8_init 39 = .ok (.newarray .int, 2) ∧ 39 + 2 = 41 := ⟨by decide +kernel, rfl⟩
theorem dX8_init_41 : decode cX8_init 41 = .ok (.putfield 22, 3) ∧ 41 + 3 = 44 := ⟨by decide +kernel, rfl⟩
theorem dX8_init_44 : decode cX8_init 44 = .ok (.aload_n 0, 1) ∧ 44 + 1 = 45 := ⟨by decide +kernel, rfl⟩
theorem dX8_init_45 : decode cX8_init 45 = .ok (.bipush 10, 2) ∧ 45 + 2 = 47 := ⟨by decide +kernel, rfl⟩
theorem dX8_init_47 : decode cX8_init 47 = .ok (.newarray .int, 2) ∧ 47 + 2 = 49 := ⟨by decide +kernel, rfl⟩
theorem dX8_init_49 : decode cX8_init 49 = .ok (.putfield 25, 3) ∧ 49 + 3 = 52 := ⟨by decide +kernel, rfl⟩
theorem dX8_init_52 : decode cX8_init 52 = .ok (.aload_n 0, 1) ∧ 52 + 1 = 53 := ⟨by decide +kernel, rfl⟩
theorem dX8_init_53 : decode cX8_init 53 = .ok (.sipush 160, 3) ∧ 53 + 3 = 56 := ⟨by decide +kernel, rfl⟩
theorem dX8_init_56 : decode cX8_init 56 = .ok (.newarray .int, 2) ∧ 56 + 2 = 58 := ⟨by decide +kernel, rfl⟩
theorem dX8_init_58 : decode cX8_init 58 = .ok (.putfield 28, 3) ∧ 58 + 3 = 61 := ⟨by decide +kernel, rfl⟩
theorem dX8_init_61 : decode cX8_init 61 = .ok (.aload_n 0, 1) ∧ 61 + 1 = 62 := ⟨by decide +kernel, rfl⟩
theorem dX8_init_62 : decode cX8_init 62 = .ok (.sipush 1200, 3) ∧ 62 + 3 = 65 := ⟨by decide +kernel, rfl⟩
theorem dX8_init_65 : decode cX8_init 65 = .ok (.newarray .int, 2) ∧ 65 + 2 = 67 := ⟨by decide +kernel, rfl⟩
theorem dX8_init_67 : decode cX8_init 67 = .ok (.putfield 31, 3) ∧ 67 + 3 = 70 := ⟨by decide +kernel, rfl⟩
theorem dX8_init_70 : decode cX8_init 70 = .ok (.aload_n 0, 1) ∧ 70 + 1 = 71 := ⟨by decide +kernel, rfl⟩
theorem dX8_init_71 : decode cX8_init 71 = .ok (.bipush 24, 2) ∧ 71 + 2 = 73 := ⟨by decide +kernel, rfl⟩
theorem dX8_init_73 : decode cX8_init 73 = .ok (.newarray .int, 2) ∧ 73 + 2 = 75 := ⟨by decide +kernel, rfl⟩
theorem dX8_init_75 : decode cX8_init 75 = .ok (.putfield 34, 3) ∧ 75 + 3 = 78 := ⟨by decide +kernel, rfl⟩
theorem dX8_init_78 : decode cX8_init 78 = .ok (.aload_n 0, 1) ∧ 78 + 1 = 79 := ⟨by decide +kernel, rfl⟩
theorem dX8_init_79 : decode cX8_init 79 = .ok (.bipush 42, 2) ∧ 79 + 2 = 81 := ⟨by decide +kernel, rfl⟩
theorem dX8_init_81 : decode cX8_init 81 = .ok (.newarray .int, 2) ∧ 81 + 2 = 83 := ⟨by decide +kernel, rfl⟩
theorem dX8_init_83 : decode cX8_init 83 = .ok (.putfield 37, 3) ∧ 83 + 3 = 86 := ⟨by decide +kernel, rfl⟩
theorem dX8_init_86 : decode cX8_init 86 = .ok (.aload_n 0, 1) ∧ 86 + 1 = 87 := ⟨by decide +kernel, rfl⟩
theorem dX8_init_87 : decode cX8_init 87 = .ok (.iconst 4, 1) ∧ 87 + 1 = 88 := ⟨by decide +kernel, rfl⟩
theorem dX8_init_88 : decode cX8_init 88 = .ok (.newarray .int, 2) ∧ 88 + 2 = 90 := ⟨by decide +kernel, rfl⟩
theorem dX8_init_90 : decode cX8_init 90 = .ok (.putfield 40, 3) ∧ 90 + 3 = 93 := ⟨by decide +kernel, rfl⟩
theorem dX8_init_93 : decode cX8_init 93 = .ok (.aload_n 0, 1) ∧ 93 + 1 = 94 := ⟨by decide +kernel, rfl⟩
theorem dX8_init_94 : decode cX8_init 94 = .ok (.iconst 4, 1) ∧ 94 + 1 = 95 := ⟨by decide +kernel, rfl⟩
theorem dX8_init_95 : decode cX8_init 95 = .ok (.newarray .int, 2) ∧ 95 + 2 = 97 := ⟨by decide +kernel, rfl⟩
theorem dX8_init_97 : decode cX8_init 97 = .ok (.dup, 1) ∧ 97 + 1 = 98 := ⟨by decide +kernel, rfl⟩
theorem dX8_init_98 : decode cX8_init 98 = .ok (.iconst 0, 1) ∧ 98 + 1 = 99 := ⟨by decide +kernel, rfl⟩
theorem dX8_init_99 : decode cX8_init 99 = .ok (.iconst (-1), 1) ∧ 99 + 1 = 100 := ⟨by decide +kernel, rfl⟩
theorem dX8_init_100 : decode cX8_init 100 = .ok (.iastore, 1) ∧ 100 + 1 = 101 := ⟨by decide +kernel, rfl⟩
theorem dX8_init_101 : decode cX8_init 101 = .ok (.dup, 1) ∧ 101 + 1 = 102 := ⟨by decide +kernel, rfl⟩
theorem dX8_init_102 : decode cX8_init 102 = .ok (.iconst 1, 1) ∧ 102 + 1 = 103 := ⟨by decide +kernel, rfl⟩
theorem dX8_init_103 : decode cX8_init 103 = .ok (.iconst (-1), 1) ∧ 103 + 1 = 104 := ⟨by decide +kernel, rfl⟩
theorem dX8_init_104 : decode cX8_init 104 = .ok (.iastore, 1) ∧ 104 + 1 = 105 := ⟨by decide +kernel, rfl⟩
theorem dX8_init_105 : decode cX8_init 105 = .ok (.dup, 1) ∧ 105 + 1 = 106 := ⟨by decide +kernel, rfl⟩
theorem dX8_init_106 : decode cX8_init 106 = .ok (.iconst 2, 1) ∧ 106 + 1 = 107 := ⟨by decide +kernel, rfl⟩
theorem dX8_init_107 : decode cX8_init 107 = .ok (.iconst (-1), 1) ∧ 107 + 1 = 108 := ⟨by decide +kernel, rfl⟩
theorem dX8_init_108 : decode cX8_init 108 = .ok (.iastore, 1) ∧ 108 + 1 = 109 := ⟨by decide +kernel, rfl⟩
theorem dX8_init_109 : decode cX8_init 109 = .ok (.dup, 1) ∧ 109 + 1 = 110 := ⟨by decide +kernel, rfl⟩
theorem dX8_init_110 : decode cX8_init 110 = .ok (.iconst 3, 1) ∧ 110 + 1 = 111 := ⟨by decide +kernel, rfl⟩
theorem dX8_init_111 : decode cX8_init 111 = .ok (.iconst (-1), 1) ∧ 111 + 1 = 112 := ⟨by decide +kernel, rfl⟩
theorem dX8_init_112 : decode cX8_init 112 = .ok (.iastore, 1) ∧ 112 + 1 = 113 := ⟨by decide +kernel, rfl⟩
theorem dX8_init_113 : decode cX8_init 113 = .ok (.putfield 43, 3) ∧ 113 + 3 = 116 := ⟨by decide +kernel, rfl⟩
theorem dX8_init_116 : decode cX8_init 116 = .ok (.aload_n 0, 1) ∧ 116 + 1 = 117 := ⟨by decide +kernel, rfl⟩
theorem dX8_init_117 : decode cX8_init 117 = .ok (.iconst 4, 1) ∧ 117 + 1 = 118 := ⟨by decide +kernel, rfl⟩
theorem dX8_init_118 : decode cX8_init 118 = .ok (.newarray .int, 2) ∧ 118 + 2 = 120 := ⟨by decide +kernel, rfl⟩
theorem dX8_init_120 : decode cX8_init 120 = .ok (.putfield 46, 3) ∧ 120 + 3 = 123 := ⟨by decide +kernel, rfl⟩
theorem dX8_init_123 : decode cX8_init 123 = .ok (.aload_n 0, 1) ∧ 123 + 1 = 124 := ⟨by decide +kernel, rfl⟩
theorem dX8_init_124 : decode cX8_init 124 = .ok (.sipush 160, 3) ∧ 124 + 3 = 127 := ⟨by decide +kernel, rfl⟩
theorem dX8_init_127 : decode cX8_init 127 = .ok (.newarray .int, 2) ∧ 127 + 2 = 129 := ⟨by decide +kernel, rfl⟩
theorem dX8_init_129 : decode cX8_init 129 = .ok (.putfield 49, 3) ∧ 129 + 3 = 132 := ⟨by decide +kernel, rfl⟩
theorem dX8_init_132 : decode cX8_init 132 = .ok (.aload_n 0, 1) ∧ 132 + 1 = 133 := ⟨by decide +kernel, rfl⟩
theorem dX8_init_133 : decode cX8_init 133 = .ok (.bipush 37, 2) ∧ 133 + 2 = 135 := ⟨by decide +kernel, rfl⟩
theorem dX8_init_135 : decode cX8_init 135 = .ok (.newarray .int, 2) ∧ 135 + 2 = 137 := ⟨by decide +kernel, rfl⟩
theorem dX8_init_137 : decode cX8_init 137 = .ok (.dup, 1) ∧ 137 + 1 = 138 := ⟨by decide +kernel, rfl⟩
theorem dX8_init_138 : decode cX8_init 138 = .ok (.iconst 0, 1) ∧ 138 + 1 = 139 := ⟨by decide +kernel, rfl⟩
theorem dX8_init_139 : decode cX8_init 139 = .ok (.bipush 115, 2) ∧ 139 + 2 = 141 := ⟨by decide +kernel, rfl⟩
theorem dX8_init_141 : decode cX8_init 141 = .ok (.iastore, 1) ∧ 141 + 1 = 142 := ⟨by decide +kernel, rfl⟩
theorem dX8_init_142 : decode cX8_init 142 = .ok (.dup, 1) ∧ 142 + 1 = 143 := ⟨by decide +kernel, rfl⟩
theorem dX8_init_143 : decode cX8_init 143 = .ok (.iconst 1, 1) ∧ 143 + 1 = 144 := ⟨by decide +kernel, rfl⟩
theorem dX8_init_144 : decode cX8_init 144 = .ok (.bipush 116, 2) ∧ 144 + 2 = 146 := ⟨by decide +kernel, rfl⟩
theorem dX8_init_146 : decode cX8_init 146 = .ok (.iastore, 1) ∧ 146 + 1 = 147 := ⟨by decide +kernel, rfl⟩
theorem dX8_init_147 : decode cX8_init 147 = .ok (.dup, 1) ∧ 147 + 1 = 148 := ⟨by decide +kernel, rfl⟩
theorem dX8_init_148 : decode cX8_init 148 = .ok (.iconst 2, 1) ∧ 148 + 1 = 149 := ⟨by decide +kernel, rfl⟩
theorem dX8_init_149 : decode cX8_init 149 = .ok (.bipush 114, 2) ∧ 149 + 2 = 151 := ⟨by decide +kernel, rfl⟩
theorem dX8_init_151 : decode cX8_init 151 = .ok (.iastore, 1) ∧ 151 + 1 = 152 := ⟨by decide +kernel, rfl⟩
theorem dX8_init_152 : decode cX8_init 152 = .ok (.dup, 1) ∧ 152 + 1 = 153 := ⟨by decide +kernel, rfl⟩
theorem dX8_init_153 : decode cX8_init 153 = .ok (.iconst 3, 1) ∧ 153 + 1 = 154 := ⟨by decide +kernel, rfl⟩
theorem dX8_init_154 : decode cX8_init 154 = .ok (.bipush 111, 2) ∧ 154 + 2 = 156 := ⟨by decide +kernel, rfl⟩
theorem dX8_init_156 : decode cX8_init 156 = .ok (.iastore, 1) ∧ 156 + 1 = 157 := ⟨by decide +kernel, rfl⟩
theorem dX8_init_157 : decode cX8_init 157 = .ok (.dup, 1) ∧ 157 + 1 = 158 := ⟨by decide +kernel, rfl⟩
theorem dX8_init_158 : decode cX8_init 158 = .ok (.iconst 4, 1) ∧ 158 + 1 = 159 := ⟨by decide +kernel, rfl⟩
theorem dX8_init_159 : decode cX8_init 159 = .ok (.bipush 107, 2) ∧ 159 + 2 = 161 := ⟨by decide +kernel, rfl⟩
theorem dX8_init_161 : decode cX8_init 161 = .ok (.iastore, 1) ∧ 161 + 1 = 162 := ⟨by decide +kernel, rfl⟩
theorem dX8_init_162 : decode cX8_init 162 = .ok (.dup, 1) ∧ 162 + 1 = 163 := ⟨by decide +kernel, rfl⟩
theorem dX8_init_163 : decode cX8_init 163 = .ok (.iconst 5, 1) ∧ 163 + 1 = 164 := ⟨by decide +kernel, rfl⟩
theorem dX8_init_164 : decode cX8_init 164 = .ok (.bipush 101, 2) ∧ 164 + 2 = 166 := ⟨by decide +kernel, rfl⟩
theorem dX8_init_166 : decode cX8_init 166 = .ok (.iastore, 1) ∧ 166 + 1 = 167 := ⟨by decide +kernel, rfl⟩
theorem dX8_init_167 : decode cX8_init 167 = .ok (.dup, 1) ∧ 167 + 1 = 168 := ⟨by decide +kernel, rfl⟩
theorem dX8_init_168 : decode cX8_init 168 = .ok (.bipush 6, 2) ∧ 168 + 2 = 170 := ⟨by decide +kernel, rfl⟩
theorem dX8_init_170 : decode cX8_init 170 = .ok (.bipush 115, 2) ∧ 170 + 2 = 172 := ⟨by decide +kernel, rfl⟩
theorem dX8_init_172 : decode cX8_init 172 = .ok (.iastore, 1) ∧ 172 + 1 = 173 := ⟨by decide +kernel, rfl⟩
theorem dX8_init_173 : decode cX8_init 173 = .ok (.dup, 1) ∧ 173 + 1 = 174 := ⟨by decide +kernel, rfl⟩
theorem dX8_init_174 : decode cX8_init 174 = .ok (.bipush 7, 2) ∧ 174 + 2 = 176 := ⟨by decide +kernel, rfl⟩
theorem dX8_init_176 : decode cX8_init 176 = .ok (.bipush 32, 2) ∧ 176 + 2 = 178 := ⟨by decide +kernel, rfl⟩
theorem dX8_init_178 : decode cX8_init 178 = .ok (.iastore, 1) ∧ 178 + 1 = 179 := ⟨by decide +kernel, rfl⟩
theorem dX8_init_179 : decode cX8_init 179 = .ok (.dup, 1) ∧ 179 + 1 = 180 := ⟨by decide +kernel, rfl⟩
theorem dX8_init_180 : decode cX8_init 180 = .ok (.bipush 8, 2) ∧ 180 + 2 = 182 := ⟨by decide +kernel, rfl⟩
theorem dX8_init_182 : decode cX8_init 182 = .ok (.bipush 49, 2) ∧ 182 + 2 = 184 := ⟨by decide +kernel, rfl⟩
theorem dX8_init_184 : decode cX8_init 184 = .ok (.iastore, 1) ∧ 184 + 1 = 185 := ⟨by decide +kernel, rfl⟩
theorem dX8_init_185 : decode cX8_init 185 = .ok (.dup, 1) ∧ 185 + 1 = 186 := ⟨by decide +kernel, rfl⟩
theorem dX8_init_186 : decode cX8_init 186 = .ok (.bipush 9, 2) ∧ 186 + 2 = 188 := ⟨by decide +kernel, rfl⟩
theorem dX8_init_188 : decode cX8_init 188 = .ok (.bipush 32, 2) ∧ 188 + 2 = 190 := ⟨by decide +kernel, rfl⟩
theorem dX8_init_190 : decode cX8_init 190 = .ok (.iastore, 1) ∧ 190 + 1 = 191 := ⟨by decide +kernel, rfl⟩
theorem dX8_init_191 : decode cX8_init 191 = .ok (.dup, 1) ∧ 191 + 1 = 192 := ⟨by decide +kernel, rfl⟩
theorem dX8_init_192 : decode cX8_init 192 = .ok (.bipush 10, 2) ∧ 192 + 2 = 194 := ⟨by decide +kernel, rfl⟩
theorem dX8_init_194 : decode cX8_init 194 = .ok (.bipush 59, 2) ∧ 194 + 2 = 196 := ⟨by decide +kernel, rfl⟩
theorem dX8_init_196 : decode cX8_init 196 = .ok (.iastore, 1) ∧ 196 + 1 = 197 := ⟨by decide +kernel, rfl⟩
theorem dX8_init_197 : decode cX8_init 197 = .ok (.dup, 1) ∧ 197 + 1 = 198 := ⟨by decide +kernel, rfl⟩
theorem dX8_init_198 : decode cX8_init 198 = .ok (.bipush 11, 2) ∧ 198 + 2 = 200 := ⟨by decide +kernel, rfl⟩
theorem dX8_init_200 : decode cX8_init 200 = .ok (.bipush 32, 2) ∧ 200 + 2 = 202 := ⟨by decide +kernel, rfl⟩
theorem dX8_init_202 : decode cX8_init 202 = .ok (.iastore, 1) ∧ 202 + 1 = 203 := ⟨by decide +kernel, rfl⟩
theorem dX8_init_203 : decode cX8_init 203 = .ok (.dup, 1) ∧ 203 + 1 = 204 := ⟨by decide +kernel, rfl⟩
theorem dX8_init_204 : decode cX8_init 204 = .ok (.bipush 12, 2) ∧ 204 + 2 = 206 := ⟨by decide +kernel, rfl⟩
theorem dX8_init_206 : decode cX8_init 206 = .ok (.bipush 100, 2) ∧ 206 + 2 = 208 := ⟨by decide +kernel, rfl⟩
theorem dX8_init_208 : decode cX8_init 208 = .ok (.iastore, 1) ∧ 208 + 1 = 209 := ⟨by decide +kernel, rfl⟩
theorem dX8_init_209 : decode cX8_init 209 = .ok (.dup, 1) ∧ 209 + 1 = 210 := ⟨by decide +kernel, rfl⟩
theorem dX8_init_210 : decode cX8_init 210 = .ok (.bipush 13, 2) ∧ 210 + 2 = 212 := ⟨by decide +kernel, rfl⟩
theorem dX8_init_212 : decode cX8_init 212 = .ok (.bipush 111, 2) ∧ 212 + 2 = 214 := ⟨by decide +kernel, rfl⟩
theorem dX8_init_214 : decode cX8_init 214 = .ok (.iastore, 1) ∧ 214 + 1 = 215 := ⟨by decide +kernel, rfl⟩
theorem dX8_init_215 : decode cX8_init 215 = .ok (.dup, 1) ∧ 215 + 1 = 216 := ⟨by decide +kernel, rfl⟩
theorem dX8_init_216 : decode cX8_init 216 = .ok (.bipush 14, 2) ∧ 216 + 2 = 218 := ⟨by decide +kernel, rfl⟩
theorem dX8_init_218 : decode cX8_init 218 = .ok (.bipush 117, 2) ∧ 218 + 2 = 220 := ⟨by decide +kernel, rfl⟩
theorem dX8_init_220 : decode cX8_init 220 = .ok (.iastore, 1) ∧ 220 + 1 = 221 := ⟨by decide +kernel, rfl⟩
theorem dX8_init_221 : decode cX8_init 221 = .ok (.dup, 1) ∧ 221 + 1 = 222 := ⟨by decide +kernel, rfl⟩
theorem dX8_init_222 : decode cX8_init 222 = .ok (.bipush 15, 2) ∧ 222 + 2 = 224 := ⟨by decide +kernel, rfl⟩
theorem dX8_init_224 : decode cX8_init 224 = .ok (.bipush 98, 2) ∧ 224 + 2 = 226 := ⟨by decide +kernel, rfl⟩
theorem dX8_init_226 : decode cX8_init 226 = .ok (.iastore, 1) ∧ 226 + 1 = 227 := ⟨by decide +kernel, rfl⟩
theorem dX8_init_227 : decode cX8_init 227 = .ok (.dup, 1) ∧ 227 + 1 = 228 := ⟨by decide +kernel, rfl⟩
theorem dX8_init_228 : decode cX8_init 228 = .ok (.bipush 16, 2) ∧ 228 + 2 = 230 := ⟨by decide +kernel, rfl⟩
theorem dX8_init_230 : decode cX8_init 230 = .ok (.bipush 116, 2) ∧ 230 + 2 = 232 := ⟨by decide +kernel, rfl⟩
theorem dX8_init_232 : decode cX8_init 232 = .ok (.iastore, 1) ∧ 232 + 1 = 233 := ⟨by decide +kernel, rfl⟩
theorem dX8_init_233 : decode cX8_init 233 = .ok (.dup, 1) ∧ 233 + 1 = 234 := ⟨by decide +kernel, rfl⟩
theorem dX8_init_234 : decode cX8_init 234 = .ok (.bipush 17, 2) ∧ 234 + 2 = 236 := ⟨by decide +kernel, rfl⟩
theorem dX8_init_236 : decode cX8_init 236 = .ok (.bipush 115, 2) ∧ 236 + 2 = 238 := ⟨by decide +kernel, rfl⟩
theorem dX8_init_238 : decode cX8_init 238 = .ok (.iastore, 1) ∧ 238 + 1 = 239 := ⟨by decide +kernel, rfl⟩
theorem dX8_init_239 : decode cX8_init 239 = .ok (.dup, 1) ∧ 239 + 1 = 240 := ⟨by decide +kernel, rfl⟩
theorem dX8_init_240 : decode cX8_init 240 = .ok (.bipush 18, 2) ∧ 240 + 2 = 242 := ⟨by decide +kernel, rfl⟩
theorem dX8_init_242 : decode cX8_init 242 = .ok (.bipush 32, 2) ∧ 242 + 2 = 244 := ⟨by decide +kernel, rfl⟩
theorem dX8_init_244 : decode cX8_init 244 = .ok (.iastore, 1) ∧ 244 + 1 = 245 := ⟨by decide +kernel, rfl⟩
theorem dX8_init_245 : decode cX8_init 245 = .ok (.dup, 1) ∧ 245 + 1 = 246 := ⟨by decide +kernel, rfl⟩
theorem dX8_init_246 : decode cX8_init 246 = .ok (.bipush 19, 2) ∧ 246 + 2 = 248 := ⟨by decide +kernel, rfl⟩
theorem dX8_init_248 : decode cX8_init 248 = .ok (.bipush 49, 2) ∧ 248 + 2 = 250 := ⟨by decide +kernel, rfl⟩
theorem dX8_init_250 : decode cX8_init 250 = .ok (.iastore, 1) ∧ 250 + 1 = 251 := ⟨by decide +kernel, rfl⟩
theorem dX8_init_251 : decode cX8_init 251 = .ok (.dup, 1) ∧ 251 + 1 = 252 := ⟨by decide +kernel, rfl⟩
theorem dX8_init_252 : decode cX8_init 252 = .ok (.bipush 20, 2) ∧ 252 + 2 = 254 := ⟨by decide +kernel, rfl⟩
theorem dX8_init_254 : decode cX8_init 254 = .ok (.bipush 48, 2) ∧ 254 + 2 = 256 := ⟨by decide +kernel, rfl⟩
theorem dX8_init_256 : decode cX8_init 256 = .ok (.iastore, 1) ∧ 256 + 1 = 257 := ⟨by decide +kernel, rfl⟩
theorem dX8_init_257 : decode cX8_init 257 = .ok (.dup, 1) ∧ 257 + 1 = 258 := ⟨by decide +kernel, rfl⟩
theorem dX8_init_258 : decode cX8_init 258 = .ok (.bipush 21, 2) ∧ 258 + 2 = 260 := ⟨by decide +kernel, rfl⟩
theorem dX8_init_260 : decode cX8_init 260 = .ok (.bipush 32, 2) ∧ 260 + 2 = 262 := ⟨by decide +kernel, rfl⟩
theorem dX8_init_262 : decode cX8_init 262 = .ok (.iastore, 1) ∧ 262 + 1 = 263 := ⟨by decide +kernel, rfl⟩
theorem dX8_init_263 : decode cX8_init 263 = .ok (.dup, 1) ∧ 263 + 1 = 264 := ⟨by decide +kernel, rfl⟩
theorem dX8_init_264 : decode cX8_init 264 = .ok (.bipush 22, 2) ∧ 264 + 2 = 266 := ⟨by decide +kernel, rfl⟩
theorem dX8_init_266 : decode cX8_init 266 = .ok (.bipush 59, 2) ∧ 266 + 2 = 268 := ⟨by decide +kernel, rfl⟩
theorem dX8_init_268 : decode cX8_init 268 = .ok (.iastore, 1) ∧ 268 + 1 = 269 := ⟨by decide +kernel, rfl⟩
theorem dX8_init_269 : decode cX8_init 269 = .ok (.dup, 1) ∧ 269 + 1 = 270 := ⟨by decide +kernel, rfl⟩
theorem dX8_init_270 : decode cX8_init 270 = .ok (.bipush 23, 2) ∧ 270 + 2 = 272 := ⟨by decide +kernel, rfl⟩
theorem dX8_init_272 : decode cX8_init 272 = .ok (.bipush 32, 2) ∧ 272 + 2 = 274 := ⟨by decide +kernel, rfl⟩
theorem dX8_init_274 : decode cX8_init 274 = .ok (.iastore, 1) ∧ 274 + 1 = 275 := ⟨by decide +kernel, rfl⟩
theorem dX8_init_275 : decode cX8_init 275 = .ok (.dup, 1) ∧ 275 + 1 = 276 := ⟨by decide +kernel, rfl⟩
theorem dX8_init_276 : decode cX8_init 276 = .ok (.bipush 24, 2) ∧ 276 + 2 = 278 := ⟨by decide +kernel, rfl⟩
theorem dX8_init_278 : decode cX8_init 278 = .ok (.bipush 112, 2) ∧ 278 + 2 = 280 := ⟨by decide +kernel, rfl⟩
theorem dX8_init_280 : decode cX8_init 280 = .ok (.iastore, 1) ∧ 280 + 1 = 281 := ⟨by decide +kernel, rfl⟩
theorem dX8_init_281 : decode cX8_init 281 = .ok (.dup, 1) ∧ 281 + 1 = 282 := ⟨by decide +kernel, rfl⟩
theorem dX8_init_282 : decode cX8_init 282 = .ok (.bipush 25, 2) ∧ 282 + 2 = 284 := ⟨by decide +kernel, rfl⟩
theorem dX8_init_284 : decode cX8_init 284 = .ok (.bipush 97, 2) ∧ 284 + 2 = 286 := ⟨by decide +kernel, rfl⟩
theorem dX8_init_286 : decode cX8_init 286 = .ok (.iastore, 1) ∧ 286 + 1 = 287 := ⟨by decide +kernel, rfl⟩
theorem dX8_init_287 : decode cX8_init 287 = .ok (.dup, 1) ∧ 287 + 1 = 288 := ⟨by decide +kernel, rfl⟩
theorem dX8_init_288 : decode cX8_init 288 = .ok (.bipush 26, 2) ∧ 288 + 2 = 290 := ⟨by decide +kernel, rfl⟩
theorem dX8_init_290 : decode cX8_init 290 = .ok (.bipush 121, 2) ∧ 290 + 2 = 292 := ⟨by decide +kernel, rfl⟩
theorem dX8_init_292 : decode cX8_init 292 = .ok (.iastore, 1) ∧ 292 + 1 = 293 := ⟨by decide +kernel, rfl⟩
theorem dX8_init_293 : decode cX8_init 293 = .ok (.dup, 1) ∧ 293 + 1 = 294 := ⟨by decide +kernel, rfl⟩
theorem dX8_init_294 : decode cX8_init 294 = .ok (.bipush 27, 2) ∧ 294 + 2 = 296 := ⟨by decide +kernel, rfl⟩
theorem dX8_init_296 : decode cX8_init 296 = .ok (.bipush 115, 2) ∧ 296 + 2 = 298 := ⟨by decide +kernel, rfl⟩
theorem dX8_init_298 : decode cX8_init 298 = .ok (.iastore, 1) ∧ 298 + 1 = 299 := ⟨by decide +kernel, rfl⟩
theorem dX8_init_299 : decode cX8_init 299 = .ok (.dup, 1) ∧ 299 + 1 = 300 := ⟨by decide +kernel, rfl⟩
theorem dX8_init_300 : decode cX8_init 300 = .ok (.bipush 28, 2) ∧ 300 + 2 = 302 := ⟨by decide +kernel, rfl⟩
theorem dX8_init_302 : decode cX8_init 302 = .ok (.bipush 32, 2) ∧ 302 + 2 = 304 := ⟨by decide +kernel, rfl⟩
theorem dX8_init_304 : decode cX8_init 304 = .ok (.iastore, 1) ∧ 304 + 1 = 305 := ⟨by decide +kernel, rfl⟩
theorem dX8_init_305 : decode cX8_init 305 = .ok (.dup, 1) ∧ 305 + 1 = 306 := ⟨by decide +kernel, rfl⟩
theorem dX8_init_306 : decode cX8_init 306 = .ok (.bipush 29, 2) ∧ 306 + 2 = 308 := ⟨by decide +kernel, rfl⟩
theorem dX8_init_308 : decode cX8_init 308 = .ok (.bipush 119, 2) ∧ 308 + 2 = 310 := ⟨by decide +kernel, rfl⟩
theorem dX8_init_310 : decode cX8_init 310 = .ok (.iastore, 1) ∧ 310 + 1 = 311 := ⟨by decide +kernel, rfl⟩
theorem dX8_init_311 : decode cX8_init 311 = .ok (.dup, 1) ∧ 311 + 1 = 312 := ⟨by decide +kernel, rfl⟩
theorem dX8_init_312 : decode cX8_init 312 = .ok (.bipush 30, 2) ∧ 312 + 2 = 314 := ⟨by decide +kernel, rfl⟩
theorem dX8_init_314 : decode cX8_init 314 = .ok (.bipush 101, 2) ∧ 314 + 2 = 316 := ⟨by decide +kernel, rfl⟩
theorem dX8_init_316 : decode cX8_init 316 = .ok (.iastore, 1) ∧ 316 + 1 = 317 := ⟨by decide +kernel, rfl⟩
theorem dX8_init_317 : decode cX8_init 317 = .ok (.dup, 1) ∧ 317 + 1 = 318 := ⟨by decide +kernel, rfl⟩
theorem dX8_init_318 : decode cX8_init 318 = .ok (.bipush 31, 2) ∧ 318 + 2 = 320 := ⟨by decide +kernel, rfl⟩
theorem dX8_init_320 : decode cX8_init 320 = .ok (.bipush 105, 2) ∧ 320 + 2 = 322 := ⟨by decide +kernel, rfl⟩
theorem dX8_init_322 : decode cX8_init 322 = .ok (.iastore, 1) ∧ 322 + 1 = 323 := ⟨by decide +kernel, rfl⟩
theorem dX8_init_323 : decode cX8_init 323 = .ok (.dup, 1) ∧ 323 + 1 = 324 := ⟨by decide +kernel, rfl⟩
theorem dX8_init_324 : decode cX8_init 324 = .ok (.bipush 32, 2) ∧ 324 + 2 = 326 := ⟨by decide +kernel, rfl⟩
theorem dX8_init_326 : decode cX8_init 326 = .ok (.bipush 103, 2) ∧ 326 + 2 = 328 := ⟨by decide +kernel, rfl⟩
theorem dX8_init_328 : decode cX8_init 328 = .ok (.iastore, 1) ∧ 328 + 1 = 329 := ⟨by decide +kernel, rfl⟩
theorem dX8_init_329 : decode cX8_init 329 = .ok (.dup, 1) ∧ 329 + 1 = 330 := ⟨by decide +kernel, rfl⟩
theorem dX8_init_330 : decode cX8_init 330 = .ok (.bipush 33, 2) ∧ 330 + 2 = 332 := ⟨by decide +kernel, rfl⟩
theorem dX8_init_332 : decode cX8_init 332 = .ok (.bipush 104, 2) ∧ 332 + 2 = 334 := ⟨by decide +kernel, rfl⟩
theorem dX8_init_334 : decode cX8_init 334 = .ok (.iastore, 1) ∧ 334 + 1 = 335 := ⟨by decide +kernel, rfl⟩
theorem dX8_init_335 : decode cX8_init 335 = .ok (.dup, 1) ∧ 335 + 1 = 336 := ⟨by decide +kernel, rfl⟩
theorem dX8_init_336 : decode cX8_init 336 = .ok (.bipush 34, 2) ∧ 336 + 2 = 338 := ⟨by decide +kernel, rfl⟩
theorem dX8_init_338 : decode cX8_init 338 = .ok (.bipush 116, 2) ∧ 338 + 2 = 340 := ⟨by decide +kernel, rfl⟩
theorem dX8_init_340 : decode cX8_init 340 = .ok (.iastore, 1) ∧ 340 + 1 = 341 := ⟨by decide +kernel, rfl⟩
theorem dX8_init_341 : decode cX8_init 341 = .ok (.dup, 1) ∧ 341 + 1 = 342 := ⟨by decide +kernel, rfl⟩
theorem dX8_init_342 : decode cX8_init 342 = .ok (.bipush 35, 2) ∧ 342 + 2 = 344 := ⟨by decide +kernel, rfl⟩
theorem dX8_init_344 : decode cX8_init 344 = .ok (.bipush 32, 2) ∧ 344 + 2 = 346 := ⟨by decide +kernel, rfl⟩
theorem dX8_init_346 : decode cX8_init 346 = .ok (.iastore, 1) ∧ 346 + 1 = 347 := ⟨by decide +kernel, rfl⟩
theorem dX8_init_347 : decode cX8_init 347 = .ok (.dup, 1) ∧ 347 + 1 = 348 := ⟨by decide +kernel, rfl⟩
theorem dX8_init_348 : decode cX8_init 348 = .ok (.bipush 36, 2) ∧ 348 + 2 = 350 := ⟨by decide +kernel, rfl⟩
theorem dX8_init_350 : decode cX8_init 350 = .ok (.bipush 59, 2) ∧ 350 + 2 = 352 := ⟨by decide +kernel, rfl⟩
theorem dX8_init_352 : decode cX8_init 352 = .ok (.iastore, 1) ∧ 352 + 1 = 353 := ⟨by decide +kernel, rfl⟩
theorem dX8_init_353 : decode cX8_init 353 = .ok (.putfield 52, 3) ∧ 353 + 3 = 356 := ⟨by decide +kernel, rfl⟩
theorem dX8_init_356 : decode cX8_init 356 = .ok (.aload_n 0, 1) ∧ 356 + 1 = 357 := ⟨by decide +kernel, rfl⟩
theorem dX8_init_357 : decode cX8_init 357 = .ok (.bipush 96, 2) ∧ 357 + 2 = 359 := ⟨by decide +kernel, rfl⟩
theorem dX8_init_359 : decode cX8_init 359 = .ok (.newarray .int, 2) ∧ 359 + 2 = 361 := ⟨by decide +kernel, rfl⟩
theorem dX8_init_361 : decode cX8_init 361 = .ok (.dup, 1) ∧ 361 + 1 = 362 := ⟨by decide +kernel, rfl⟩
theorem dX8_init_362 : decode cX8_init 362 = .ok (.iconst 0, 1) ∧ 362 + 1 = 363 := ⟨by decide +kernel, rfl⟩
theorem dX8_init_363 : decode cX8_init 363 = .ok (.bipush 115, 2) ∧ 363 + 2 = 365 := ⟨by decide +kernel, rfl⟩
theorem dX8_init_365 : decode cX8_init 365 = .ok (.iastore, 1) ∧ 365 + 1 = 366 := ⟨by decide +kernel, rfl⟩
theorem dX8_init_366 : decode cX8_init 366 = .ok (.dup, 1) ∧ 366 + 1 = 367 := ⟨by decide +kernel, rfl⟩
theorem dX8_init_367 : decode cX8_init 367 = .ok (.iconst 1, 1) ∧ 367 + 1 = 368 := ⟨by decide +kernel, rfl⟩
theorem dX8_init_368 : decode cX8_init 368 = .ok (.bipush 116, 2) ∧ 368 + 2 = 370 := ⟨by decide +kernel, rfl⟩
theorem dX8_init_370 : decode cX8_init 370 = .ok (.iastore, 1) ∧ 370 + 1 = 371 := ⟨by decide +kernel, rfl⟩
theorem dX8_init_371 : decode cX8_init 371 = .ok (.dup, 1) ∧ 371 + 1 = 372 := ⟨by decide +kernel, rfl⟩
theorem dX8_init_372 : decode cX8_init 372 = .ok (.iconst 2, 1) ∧ 372 + 1 = 373 := ⟨by decide +kernel, rfl⟩
theorem dX8_init_373 : decode cX8_init 373 = .ok (.bipush 114, 2) ∧ 373 + 2 = 375 := ⟨by decide +kernel, rfl⟩
theorem dX8_init_375 : decode cX8_init 375 = .ok (.iastore, 1) ∧ 375 + 1 = 376 := ⟨by decide +kernel, rfl⟩
theorem dX8_init_376 : decode cX8_init 376 = .ok (.dup, 1) ∧ 376 + 1 = 377 := ⟨by decide +kernel, rfl⟩
theorem dX8_init_377 : decode cX8_init 377 = .ok (.iconst 3, 1) ∧ 377 + 1 = 378 := ⟨by decide +kernel, rfl⟩
theorem dX8_init_378 : decode cX8_init 378 = .ok (.bipush 111, 2) ∧ 378 + 2 = 380 := ⟨by decide +kernel, rfl⟩
theorem dX8_init_380 : decode cX8_init 380 = .ok (.iastore, 1) ∧ 380 + 1 = 381 := ⟨by decide +kernel, rfl⟩
theorem dX8_init_381 : decode cX8_init 381 = .ok (.dup, 1) ∧ 381 + 1 = 382 := ⟨by decide +kernel, rfl⟩
theorem dX8_init_382 : decode cX8_init 382 = .ok (.iconst 4, 1) ∧ 382 + 1 = 383 := ⟨by decide +kernel, rfl⟩
theorem dX8_init_383 : decode cX8_init 383 = .ok (.bipush 107, 2) ∧ 383 + 2 = 385 := ⟨by decide +kernel, rfl⟩
theorem dX8_init_385 : decode cX8_init 385 = .ok (.iastore, 1) ∧ 385 + 1 = 386 := ⟨by decide +kernel, rfl⟩
theorem dX8_init_386 : decode cX8_init 386 = .ok (.dup, 1) ∧ 386 + 1 = 387 := ⟨by decide +kernel, rfl⟩
theorem dX8_init_387 : decode cX8_init 387 = .ok (.iconst 5, 1) ∧ 387 + 1 = 388 := ⟨by decide +kernel, rfl⟩
theorem dX8_init_388 : decode cX8_init 388 = .ok (.bipush 101, 2) ∧ 388 + 2 = 390 := ⟨by decide +kernel, rfl⟩
theorem dX8_init_390 : decode cX8_init 390 = .ok (.iastore, 1) ∧ 390 + 1 = 391 := ⟨by decide +kernel, rfl⟩
theorem dX8_init_391 : decode cX8_init 391 = .ok (.dup, 1) ∧ 391 + 1 = 392 := ⟨by decide +kernel, rfl⟩
theorem dX8_init_392 : decode cX8_init 392 = .ok (.bipush 6, 2) ∧ 392 + 2 = 394 := ⟨by decide +kernel, rfl⟩
theorem dX8_init_394 : decode cX8_init 394 = .ok (.bipush 115, 2) ∧ 394 + 2 = 396 := ⟨by decide +kernel, rfl⟩
theorem dX8_init_396 : decode cX8_init 396 = .ok (.iastore, 1) ∧ 396 + 1 = 397 := ⟨by decide +kernel, rfl⟩
theorem dX8_init_397 : decode cX8_init 397 = .ok (.dup, 1) ∧ 397 + 1 = 398 := ⟨by decide +kernel, rfl⟩
theorem dX8_init_398 : decode cX8_init 398 = .ok (.bipush 7, 2) ∧ 398 + 2 = 400 := ⟨by decide +kernel, rfl⟩
theorem dX8_init_400 : decode cX8_init 400 = .ok (.bipush 32, 2) ∧ 400 + 2 = 402 := ⟨by decide +kernel, rfl⟩
theorem dX8_init_402 : decode cX8_init 402 = .ok (.iastore, 1) ∧ 402 + 1 = 403 := ⟨by decide +kernel, rfl⟩
theorem dX8_init_403 : decode cX8_init 403 = .ok (.dup, 1) ∧ 403 + 1 = 404 := ⟨by decide +kernel, rfl⟩
theorem dX8_init_404 : decode cX8_init 404 = .ok (.bipush 8, 2) ∧ 404 + 2 = 406 := ⟨by decide +kernel, rfl⟩
theorem dX8_init_406 : decode cX8_init 406 = .ok (.bipush 100, 2) ∧ 406 + 2 = 408 := ⟨by decide +kernel, rfl⟩
theorem dX8_init_408 : decode cX8_init 408 = .ok (.iastore, 1) ∧ 408 + 1 = 409 := ⟨by decide +kernel, rfl⟩
theorem dX8_init_409 : decode cX8_init 409 = .ok (.dup, 1) ∧ 409 + 1 = 410 := ⟨by decide +kernel, rfl⟩
theorem dX8_init_410 : decode cX8_init 410 = .ok (.bipush 9, 2) ∧ 410 + 2 = 412 := ⟨by decide +kernel, rfl⟩
theorem dX8_init_412 : decode cX8_init 412 = .ok (.bipush 111, 2) ∧ 412 + 2 = 414 := ⟨by decide +kernel, rfl⟩
theorem dX8_init_414 : decode cX8_init 414 = .ok (.iastore, 1) ∧ 414 + 1 = 415 := ⟨by decide +kernel, rfl⟩
theorem dX8_init_415 : decode cX8_init 415 = .ok (.dup, 1) ∧ 415 + 1 = 416 := ⟨by decide +kernel, rfl⟩
theorem dX8_init_416 : decode cX8_init 416 = .ok (.bipush 10, 2) ∧ 416 + 2 = 418 := ⟨by decide +kernel, rfl⟩
theorem dX8_init_418 : decode cX8_init 418 = .ok (.bipush 117, 2) ∧ 418 + 2 = 420 := ⟨by decide +kernel, rfl⟩
theorem dX8_init_420 : decode cX8_init 420 = .ok (.iastore, 1) ∧ 420 + 1 = 421 := ⟨by decide +kernel, rfl⟩
theorem dX8_init_421 : decode cX8_init 421 = .ok (.dup, 1) ∧ 421 + 1 = 422 := ⟨by decide +kernel, rfl⟩
theorem dX8_init_422 : decode cX8_init 422 = .ok (.bipush 11, 2) ∧ 422 + 2 = 424 := ⟨by decide +kernel, rfl⟩
theorem dX8_init_424 : decode cX8_init 424 = .ok (.bipush 98, 2) ∧ 424 + 2 = 426 := ⟨by decide +kernel, rfl⟩
theorem dX8_init_426 : decode cX8_init 426 = .ok (.iastore, 1) ∧ 426 + 1 = 427 := ⟨by decide +kernel, rfl⟩
theorem dX8_init_427 : decode cX8_init 427 = .ok (.dup, 1) ∧ 427 + 1 = 428 := ⟨by decide +kernel, rfl⟩
theorem dX8_init_428 : decode cX8_init 428 = .ok (.bipush 12, 2) ∧ 428 + 2 = 430 := ⟨by decide +kernel, rfl⟩
theorem dX8_init_430 : decode cX8_init 430 = .ok (.bipush 116, 2) ∧ 430 + 2 = 432 := ⟨by decide +kernel, rfl⟩
theorem dX8_init_432 : decode cX8_init 432 = .ok (.iastore, 1) ∧ 432 + 1 = 433 := ⟨by decide +kernel, rfl⟩
theorem dX8_init_433 : decode cX8_init 433 = .ok (.dup, 1) ∧ 433 + 1 = 434 := ⟨by decide +kernel, rfl⟩
theorem dX8_init_434 : decode cX8_init 434 = .ok (.bipush 13, 2) ∧ 434 + 2 = 436 := ⟨by decide +kernel, rfl⟩
theorem dX8_init_436 : decode cX8_init 436 = .ok (.bipush 115, 2) ∧ 436 + 2 = 438 := ⟨by decide +kernel, rfl⟩
theorem dX8_init_438 : decode cX8_init 438 = .ok (.iastore, 1) ∧ 438 + 1 = 439 := ⟨by decide +kernel, rfl⟩
theorem dX8_init_439 : decode cX8_init 439 = .ok (.dup, 1) ∧ 439 + 1 = 440 := ⟨by decide +kernel, rfl⟩
theorem dX8_init_440 : decode cX8_init 440 = .ok (.bipush 14, 2) ∧ 440 + 2 = 442 := ⟨by decide +kernel, rfl⟩
theorem dX8_init_442 : decode cX8_init 442 = .ok (.bipush 32, 2) ∧ 442 + 2 = 444 := ⟨by decide +kernel, rfl⟩
theorem dX8_init_444 : decode cX8_init 444 = .ok (.iastore, 1) ∧ 444 + 1 = 445 := ⟨by decide +kernel, rfl⟩
theorem dX8_init_445 : decode cX8_init 445 = .ok (.dup, 1) ∧ 445 + 1 = 446 := ⟨by decide +kernel, rfl⟩
theorem dX8_init_446 : decode cX8_init 446 = .ok (.bipush 15, 2) ∧ 446 + 2 = 448 := ⟨by decide +kernel, rfl⟩
theorem dX8_init_448 : decode cX8_init 448 = .ok (.bipush 32, 2) ∧ 448 + 2 = 450 := ⟨by decide +kernel, rfl⟩
theorem dX8_init_450 : decode cX8_init 450 = .ok (.iastore, 1) ∧ 450 + 1 = 451 := ⟨by decide +kernel, rfl⟩
theorem dX8_init_451 : decode cX8_init 451 = .ok (.dup, 1) ∧ 451 + 1 = 452 := ⟨by decide +kernel, rfl⟩
theorem dX8_init_452 : decode cX8_init 452 = .ok (.bipush 16, 2) ∧ 452 + 2 = 454 := ⟨by decide +kernel, rfl⟩
theorem dX8_init_454 : decode cX8_init 454 = .ok (.bipush 112, 2) ∧ 454 + 2 = 456 := ⟨by decide +kernel, rfl⟩
theorem dX8_init_456 : decode cX8_init 456 = .ok (.iastore, 1) ∧ 456 + 1 = 457 := ⟨by decide +kernel, rfl⟩
theorem dX8_init_457 : decode cX8_init 457 = .ok (.dup, 1) ∧ 457 + 1 = 458 := ⟨by decide +kernel, rfl⟩
theorem dX8_init_458 : decode cX8_init 458 = .ok (.bipush 17, 2) ∧ 458 + 2 = 460 := ⟨by decide +kernel, rfl⟩
theorem dX8_init_460 : decode cX8_init 460 = .ok (.bipush 97, 2) ∧ 460 + 2 = 462 := ⟨by decide +kernel, rfl⟩
theorem dX8_init_462 : decode cX8_init 462 = .ok (.iastore, 1) ∧ 462 + 1 = 463 := ⟨by decide +kernel, rfl⟩
theorem dX8_init_463 : decode cX8_init 463 = .ok (.dup, 1) ∧ 463 + 1 = 464 := ⟨by decide +kernel, rfl⟩
theorem dX8_init_464 : decode cX8_init 464 = .ok (.bipush 18, 2) ∧ 464 + 2 = 466 := ⟨by decide +kernel, rfl⟩
theorem dX8_init_466 : decode cX8_init 466 = .ok (.bipush 121, 2) ∧ 466 + 2 = 468 := ⟨by decide +kernel, rfl⟩
theorem dX8_init_468 : decode cX8_init 468 = .ok (.iastore, 1) ∧ 468 + 1 = 469 := ⟨by decide +kernel, rfl⟩
theorem dX8_init_469 : decode cX8_init 469 = .ok (.dup, 1) ∧ 469 + 1 = 470 := ⟨by decide +kernel, rfl⟩
theorem dX8_init_470 : decode cX8_init 470 = .ok (.bipush 19, 2) ∧ 470 + 2 = 472 := ⟨by decide +kernel, rfl⟩
theorem dX8_init_472 : decode cX8_init 472 = .ok (.bipush 115, 2) ∧ 472 + 2 = 474 := ⟨by decide +kernel, rfl⟩
theorem dX8_init_474 : decode cX8_init 474 = .ok (.iastore, 1) ∧ 474 + 1 = 475 := ⟨by decide +kernel, rfl⟩
theorem dX8_init_475 : decode cX8_init 475 = .ok (.dup, 1) ∧ 475 + 1 = 476 := ⟨by decide +kernel, rfl⟩
theorem dX8_init_476 : decode cX8_init 476 = .ok (.bipush 20, 2) ∧ 476 + 2 = 478 := ⟨by decide +kernel, rfl⟩
theorem dX8_init_478 : decode cX8_init 478 = .ok (.bipush 32, 2) ∧ 478 + 2 = 480 := ⟨by decide +kernel, rfl⟩
theorem dX8_init_480 : decode cX8_init 480 = .ok (.iastore, 1) ∧ 480 + 1 = 481 := ⟨by decide +kernel, rfl⟩
theorem dX8_init_481 : decode cX8_init 481 = .ok (.dup, 1) ∧ 481 + 1 = 482 := ⟨by decide +kernel, rfl⟩
theorem dX8_init_482 : decode cX8_init 482 = .ok (.bipush 21, 2) ∧ 482 + 2 = 484 := ⟨by decide +kernel, rfl⟩
theorem dX8_init_484 : decode cX8_init 484 = .ok (.bipush 32, 2) ∧ 484 + 2 = 486 := ⟨by decide +kernel, rfl⟩
theorem dX8_init_486 : decode cX8_init 486 = .ok (.iastore, 1) ∧ 486 + 1 = 487 := ⟨by decide +kernel, rfl⟩
theorem dX8_init_487 : decode cX8_init 487 = .ok (.dup, 1) ∧ 487 + 1 = 488 := ⟨by decide +kernel, rfl⟩
theorem dX8_init_488 : decode cX8_init 488 = .ok (.bipush 22, 2) ∧ 488 + 2 = 490 := ⟨by decide +kernel, rfl⟩
theorem dX8_init_490 : decode cX8_init 490 = .ok (.bipush 32, 2) ∧ 490 + 2 = 492 := ⟨by decide +kernel, rfl⟩
theorem dX8_init_492 : decode cX8_init 492 = .ok (.iastore, 1) ∧ 492 + 1 = 493 := ⟨by decide +kernel, rfl⟩
theorem dX8_init_493 : decode cX8_init 493 = .ok (.dup, 1) ∧ 493 + 1 = 494 := ⟨by decide +kernel, rfl⟩
theorem dX8_init_494 : decode cX8_init 494 = .ok (.bipush 23, 2) ∧ 494 + 2 = 496 := ⟨by decide +kernel, rfl⟩
theorem dX8_init_496 : decode cX8_init 496 = .ok (.bipush 32, 2) ∧ 496 + 2 = 498 := ⟨by decide +kernel, rfl⟩
theorem dX8_init_498 : decode cX8_init 498 = .ok (.iastore, 1) ∧ 498 + 1 = 499 := ⟨by decide +kernel, rfl⟩
theorem dX8_init_499 : decode cX8_init 499 = .ok (.dup, 1) ∧ 499 + 1 = 500 := ⟨by decide +kernel, rfl⟩
theorem dX8_init_500 : decode cX8_init 500 = .ok (.bipush 24, 2) ∧ 500 + 2 = 502 := ⟨by decide +kernel, rfl⟩
theorem dX8_init_502 : decode cX8_init 502 = .ok (.bipush 119, 2) ∧ 502 + 2 = 504 := ⟨by decide +kernel, rfl⟩
theorem dX8_init_504 : decode cX8_init 504 = .ok (.iastore, 1) ∧ 504 + 1 = 505 := ⟨by decide +kernel, rfl⟩
theorem dX8_init_505 : decode cX8_init 505 = .ok (.dup, 1) ∧ 505 + 1 = 506 := ⟨by decide +kernel, rfl⟩
theorem dX8_init_506 : decode cX8_init 506 = .ok (.bipush 25, 2) ∧ 506 + 2 = 508 := ⟨by decide +kernel, rfl⟩
theorem dX8_init_508 : decode cX8_init 508 = .ok (.bipush 101, 2) ∧ 508 + 2 = 510 := ⟨by decide +kernel, rfl⟩
theorem dX8_init_510 : decode cX8_init 510 = .ok (.iastore, 1) ∧ 510 + 1 = 511 := ⟨by decide +kernel, rfl⟩
theorem dX8_init_511 : decode cX8_init 511 = .ok (.dup, 1) ∧ 511 + 1 = 512 := ⟨by decide +kernel, rfl⟩
theorem dX8_init_512 : decode cX8_init 512 = .ok (.bipush 26, 2) ∧ 512 + 2 = 514 := ⟨by decide +kernel, rfl⟩
theorem dX8_init_514 : decode cX8_init 514 = .ok (.bipush 105, 2) ∧ 514 + 2 = 516 := ⟨by decide +kernel, rfl⟩
theorem dX8_init_516 : decode cX8_init 516 = .ok (.iastore, 1) ∧ 516 + 1 = 517 := ⟨by decide +kernel, rfl⟩
theorem dX8_init_517 : decode cX8_init 517 = .ok (.dup, 1) ∧ 517 + 1 = 518 := ⟨by decide +kernel, rfl⟩
theorem dX8_init_518 : decode cX8_init 518 = .ok (.bipush 27, 2) ∧ 518 + 2 = 520 := ⟨by decide +kernel, rfl⟩
theorem dX8_init_520 : decode cX8_init 520 = .ok (.bipush 103, 2) ∧ 520 + 2 = 522 := ⟨by decide +kernel, rfl⟩
theorem dX8_init_522 : decode cX8_init 522 = .ok (.iastore, 1) ∧ 522 + 1 = 523 := ⟨by decide +kernel, rfl⟩
theorem dX8_init_523 : decode cX8_init 523 = .ok (.dup, 1) ∧ 523 + 1 = 524 := ⟨by decide +kernel, rfl⟩
theorem dX8_init_524 : decode cX8_init 524 = .ok (.bipush 28, 2) ∧ 524 + 2 = 526 := ⟨by decide +kernel, rfl⟩
theorem dX8_init_526 : decode cX8_init 526 = .ok (.bipush 104, 2) ∧ 526 + 2 = 528 := ⟨by decide +kernel, rfl⟩
theorem dX8_init_528 : decode cX8_init 528 = .ok (.iastore, 1) ∧ 528 + 1 = 529 := ⟨by decide +kernel, rfl⟩
theorem dX8_init_529 : decode cX8_init 529 = .ok (.dup, 1) ∧ 529 + 1 = 530 := ⟨by decide +kernel, rfl⟩
theorem dX8_init_530 : decode cX8_init 530 = .ok (.bipush 29, 2) ∧ 530 + 2 = 532 := ⟨by decide +kernel, rfl⟩
theorem dX8_init_532 : decode cX8_init 532 = .ok (.bipush 116, 2) ∧ 532 + 2 = 534 := ⟨by decide +kernel, rfl⟩
theorem dX8_init_534 : decode cX8_init 534 = .ok (.iastore, 1) ∧ 534 + 1 = 535 := ⟨by decide +kernel, rfl⟩
theorem dX8_init_535 : decode cX8_init 535 = .ok (.dup, 1) ∧ 535 + 1 = 536 := ⟨by decide +kernel, rfl⟩
theorem dX8_init_536 : decode cX8_init 536 = .ok (.bipush 30, 2) ∧ 536 + 2 = 538 := ⟨by decide +kernel, rfl⟩
theorem dX8_init_538 : decode cX8_init 538 = .ok (.bipush 32, 2) ∧ 538 + 2 = 540 := ⟨by decide +kernel, rfl⟩
theorem dX8_init_540 : decode cX8_init 540 = .ok (.iastore, 1) ∧ 540 + 1 = 541 := ⟨by decide +kernel, rfl⟩
theorem dX8_init_541 : decode cX8_init 541 = .ok (.dup, 1) ∧ 541 + 1 = 542 := ⟨by decide +kernel, rfl⟩
theorem dX8_init_542 : decode cX8_init 542 = .ok (.bipush 31, 2) ∧ 542 + 2 = 544 := ⟨by decide +kernel, rfl⟩
theorem dX8_init_544 : decode cX8_init 544 = .ok (.bipush 32, 2) ∧ 544 + 2 = 546 := ⟨by decide +kernel, rfl⟩
theorem dX8_init_546 : decode cX8_init 546 = .ok (.iastore, 1) ∧ 546 + 1 = 547 := ⟨by decide +kernel, rfl⟩
theorem dX8_init_547 : decode cX8_init 547 = .ok (.dup, 1) ∧ 547 + 1 = 548 := ⟨by decide +kernel, rfl⟩
theorem dX8_init_548 : decode cX8_init 548 = .ok (.bipush 32, 2) ∧ 548 + 2 = 550 := ⟨by decide +kernel, rfl⟩
theorem dX8_init_550 : decode cX8_init 550 = .ok (.bipush 115, 2) ∧ 550 + 2 = 552 := ⟨by decide +kernel, rfl⟩
theorem dX8_init_552 : decode cX8_init 552 = .ok (.iastore, 1) ∧ 552 + 1 = 553 := ⟨by decide +kernel, rfl⟩
theorem dX8_init_553 : decode cX8_init 553 = .ok (.dup, 1) ∧ 553 + 1 = 554 := ⟨by decide +kernel, rfl⟩
theorem dX8_init_554 : decode cX8_init 554 = .ok (.bipush 33, 2) ∧ 554 + 2 = 556 := ⟨by decide +kernel, rfl⟩
theorem dX8_init_556 : decode cX8_init 556 = .ok (.bipush 104, 2) ∧ 556 + 2 = 558 := ⟨by decide +kernel, rfl⟩
theorem dX8_init_558 : decode cX8_init 558 = .ok (.iastore, 1) ∧ 558 + 1 = 559 := ⟨by decide +kernel, rfl⟩
theorem dX8_init_559 : decode cX8_init 559 = .ok (.dup, 1) ∧ 559 + 1 = 560 := ⟨by decide +kernel, rfl⟩
theorem dX8_init_560 : decode cX8_init 560 = .ok (.bipush 34, 2) ∧ 560 + 2 = 562 := ⟨by decide +kernel, rfl⟩
theorem dX8_init_562 : decode cX8_init 562 = .ok (.bipush 97, 2) ∧ 562 + 2 = 564 := ⟨by decide +kernel, rfl⟩
theorem dX8_init_564 : decode cX8_init 564 = .ok (.iastore, 1) ∧ 564 + 1 = 565 := ⟨by decide +kernel, rfl⟩
theorem dX8_init_565 : decode cX8_init 565 = .ok (.dup, 1) ∧ 565 + 1 = 566 := ⟨by decide +kernel, rfl⟩
theorem dX8_init_566 : decode cX8_init 566 = .ok (.bipush 35, 2) ∧ 566 + 2 = 568 := ⟨by decide +kernel, rfl⟩
theorem dX8_init_568 : decode cX8_init 568 = .ok (.bipush 114, 2) ∧ 568 + 2 = 570 := ⟨by decide +kernel, rfl⟩
theorem dX8_init_570 : decode cX8_init 570 = .ok (.iastore, 1) ∧ 570 + 1 = 571 := ⟨by decide +kernel, rfl⟩
theorem dX8_init_571 : decode cX8_init 571 = .ok (.dup, 1) ∧ 571 + 1 = 572 := ⟨by decide +kernel, rfl⟩
theorem dX8_init_572 : decode cX8_init 572 = .ok (.bipush 36, 2) ∧ 572 + 2 = 574 := ⟨by decide +kernel, rfl⟩
theorem dX8_init_574 : decode cX8_init 574 = .ok (.bipush 101, 2) ∧ 574 + 2 = 576 := ⟨by decide +kernel, rfl⟩
theorem dX8_init_576 : decode cX8_init 576 = .ok (.iastore, 1) ∧ 576 + 1 = 577 := ⟨by decide +kernel, rfl⟩
theorem dX8_init_577 : decode cX8_init 577 = .ok (.dup, 1) ∧ 577 + 1 = 578 := ⟨by decide +kernel, rfl⟩
theorem dX8_init_578 : decode cX8_init 578 = .ok (.bipush 37, 2) ∧ 578 + 2 = 580 := ⟨by decide +kernel, rfl⟩
theorem dX8_init_580 : decode cX8_init 580 = .ok (.bipush 100, 2) ∧ 580 + 2 = 582 := ⟨by decide +kernel, rfl⟩
theorem dX8_init_582 : decode cX8_init 582 = .ok (.iastore, 1) ∧ 582 + 1 = 583 := ⟨by decide +kernel, rfl⟩
theorem dX8_init_583 : decode cX8_init 583 = .ok (.dup, 1) ∧ 583 + 1 = 584 := ⟨by decide +kernel, rfl⟩
theorem dX8_init_584 : decode cX8_init 584 = .ok (.bipush 38, 2) ∧ 584 + 2 = 586 := ⟨by decide +kernel, rfl⟩
theorem dX8_init_586 : decode cX8_init 586 = .ok (.bipush 32, 2) ∧ 586 + 2 = 588 := ⟨by decide +kernel, rfl⟩
theorem dX8_init_588 : decode cX8_init 588 = .ok (.iastore, 1) ∧ 588 + 1 = 589 := ⟨by decide +kernel, rfl⟩
theorem dX8_init_589 : decode cX8_init 589 = .ok (.dup, 1) ∧ 589 + 1 = 590 := ⟨by decide +kernel, rfl⟩
theorem dX8_init_590 : decode cX8_init 590 = .ok (.bipush 39, 2) ∧ 590 + 2 = 592 := ⟨by decide +kernel, rfl⟩
theorem dX8_init_592 : decode cX8_init 592 = .ok (.bipush 32, 2) ∧ 592 + 2 = 594 := ⟨by decide +kernel, rfl⟩
theorem dX8_init_594 : decode cX8_init 594 = .ok (.iastore, 1) ∧ 594 + 1 = 595 := ⟨by decide +kernel, rfl⟩
theorem dX8_init_595 : decode cX8_init 595 = .ok (.dup, 1) ∧ 595 + 1 = 596 := ⟨by decide +kernel, rfl⟩
theorem dX8_init_596 : decode cX8_init 596 = .ok (.bipush 40, 2) ∧ 596 + 2 = 598 := ⟨by decide +kernel, rfl⟩
theorem dX8_init_598 : decode cX8_init 598 = .ok (.bipush 115, 2) ∧ 598 + 2 = 600 := ⟨by decide +kernel, rfl⟩
theorem dX8_init_600 : decode cX8_init 600 = .ok (.iastore, 1) ∧ 600 + 1 = 601 := ⟨by decide +kernel, rfl⟩
theorem dX8_init_601 : decode cX8_init 601 = .ok (.dup, 1) ∧ 601 + 1 = 602 := ⟨by decide +kernel, rfl⟩
theorem dX8_init_602 : decode cX8_init 602 = .ok (.bipush 41, 2) ∧ 602 + 2 = 604 := ⟨by decide +kernel, rfl⟩
theorem dX8_init_604 : decode cX8_init 604 = .ok (.bipush 101, 2) ∧ 604 + 2 = 606 := ⟨by decide +kernel, rfl⟩
theorem dX8_init_606 : decode cX8_init 606 = .ok (.iastore, 1) ∧ 606 + 1 = 607 := ⟨by decide +kernel, rfl⟩
theorem dX8_init_607 : decode cX8_init 607 = .ok (.dup, 1) ∧ 607 + 1 = 608 := ⟨by decide +kernel, rfl⟩
theorem dX8_init_608 : decode cX8_init 608 = .ok (.bipush 42, 2) ∧ 608 + 2 = 610 := ⟨by decide +kernel, rfl⟩
theorem dX8_init_610 : decode cX8_init 610 = .ok (.bipush 101, 2) ∧ 610 + 2 = 612 := ⟨by decide +kernel, rfl⟩
theorem dX8_init_612 : decode cX8_init 612 = .ok (.iastore, 1) ∧ 612 + 1 = 613 := ⟨by decide +kernel, rfl⟩
theorem dX8_init_613 : decode cX8_init 613 = .ok (.dup, 1) ∧ 613 + 1 = 614 := ⟨by decide +kernel, rfl⟩
theorem dX8_init_614 : decode cX8_init 614 = .ok (.bipush 43, 2) ∧ 614 + 2 = 616 := ⟨by decide +kernel, rfl⟩
theorem dX8_init_616 : decode cX8_init 616 = .ok (.bipush 110, 2) ∧ 616 + 2 = 618 := ⟨by decide +kernel, rfl⟩
theorem dX8_init_618 : decode cX8_init 618 = .ok (.iastore, 1) ∧ 618 + 1 = 619 := ⟨by decide +kernel, rfl⟩
theorem dX8_init_619 : decode cX8_init 619 = .ok (.dup, 1) ∧ 619 + 1 = 620 := ⟨by decide +kernel, rfl⟩
theorem dX8_init_620 : decode cX8_init 620 = .ok (.bipush 44, 2) ∧ 620 + 2 = 622 := ⟨by decide +kernel, rfl⟩
theorem dX8_init_622 : decode cX8_init 622 = .ok (.bipush 32, 2) ∧ 622 + 2 = 624 := ⟨by decide +kernel, rfl⟩
theorem dX8_init_624 : decode cX8_init 624 = .ok (.iastore, 1) ∧ 624 + 1 = 625 := ⟨by decide +kernel, rfl⟩
theorem dX8_init_625 : decode cX8_init 625 = .ok (.dup, 1) ∧ 625 + 1 = 626 := ⟨by decide +kernel, rfl⟩
theorem dX8_init_626 : decode cX8_init 626 = .ok (.bipush 45, 2) ∧ 626 + 2 = 628 := ⟨by decide +kernel, rfl⟩
theorem dX8_init_628 : decode cX8_init 628 = .ok (.bipush 32, 2) ∧ 628 + 2 = 630 := ⟨by decide +kernel, rfl⟩
theorem dX8_init_630 : decode cX8_init 630 = .ok (.iastore, 1) ∧ 630 + 1 = 631 := ⟨by decide +kernel, rfl⟩
theorem dX8_init_631 : decode cX8_init 631 = .ok (.dup, 1) ∧ 631 + 1 = 632 := ⟨by decide +kernel, rfl⟩
theorem dX8_init_632 : decode cX8_init 632 = .ok (.bipush 46, 2) ∧ 632 + 2 = 634 := ⟨by decide +kernel, rfl⟩
theorem dX8_init_634 : decode cX8_init 634 = .ok (.bipush 32, 2) ∧ 634 + 2 = 636 := ⟨by decide +kernel, rfl⟩
theorem dX8_init_636 : decode cX8_init 636 = .ok (.iastore, 1) ∧ 636 + 1 = 637 := ⟨by decide +kernel, rfl⟩
theorem dX8_init_637 : decode cX8_init 637 = .ok (.dup, 1) ∧ 637 + 1 = 638 := ⟨by decide +kernel, rfl⟩
theorem dX8_init_638 : decode cX8_init 638 = .ok (.bipush 47, 2) ∧ 638 + 2 = 640 := ⟨by decide +kernel, rfl⟩
theorem dX8_init_640 : decode cX8_init 640 = .ok (.bipush 32, 2) ∧ 640 + 2 = 642 := ⟨by decide +kernel, rfl⟩
theorem dX8_init_642 : decode cX8_init 642 = .ok (.iastore, 1) ∧ 642 + 1 = 643 := ⟨by decide +kernel, rfl⟩
theorem dX8_init_643 : decode cX8_init 643 = .ok (.dup, 1) ∧ 643 + 1 = 644 := ⟨by decide +kernel, rfl⟩
theorem dX8_init_644 : decode cX8_init 644 = .ok (.bipush 48, 2) ∧ 644 + 2 = 646 := ⟨by decide +kernel, rfl⟩
theorem dX8_init_646 : decode cX8_init 646 = .ok (.bipush 100, 2) ∧ 646 + 2 = 648 := ⟨by decide +kernel, rfl⟩
theorem dX8_init_648 : decode cX8_init 648 = .ok (.iastore, 1) ∧ 648 + 1 = 649 := ⟨by decide +kernel, rfl⟩
theorem dX8_init_649 : decode cX8_init 649 = .ok (.dup, 1) ∧ 649 + 1 = 650 := ⟨by decide +kernel, rfl⟩
theorem dX8_init_650 : decode cX8_init 650 = .ok (.bipush 49, 2) ∧ 650 + 2 = 652 := ⟨by decide +kernel, rfl⟩
theorem dX8_init_652 : decode cX8_init 652 = .ok (.bipush 97, 2) ∧ 652 + 2 = 654 := ⟨by decide +kernel, rfl⟩
theorem dX8_init_654 : decode cX8_init 654 = .ok (.iastore, 1) ∧ 654 + 1 = 655 := ⟨by decide +kernel, rfl⟩
theorem dX8_init_655 : decode cX8_init 655 = .ok (.dup, 1) ∧ 655 + 1 = 656 := ⟨by decide +kernel, rfl⟩
theorem dX8_init_656 : decode cX8_init 656 = .ok (.bipush 50, 2) ∧ 656 + 2 = 658 := ⟨by decide +kernel, rfl⟩
theorem dX8_init_658 : decode cX8_init 658 = .ok (.bipush 121, 2) ∧ 658 + 2 = 660 := ⟨by decide +kernel, rfl⟩
theorem dX8_init_660 : decode cX8_init 660 = .ok (.iastore, 1) ∧ 660 + 1 = 661 := ⟨by decide +kernel, rfl⟩
theorem dX8_init_661 : decode cX8_init 661 = .ok (.dup, 1) ∧ 661 + 1 = 662 := ⟨by decide +kernel, rfl⟩
theorem dX8_init_662 : decode cX8_init 662 = .ok (.bipush 51, 2) ∧ 662 + 2 = 664 := ⟨by decide +kernel, rfl⟩
theorem dX8_init_664 : decode cX8_init 664 = .ok (.bipush 32, 2) ∧ 664 + 2 = 666 := ⟨by decide +kernel, rfl⟩
theorem dX8_init_666 : decode cX8_init 666 = .ok (.iastore, 1) ∧ 666 + 1 = 667 := ⟨by decide +kernel, rfl⟩
theorem dX8_init_667 : decode cX8_init 667 = .ok (.dup, 1) ∧ 667 + 1 = 668 := ⟨by decide +kernel, rfl⟩
theorem dX8_init_668 : decode cX8_init 668 = .ok (.bipush 52, 2) ∧ 668 + 2 = 670 := ⟨by decide +kernel, rfl⟩
theorem dX8_init_670 : decode cX8_init 670 = .ok (.bipush 32, 2) ∧ 670 + 2 = 672 := ⟨by decide +kernel, rfl⟩
theorem dX8_init_672 : decode cX8_init 672 = .ok (.iastore, 1) ∧ 672 + 1 = 673 := ⟨by decide +kernel, rfl⟩
theorem dX8_init_673 : decode cX8_init 673 = .ok (.dup, 1) ∧ 673 + 1 = 674 := ⟨by decide +kernel, rfl⟩
theorem dX8_init_674 : decode cX8_init 674 = .ok (.bipush 53, 2) ∧ 674 + 2 = 676 := ⟨by decide +kernel, rfl⟩
theorem dX8_init_676 : decode cX8_init 676 = .ok (.bipush 32, 2) ∧ 676 + 2 = 678 := ⟨by decide +kernel, rfl⟩
theorem dX8_init_678 : decode cX8_init 678 = .ok (.iastore, 1) ∧ 678 + 1 = 679 := ⟨by decide +kernel, rfl⟩
theorem dX8_init_679 : decode cX8_init 679 = .ok (.dup, 1) ∧ 679 + 1 = 680 := ⟨by decide +kernel, rfl⟩
theorem dX8_init_680 : decode cX8_init 680 = .ok (.bipush 54, 2) ∧ 680 + 2 = 682 := ⟨by decide +kernel, rfl⟩
theorem dX8_init_682 : decode cX8_init 682 = .ok (.bipush 32, 2) ∧ 682 + 2 = 684 := ⟨by decide +kernel, rfl⟩
theorem dX8_init_684 : decode cX8_init 684 = .ok (.iastore, 1) ∧ 684 + 1 = 685 := ⟨by decide +kernel, rfl⟩
theorem dX8_init_685 : decode cX8_init 685 = .ok (.dup, 1) ∧ 685 + 1 = 686 := ⟨by decide +kernel, rfl⟩
theorem dX8_init_686 : decode cX8_init 686 = .ok (.bipush 55, 2) ∧ 686 + 2 = 688 := ⟨by decide +kernel, rfl⟩
theorem dX8_init_688 : decode cX8_init 688 = .ok (.bipush 32, 2) ∧ 688 + 2 = 690 := ⟨by decide +kernel, rfl⟩
theorem dX8_init_690 : decode cX8_init 690 = .ok (.iastore, 1) ∧ 690 + 1 = 691 := ⟨by decide +kernel, rfl⟩
theorem dX8_init_691 : decode cX8_init 691 = .ok (.dup, 1) ∧ 691 + 1 = 692 := ⟨by decide +kernel, rfl⟩
theorem dX8_init_692 : decode cX8_init 692 = .ok (.bipush 56, 2) ∧ 692 + 2 = 694 := ⟨by decide +kernel, rfl⟩
theorem dX8_init_694 : decode cX8_init 694 = .ok (.bipush 112, 2) ∧ 694 + 2 = 696 := ⟨by decide +kernel, rfl⟩
theorem dX8_init_696 : decode cX8_init 696 = .ok (.iastore, 1) ∧ 696 + 1 = 697 := ⟨by decide +kernel, rfl⟩
theorem dX8_init_697 : decode cX8_init 697 = .ok (.dup, 1) ∧ 697 + 1 = 698 := ⟨by decide +kernel, rfl⟩
theorem dX8_init_698 : decode cX8_init 698 = .ok (.bipush 57, 2) ∧ 698 + 2 = 700 := ⟨by decide +kernel, rfl⟩
theorem dX8_init_700 : decode cX8_init 700 = .ok (.bipush 114, 2) ∧ 700 + 2 = 702 := ⟨by decide +kernel, rfl⟩
theorem dX8_init_702 : decode cX8_init 702 = .ok (.iastore, 1) ∧ 702 + 1 = 703 := ⟨by decide +kernel, rfl⟩
theorem dX8_init_703 : decode cX8_init 703 = .ok (.dup, 1) ∧ 703 + 1 = 704 := ⟨by decide +kernel, rfl⟩
theorem dX8_init_704 : decode cX8_init 704 = .ok (.bipush 58, 2) ∧ 704 + 2 = 706 := ⟨by decide +kernel, rfl⟩
theorem dX8_init_706 : decode cX8_init 706 = .ok (.bipush 105, 2) ∧ 706 + 2 = 708 := ⟨by decide +kernel, rfl⟩
theorem dX8_init_708 : decode cX8_init 708 = .ok (.iastore, 1) ∧ 708 + 1 = 709 := ⟨by decide +kernel, rfl⟩
theorem dX8_init_709 : decode cX8_init 709 = .ok (.dup, 1) ∧ 709 + 1 = 710 := ⟨by decide +kernel, rfl⟩
theorem dX8_init_710 : decode cX8_init 710 = .ok (.bipush 59, 2) ∧ 710 + 2 = 712 := ⟨by decide +kernel, rfl⟩
theorem dX8_init_712 : decode cX8_init 712 = .ok (.bipush 100, 2) ∧ 712 + 2 = 714 := ⟨by decide +kernel, rfl⟩
theorem dX8_init_714 : decode cX8_init 714 = .ok (.iastore, 1) ∧ 714 + 1 = 715 := ⟨by decide +kernel, rfl⟩
theorem dX8_init_715 : decode cX8_init 715 = .ok (.dup, 1) ∧ 715 + 1 = 716 := ⟨by decide +kernel, rfl⟩
theorem dX8_init_716 : decode cX8_init 716 = .ok (.bipush 60, 2) ∧ 716 + 2 = 718 := ⟨by decide +kernel, rfl⟩
theorem dX8_init_718 : decode cX8_init 718 = .ok (.bipush 101, 2) ∧ 718 + 2 = 720 := ⟨by decide +kernel, rfl⟩
theorem dX8_init_720 : decode cX8_init 720 = .ok (.iastore, 1) ∧ 720 + 1 = 721 := ⟨by decide +kernel, rfl⟩
theorem dX8_init_721 : decode cX8_init 721 = .ok (.dup, 1) ∧ 721 + 1 = 722 := ⟨by decide +kernel, rfl⟩
theorem dX8_init_722 : decode cX8_init 722 = .ok (.bipush 61, 2) ∧ 722 + 2 = 724 := ⟨by decide +kernel, rfl⟩
theorem dX8_init_724 : decode cX8_init 724 = .ok (.bipush 32, 2) ∧ 724 + 2 = 726 := ⟨by decide +kernel, rfl⟩
theorem dX8_init_726 : decode cX8_init 726 = .ok (.iastore, 1) ∧ 726 + 1 = 727 := ⟨by decide +kernel, rfl⟩
theorem dX8_init_727 : decode cX8_init 727 = .ok (.dup, 1) ∧ 727 + 1 = 728 := ⟨by decide +kernel, rfl⟩
theorem dX8_init_728 : decode cX8_init 728 = .ok (.bipush 62, 2) ∧ 728 + 2 = 730 := ⟨by decide +kernel, rfl⟩
theorem dX8_init_730 : decode cX8_init 730 = .ok (.bipush 32, 2) ∧ 730 + 2 = 732 := ⟨by decide +kernel, rfl⟩
theorem dX8_init_732 : decode cX8_init 732 = .ok (.iastore, 1) ∧ 732 + 1 = 733 := ⟨by decide +kernel, rfl⟩
theorem dX8_init_733 : decode cX8_init 733 = .ok (.dup, 1) ∧ 733 + 1 = 734 := ⟨by decide +kernel, rfl⟩
theorem dX8_init_734 : decode cX8_init 734 = .ok (.bipush 63, 2) ∧ 734 + 2 = 736 := ⟨by decide +kernel, rfl⟩
theorem dX8_init_736 : decode cX8_init 736 = .ok (.bipush 32, 2) ∧ 736 + 2 = 738 := ⟨by decide +kernel, rfl⟩
theorem dX8_init_738 : decode cX8_init 738 = .ok (.iastore, 1) ∧ 738 + 1 = 739 := ⟨by decide +kernel, rfl⟩
theorem dX8_init_739 : decode cX8_init 739 = .ok (.dup, 1) ∧ 739 + 1 = 740 := ⟨by decide +kernel, rfl⟩
theorem dX8_init_740 : decode cX8_init 740 = .ok (.bipush 64, 2) ∧ 740 + 2 = 742 := ⟨by decide +kernel, rfl⟩
theorem dX8_init_742 : decode cX8_init 742 = .ok (.bipush 109, 2) ∧ 742 + 2 = 744 := ⟨by decide +kernel, rfl⟩
theorem dX8_init_744 : decode cX8_init 744 = .ok (.iastore, 1) ∧ 744 + 1 = 745 := ⟨by decide +kernel, rfl⟩
theorem dX8_init_745 : decode cX8_init 745 = .ok (.dup, 1) ∧ 745 + 1 = 746 := ⟨by decide +kernel, rfl⟩
theorem dX8_init_746 : decode cX8_init 746 = .ok (.bipush 65, 2) ∧ 746 + 2 = 748 := ⟨by decide +kernel, rfl⟩
theorem dX8_init_748 : decode cX8_init 748 = .ok (.bipush 111, 2) ∧ 748 + 2 = 750 := ⟨by decide +kernel, rfl⟩
theorem dX8_init_750 : decode cX8_init 750 = .ok (.iastore, 1) ∧ 750 + 1 = 751 := ⟨by decide +kernel, rfl⟩
theorem dX8_init_751 : decode cX8_init 751 = .ok (.dup, 1) ∧ 751 + 1 = 752 := ⟨by decide +kernel, rfl⟩
theorem dX8_init_752 : decode cX8_init 752 = .ok (.bipush 66, 2) ∧ 752 + 2 = 754 := ⟨by decide +kernel, rfl⟩
theorem dX8_init_754 : decode cX8_init 754 = .ok (.bipush 114, 2) ∧ 754 + 2 = 756 := ⟨by decide +kernel, rfl⟩
theorem dX8_init_756 : decode cX8_init 756 = .ok (.iastore, 1) ∧ 756 + 1 = 757 := ⟨by decide +kernel, rfl⟩
theorem dX8_init_757 : decode cX8_init 757 = .ok (.dup, 1) ∧ 757 + 1 = 758 := ⟨by decide +kernel, rfl⟩
theorem dX8_init_758 : decode cX8_init 758 = .ok (.bipush 67, 2) ∧ 758 + 2 = 760 := ⟨by decide +kernel, rfl⟩
theorem dX8_init_760 : decode cX8_init 760 = .ok (.bipush 101, 2) ∧ 760 + 2 = 762 := ⟨by decide +kernel, rfl⟩
theorem dX8_init_762 : decode cX8_init 762 = .ok (.iastore, 1) ∧ 762 + 1 = 763 := ⟨by decide +kernel, rfl⟩
theorem dX8_init_763 : decode cX8_init 763 = .ok (.dup, 1) ∧ 763 + 1 = 764 := ⟨by decide +kernel, rfl⟩
theorem dX8_init_764 : decode cX8_init 764 = .ok (.bipush 68, 2) ∧ 764 + 2 = 766 := ⟨by decide +kernel, rfl⟩
theorem dX8_init_766 : decode cX8_init 766 = .ok (.bipush 32, 2) ∧ 766 + 2 = 768 := ⟨by decide +kernel, rfl⟩
theorem dX8_init_768 : decode cX8_init 768 = .ok (.iastore, 1) ∧ 768 + 1 = 769 := ⟨by decide +kernel, rfl⟩
theorem dX8_init_769 : decode cX8_init 769 = .ok (.dup, 1) ∧ 769 + 1 = 770 := ⟨by decide +kernel, rfl⟩
theorem dX8_init_770 : decode cX8_init 770 = .ok (.bipush 69, 2) ∧ 770 + 2 = 772 := ⟨by decide +kernel, rfl⟩
theorem dX8_init_772 : decode cX8_init 772 = .ok (.bipush 32, 2) ∧ 772 + 2 = 774 := ⟨by decide +kernel, rfl⟩
theorem dX8_init_774 : decode cX8_init 774 = .ok (.iastore, 1) ∧ 774 + 1 = 775 := ⟨by decide +kernel, rfl⟩
theorem dX8_init_775 : decode cX8_init 775 = .ok (.dup, 1) ∧ 775 + 1 = 776 := ⟨by decide +kernel, rfl⟩
theorem dX8_init_776 : decode cX8_init 776 = .ok (.bipush 70, 2) ∧ 776 + 2 = 778 := ⟨by decide +kernel, rfl⟩
theorem dX8_init_778 : decode cX8_init 778 = .ok (.bipush 32, 2) ∧ 778 + 2 = 780 := ⟨by decide +kernel, rfl⟩
theorem dX8_init_780 : decode cX8_init 780 = .ok (.iastore, 1) ∧ 780 + 1 = 781 := ⟨by decide +kernel, rfl⟩
theorem dX8_init_781 : decode cX8_init 781 = .ok (.dup, 1) ∧ 781 + 1 = 782 := ⟨by decide +kernel, rfl⟩
theorem dX8_init_782 : decode cX8_init 782 = .ok (.bipush 71, 2) ∧ 782 + 2 = 784 := ⟨by decide +kernel, rfl⟩
theorem dX8_init_784 : decode cX8_init 784 = .ok (.bipush 32, 2) ∧ 784 + 2 = 786 := ⟨by decide +kernel, rfl⟩
theorem dX8_init_786 : decode cX8_init 786 = .ok (.iastore, 1) ∧ 786 + 1 = 787 := ⟨by decide +kernel, rfl⟩
theorem dX8_init_787 : decode cX8_init 787 = .ok (.dup, 1) ∧ 787 + 1 = 788 := ⟨by decide +kernel, rfl⟩
theorem dX8_init_788 : decode cX8_init 788 = .ok (.bipush 72, 2) ∧ 788 + 2 = 790 := ⟨by decide +kernel, rfl⟩
theorem dX8_init_790 : decode cX8_init 790 = .ok (.bipush 111, 2) ∧ 790 + 2 = 792 := ⟨by decide +kernel, rfl⟩
theorem dX8_init_792 : decode cX8_init 792 = .ok (.iastore, 1) ∧ 792 + 1 = 793 := ⟨by decide +kernel, rfl⟩
theorem dX8_init_793 : decode cX8_init 793 = .ok (.dup, 1) ∧ 793 + 1 = 794 := ⟨by decide +kernel, rfl⟩
theorem dX8_init_794 : decode cX8_init 794 = .ok (.bipush 73, 2) ∧ 794 + 2 = 796 := ⟨by decide +kernel, rfl⟩
theorem dX8_init_796 : decode cX8_init 796 = .ok (.bipush 114, 2) ∧ 796 + 2 = 798 := ⟨by decide +kernel, rfl⟩
theorem dX8_init_798 : decode cX8_init 798 = .ok (.iastore, 1) ∧ 798 + 1 = 799 := ⟨by decide +kernel, rfl⟩
theorem dX8_init_799 : decode cX8_init 799 = .ok (.dup, 1) ∧ 799 + 1 = 800 := ⟨by decide +kernel, rfl⟩
theorem dX8_init_800 : decode cX8_init 800 = .ok (.bipush 74, 2) ∧ 800 + 2 = 802 := ⟨by decide +kernel, rfl⟩
theorem dX8_init_802 : decode cX8_init 802 = .ok (.bipush 32, 2) ∧ 802 + 2 = 804 := ⟨by decide +kernel, rfl⟩
theorem dX8_init_804 : decode cX8_init 804 = .ok (.iastore, 1) ∧ 804 + 1 = 805 := ⟨by decide +kernel, rfl⟩
theorem dX8_init_805 : decode cX8_init 805 = .ok (.dup, 1) ∧ 805 + 1 = 806 := ⟨by decide +kernel, rfl⟩
theorem dX8_init_806 : decode cX8_init 806 = .ok (.bipush 75, 2) ∧ 806 + 2 = 808 := ⟨by decide +kernel, rfl⟩
theorem dX8_init_808 : decode cX8_init 808 = .ok (.bipush 32, 2) ∧ 808 + 2 = 810 := ⟨by decide +kernel, rfl⟩
theorem dX8_init_810 : decode cX8_init 810 = .ok (.iastore, 1) ∧ 810 + 1 = 811 := ⟨by decide +kernel, rfl⟩
theorem dX8_init_811 : decode cX8_init 811 = .ok (.dup, 1) ∧ 811 + 1 = 812 := ⟨by decide +kernel, rfl⟩
theorem dX8_init_812 : decode cX8_init 812 = .ok (.bipush 76, 2) ∧ 812 + 2 = 814 := ⟨by decide +kernel, rfl⟩
theorem dX8_init_814 : decode cX8_init 814 = .ok (.bipush 32, 2) ∧ 814 + 2 = 816 := ⟨by decide +kernel, rfl⟩
theorem dX8_init_816 : decode cX8_init 816 = .ok (.iastore, 1) ∧ 816 + 1 = 817 := ⟨by decide +kernel, rfl⟩
theorem dX8_init_817 : decode cX8_init 817 = .ok (.dup, 1) ∧ 817 + 1 = 818 := ⟨by decide +kernel, rfl⟩
theorem dX8_init_818 : decode cX8_init 818 = .ok (.bipush 77, 2) ∧ 818 + 2 = 820 := ⟨by decide +kernel, rfl⟩
theorem dX8_init_820 : decode cX8_init 820 = .ok (.bipush 32, 2) ∧ 820 + 2 = 822 := ⟨by decide +kernel, rfl⟩
theorem dX8_init_822 : decode cX8_init 822 = .ok (.iastore, 1) ∧ 822 + 1 = 823 := ⟨by decide +kernel, rfl⟩
theorem dX8_init_823 : decode cX8_init 823 = .ok (.dup, 1) ∧ 823 + 1 = 824 := ⟨by decide +kernel, rfl⟩
theorem dX8_init_824 : decode cX8_init 824 = .ok (.bipush 78, 2) ∧ 824 + 2 = 826 := ⟨by decide +kernel, rfl⟩
theorem dX8_init_826 : decode cX8_init 826 = .ok (.bipush 32, 2) ∧ 826 + 2 = 828 := ⟨by decide +kernel, rfl⟩
theorem dX8_init_828 : decode cX8_init 828 = .ok (.iastore, 1) ∧ 828 + 1 = 829 := ⟨by decide +kernel, rfl⟩
theorem dX8_init_829 : decode cX8_init 829 = .ok (.dup, 1) ∧ 829 + 1 = 830 := ⟨by decide +kernel, rfl⟩
theorem dX8_init_830 : decode cX8_init 830 = .ok (.bipush 79, 2) ∧ 830 + 2 = 832 := ⟨by decide +kernel, rfl⟩
theorem dX8_init_832 : decode cX8_init 832 = .ok (.bipush 32, 2) ∧ 832 + 2 = 834 := ⟨by decide +kernel, rfl⟩
theorem dX8_init_834 : decode cX8_init 834 = .ok (.iastore, 1) ∧ 834 + 1 = 835 := ⟨by decide +kernel, rfl⟩
theorem dX8_init_835 : decode cX8_init 835 = .ok (.dup, 1) ∧ 835 + 1 = 836 := ⟨by decide +kernel, rfl⟩
theorem dX8_init_836 : decode cX8_init 836 = .ok (.bipush 80, 2) ∧ 836 + 2 = 838 := ⟨by decide +kernel, rfl⟩
theorem dX8_init_838 : decode cX8_init 838 = .ok (.bipush 97, 2) ∧ 838 + 2 = 840 := ⟨by decide +kernel, rfl⟩
theorem dX8_init_840 : decode cX8_init 840 = .ok (.iastore, 1) ∧ 840 + 1 = 841 := ⟨by decide +kernel, rfl⟩
theorem dX8_init_841 : decode cX8_init 841 = .ok (.dup, 1) ∧ 841 + 1 = 842 := ⟨by decide +kernel, rfl⟩
theorem dX8_init_842 : decode cX8_init 842 = .ok (.bipush 81, 2) ∧ 842 + 2 = 844 := ⟨by decide +kernel, rfl⟩
theorem dX8_init_844 : decode cX8_init 844 = .ok (.bipush 110, 2) ∧ 844 + 2 = 846 := ⟨by decide +kernel, rfl⟩
theorem dX8_init_846 : decode cX8_init 846 = .ok (.iastore, 1) ∧ 846 + 1 = 847 := ⟨by decide +kernel, rfl⟩
theorem dX8_init_847 : decode cX8_init 847 = .ok (.dup, 1) ∧ 847 + 1 = 848 := ⟨by decide +kernel, rfl⟩
theorem dX8_init_848 : decode cX8_init 848 = .ok (.bipush 82, 2) ∧ 848 + 2 = 850 := ⟨by decide +kernel, rfl⟩
theorem dX8_init_850 : decode cX8_init 850 = .ok (.bipush 100, 2) ∧ 850 + 2 = 852 := ⟨by decide +kernel, rfl⟩
theorem dX8_init_852 : decode cX8_init 852 = .ok (.iastore, 1) ∧ 852 + 1 = 853 := ⟨by decide +kernel, rfl⟩
theorem dX8_init_853 : decode cX8_init 853 = .ok (.dup, 1) ∧ 853 + 1 = 854 := ⟨by decide +kernel, rfl⟩
theorem dX8_init_854 : decode cX8_init 854 = .ok (.bipush 83, 2) ∧ 854 + 2 = 856 := ⟨by decide +kernel, rfl⟩
theorem dX8_init_856 : decode cX8_init 856 = .ok (.bipush 32, 2) ∧ 856 + 2 = 858 := ⟨by decide +kernel, rfl⟩
theorem dX8_init_858 : decode cX8_init 858 = .ok (.iastore, 1) ∧ 858 + 1 = 859 := ⟨by decide +kernel, rfl⟩
theorem dX8_init_859 : decode cX8_init 859 = .ok (.dup, 1) ∧ 859 + 1 = 860 := ⟨by decide +kernel, rfl⟩
theorem dX8_init_860 : decode cX8_init 860 = .ok (.bipush 84, 2) ∧ 860 + 2 = 862 := ⟨by decide +kernel, rfl⟩
theorem dX8_init_862 : decode cX8_init 862 = .ok (.bipush 32, 2) ∧ 862 + 2 = 864 := ⟨by decide +kernel, rfl⟩
theorem dX8_init_864 : decode cX8_init 864 = .ok (.iastore, 1) ∧ 864 + 1 = 865 := ⟨by decide +kernel, rfl⟩
theorem dX8_init_865 : decode cX8_init 865 = .ok (.dup, 1) ∧ 865 + 1 = 866 := ⟨by decide +kernel, rfl⟩
theorem dX8_init_866 : decode cX8_init 866 = .ok (.bipush 85, 2) ∧ 866 + 2 = 868 := ⟨by decide +kernel, rfl⟩
theorem dX8_init_868 : decode cX8_init 868 = .ok (.bipush 32, 2) ∧ 868 + 2 = 870 := ⟨by decide +kernel, rfl⟩
theorem dX8_init_870 : decode cX8_init 870 = .ok (.iastore, 1) ∧ 870 + 1 = 871 := ⟨by decide +kernel, rfl⟩
theorem dX8_init_871 : decode cX8_init 871 = .ok (.dup, 1) ∧ 871 + 1 = 872 := ⟨by decide +kernel, rfl⟩
theorem dX8_init_872 : decode cX8_init 872 = .ok (.bipush 86, 2) ∧ 872 + 2 = 874 := ⟨by decide +kernel, rfl⟩
theorem dX8_init_874 : decode cX8_init 874 = .ok (.bipush 32, 2) ∧ 874 + 2 = 876 := ⟨by decide +kernel, rfl⟩
theorem dX8_init_876 : decode cX8_init 876 = .ok (.iastore, 1) ∧ 876 + 1 = 877 := ⟨by decide +kernel, rfl⟩
theorem dX8_init_877 : decode cX8_init 877 = .ok (.dup, 1) ∧ 877 + 1 = 878 := ⟨by decide +kernel, rfl⟩
theorem dX8_init_878 : decode cX8_init 878 = .ok (.bipush 87, 2) ∧ 878 + 2 = 880 := ⟨by decide +kernel, rfl⟩
theorem dX8_init_880 : decode cX8_init 880 = .ok (.bipush 32, 2) ∧ 880 + 2 = 882 := ⟨by decide +kernel, rfl⟩
theorem dX8_init_882 : decode cX8_init 882 = .ok (.iastore, 1) ∧ 882 + 1 = 883 := ⟨by decide +kernel, rfl⟩
theorem dX8_init_883 : decode cX8_init 883 = .ok (.dup, 1) ∧ 883 + 1 = 884 := ⟨by decide +kernel, rfl⟩
theorem dX8_init_884 : decode cX8_init 884 = .ok (.bipush 88, 2) ∧ 884 + 2 = 886 := ⟨by decide +kernel, rfl⟩
theorem dX8_init_886 : decode cX8_init 886 = .ok (.bipush 110, 2) ∧ 886 + 2 = 888 := ⟨by decide +kernel, rfl⟩
theorem dX8_init_888 : decode cX8_init 888 = .ok (.iastore, 1) ∧ 888 + 1 = 889 := ⟨by decide +kernel, rfl⟩
theorem dX8_init_889 : decode cX8_init 889 = .ok (.dup, 1) ∧ 889 + 1 = 890 := ⟨by decide +kernel, rfl⟩
theorem dX8_init_890 : decode cX8_init 890 = .ok (.bipush 89, 2) ∧ 890 + 2 = 892 := ⟨by decide +kernel, rfl⟩
theorem dX8_init_892 : decode cX8_init 892 = .ok (.bipush 111, 2) ∧ 892 + 2 = 894 := ⟨by decide +kernel, rfl⟩
theorem dX8_init_894 : decode cX8_init 894 = .ok (.iastore, 1) ∧ 894 + 1 = 895 := ⟨by decide +kernel, rfl⟩
theorem dX8_init_895 : decode cX8_init 895 = .ok (.dup, 1) ∧ 895 + 1 = 896 := ⟨by decide +kernel, rfl⟩
theorem dX8_init_896 : decode cX8_init 896 = .ok (.bipush 90, 2) ∧ 896 + 2 = 898 := ⟨by decide +kernel, rfl⟩
theorem dX8_init_898 : decode cX8_init 898 = .ok (.bipush 116, 2) ∧ 898 + 2 = 900 := ⟨by decide +kernel, rfl⟩
theorem dX8_init_900 : decode cX8_init 900 = .ok (.iastore, 1) ∧ 900 + 1 = 901 := ⟨by decide +kernel, rfl⟩
theorem dX8_init_901 : decode cX8_init 901 = .ok (.dup, 1) ∧ 901 + 1 = 902 := ⟨by decide +kernel, rfl⟩
theorem dX8_init_902 : decode cX8_init 902 = .ok (.bipush 91, 2) ∧ 902 + 2 = 904 := ⟨by decide +kernel, rfl⟩
theorem dX8_init_904 : decode cX8_init 904 = .ok (.bipush 32, 2) ∧ 904 + 2 = 906 := ⟨by decide +kernel, rfl⟩
theorem dX8_init_906 : decode cX8_init 906 = .ok (.iastore, 1) ∧ 906 + 1 = 907 := ⟨by decide +kernel, rfl⟩
theorem dX8_init_907 : decode cX8_init 907 = .ok (.dup, 1) ∧ 907 + 1 = 908 := ⟨by decide +kernel, rfl⟩
theorem dX8_init_908 : decode cX8_init 908 = .ok (.bipush 92, 2) ∧ 908 + 2 = 910 := ⟨by decide +kernel, rfl⟩
theorem dX8_init_910 : decode cX8_init 910 = .ok (.bipush 32, 2) ∧ 910 + 2 = 912 := ⟨by decide +kernel, rfl⟩
theorem dX8_init_912 : decode cX8_init 912 = .ok (.iastore, 1) ∧ 912 + 1 = 913 := ⟨by decide +kernel, rfl⟩
theorem dX8_init_913 : decode cX8_init 913 = .ok (.dup, 1) ∧ 913 + 1 = 914 := ⟨by decide +kernel, rfl⟩
theorem dX8_init_914 : decode cX8_init 914 = .ok (.bipush 93, 2) ∧ 914 + 2 = 916 := ⟨by decide +kernel, rfl⟩
theorem dX8_init_916 : decode cX8_init 916 = .ok (.bipush 32, 2) ∧ 916 + 2 = 918 := ⟨by decide +kernel, rfl⟩
theorem dX8_init_918 : decode cX8_init 918 = .ok (.iastore, 1) ∧ 918 + 1 = 919 := ⟨by decide +kernel, rfl⟩
theorem dX8_init_919 : decode cX8_init 919 = .ok (.dup, 1) ∧ 919 + 1 = 920 := ⟨by decide +kernel, rfl⟩
theorem dX8_init_920 : decode cX8_init 920 = .ok (.bipush 94, 2) ∧ 920 + 2 = 922 := ⟨by decide +kernel, rfl⟩
theorem dX8_init_922 : decode cX8_init 922 = .ok (.bipush 32, 2) ∧ 922 + 2 = 924 := ⟨by decide +kernel, rfl⟩
theorem dX8_init_924 : decode cX8_init 924 = .ok (.iastore, 1) ∧ 924 + 1 = 925 := ⟨by decide +kernel, rfl⟩
theorem dX8_init_925 : decode cX8_init 925 = .ok (.dup, 1) ∧ 925 + 1 = 926 := ⟨by decide +kernel, rfl⟩
theorem dX8_init_926 : decode cX8_init 926 = .ok (.bipush 95, 2) ∧ 926 + 2 = 928 := ⟨by decide +kernel, rfl⟩
theorem dX8_init_928 : decode cX8_init 928 = .ok (.bipush 32, 2) ∧ 928 + 2 = 930 := ⟨by decide +kernel, rfl⟩
theorem dX8_init_930 : decode cX8_init 930 = .ok (.iastore, 1) ∧ 930 + 1 = 931 := ⟨by decide +kernel, rfl⟩
theorem dX8_init_931 : decode cX8_init 931 = .ok (.putfield 55, 3) ∧ 931 + 3 = 934 := ⟨by decide +kernel, rfl⟩
theorem dX8_init_934 : decode cX8_init 934 = .ok (.aload_n 0, 1) ∧ 934 + 1 = 935 := ⟨by decide +kernel, rfl⟩
theorem dX8_init_935 : decode cX8_init 935 = .ok (.sipush 200, 3) ∧ 935 + 3 = 938 := ⟨by decide +kernel, rfl⟩
theorem dX8_init_938 : decode cX8_init 938 = .ok (.newarray .int, 2) ∧ 938 + 2 = 940 := ⟨by decide +kernel, rfl⟩
theorem dX8_init_940 : decode cX8_init 940 = .ok (.putfield 58, 3) ∧ 940 + 3 = 943 := ⟨by decide +kernel, rfl⟩
theorem dX8_init_943 : decode cX8_init 943 = .ok (.aload_n 0, 1) ∧ 943 + 1 = 944 := ⟨by decide +kernel, rfl⟩
theorem dX8_init_944 : decode cX8_init 944 = .ok (.sipush 200, 3) ∧ 944 + 3 = 947 := ⟨by decide +kernel, rfl⟩
theorem dX8_init_947 : decode cX8_init 947 = .ok (.newarray .int, 2) ∧ 947 + 2 = 949 := ⟨by decide +kernel, rfl⟩
theorem dX8_init_949 : decode cX8_init 949 = .ok (.putfield 61, 3) ∧ 949 + 3 = 952 := ⟨by decide +kernel, rfl⟩
theorem dX8_init_952 : decode cX8_init 952 = .ok (.aload_n 0, 1) ∧ 952 + 1 = 953 := ⟨by decide +kernel, rfl⟩
theorem dX8_init_953 : decode cX8_init 953 = .ok (.bipush 6, 2) ∧ 953 + 2 = 955 := ⟨by decide +kernel, rfl⟩
theorem dX8_init_955 : decode cX8_init 955 = .ok (.newarray .int, 2) ∧ 955 + 2 = 957 := ⟨by decide +kernel, rfl⟩
theorem dX8_init_957 : decode cX8_init 957 = .ok (.putfield 64, 3) ∧ 957 + 3 = 960 := ⟨by decide +kernel, rfl⟩
theorem dX8_init_960 : decode cX8_init 960 = .ok (.aload_n 0, 1) ∧ 960 + 1 = 961 := ⟨by decide +kernel, rfl⟩
theorem dX8_init_961 : decode cX8_init 961 = .ok (.bipush 6, 2) ∧ 961 + 2 = 963 := ⟨by decide +kernel, rfl⟩
theorem dX8_init_963 : decode cX8_init 963 = .ok (.newarray .int, 2) ∧ 963 + 2 = 965 := ⟨by decide +kernel, rfl⟩
theorem dX8_init_965 : decode cX8_init 965 = .ok (.putfield 67, 3) ∧ 965 + 3 = 968 := ⟨by decide +kernel, rfl⟩
theorem dX8_init_968 : decode cX8_init 968 = .ok (.aload_n 0, 1) ∧ 968 + 1 = 969 := ⟨by decide +kernel, rfl⟩
theorem dX8_init_969 : decode cX8_init 969 = .ok (.bipush 10, 2) ∧ 969 + 2 = 971 := ⟨by decide +kernel, rfl⟩
theorem dX8_init_971 : decode cX8_init 971 = .ok (.newarray .int, 2) ∧ 971 + 2 = 973 := ⟨by decide +kernel, rfl⟩
theorem dX8_init_973 : decode cX8_init 973 = .ok (.putfield 70, 3) ∧ 973 + 3 = 976 := ⟨by decide +kernel, rfl⟩
theorem dX8_init_976 : decode cX8_init 976 = .ok (.aload_n 0, 1) ∧ 976 + 1 = 977 := ⟨by decide +kernel, rfl⟩
theorem dX8_init_977 : decode cX8_init 977 = .ok (.bipush 31, 2) ∧ 977 + 2 = 979 := ⟨by decide +kernel, rfl⟩
theorem dX8_init_979 : decode cX8_init 979 = .ok (.newarray .int, 2) ∧ 979 + 2 = 981 := ⟨by decide +kernel, rfl⟩
theorem dX8_init_981 : decode cX8_init 981 = .ok (.putfield 73, 3) ∧ 981 + 3 = 984 := ⟨by decide +kernel, rfl⟩
theorem dX8_init_984 : decode cX8_init 984 = .ok (.iconst 0, 1) ∧ 984 + 1 = 985 := ⟨by decide +kernel, rfl⟩
theorem dX8_init_985 : decode cX8_init 985 = .ok (.istore_n 1, 1) ∧ 985 + 1 = 986 := ⟨by decide +kernel, rfl⟩
theorem dX8_init_986 : decode cX8_init 986 = .ok (.iload_n 1, 1) ∧ 986 + 1 = 987 := ⟨by decide +kernel, rfl⟩
theorem dX8_init_987 : decode cX8_init 987 = .ok (.bipush 37, 2) ∧ 987 + 2 = 989 := ⟨by decide +kernel, rfl⟩
theorem dX8_init_989 : decode cX8_init 989 = .ok (.if_icmp .ge 21, 3) ∧ 989 + 3 = 992 ∧ ((989 : Nat) : Int) + (21) = ((1010 : Nat) : Int) := ⟨by decide +kernel, rfl, by decide⟩
theorem dX8_init_992 : decode cX8_init 992 = .ok (.aload_n 0, 1) ∧ 992 + 1 = 993 := ⟨by decide +kernel, rfl⟩
theorem dX8_init_993 : decode cX8_init 993 = .ok (.getfield 28, 3) ∧ 993 + 3 = 996 := ⟨by decide +kernel, rfl⟩
theorem dX8_init_996 : decode cX8_init 996 = .ok (.iload_n 1, 1) ∧ 996 + 1 = 997 := ⟨by decide +kernel, rfl⟩
theorem dX8_init_997 : decode cX8_init 997 = .ok (.aload_n 0, 1) ∧ 997 + 1 = 998 := ⟨by decide +kernel, rfl⟩
theorem dX8_init_998 : decode cX8_init 998 = .ok (.getfield 52, 3) ∧ 998 + 3 = 1001 := ⟨by decide +kernel, rfl⟩
theorem dX8_init_1001 : decode cX8_init 1001 = .ok (.iload_n 1, 1) ∧ 1001 + 1 = 1002 := ⟨by decide +kernel, rfl⟩
theorem dX8_init_1002 : decode cX8_init 1002 = .ok (.iaload, 1) ∧ 1002 + 1 = 1003 := ⟨by decide +kernel, rfl⟩
theorem dX8_init_1003 : decode cX8_init 1003 = .ok (.iastore, 1) ∧ 1003 + 1 = 1004 := ⟨by decide +kernel, rfl⟩
theorem dX8_init_1004 : decode cX8_init 1004 = .ok (.iinc 1 1, 3) ∧ 1004 + 3 = 1007 := ⟨by decide +kernel, rfl⟩
theorem dX8_init_1007 : decode cX8_init 1007 = .ok (.goto (-21), 3) ∧ ((1007 : Nat) : Int) + (-21) = ((986 : Nat) : Int) := ⟨by decide +kernel, by decide⟩
theorem dX8_init_1010 : decode cX8_init 1010 = .ok (.aload_n 0, 1) ∧ 1010 + 1 = 1011 := ⟨by decide +kernel, rfl⟩
theorem dX8_init_1011 : decode cX8_init 1011 = .ok (.bipush 37, 2) ∧ 1011 + 2 = 1013 := ⟨by decide +kernel, rfl⟩
theorem dX8_init_1013 : decode cX8_init 1013 = .ok (.putfield 76, 3) ∧ 1013 + 3 = 1016 := ⟨by decide +kernel, rfl⟩
theorem dX8_init_1016 : decode cX8_init 1016 = .ok (.aload_n 0, 1) ∧ 1016 + 1 = 1017 := ⟨by decide +kernel, rfl⟩
theorem dX8_init_1017 : decode cX8_init 1017 = .ok (.invokevirtual 80, 3) := by decide +kernel
theorem dX8_init_1020 : decode cX8_init 1020 = .ok (.pop, 1) ∧ 1020 + 1 = 1021 := ⟨by decide +kernel, rfl⟩
theorem dX8_init_1021 : decode cX8_init 1021 = .ok (.return_, 1) := by decide +kernel
def L_X8_init_986 (k986 : Hp → Int32 → Option (Hp)) (fu : Nat) (n0 : Nat) (o : Nat) (S : Hp) (x1 : Int32) : Option (Hp) :=
  if (37 : Int32) ≤ x1 then
    (pI S (some o) 6 10 (37 : Int32)).bind fun S1013 =>
    (ob S1013 6 (some o)).bind fun _ =>
    b2 (F_X8_text fu S1013 o) fun v1017 S1017 =>
    some S1017
  else
    (gR S (some o) 6 9).bind fun v993 =>
    (gR S (some o) 6 21).bind fun v998 =>
    (aG S v998 x1).bind fun v1002 =>
    (aP S v993 x1 v1002).bind fun S1003 =>
    k986 S1003 (x1 + (1 : Int32))
set_option maxRecDepth 100000 in
set_option maxHeartbeats 4000000 in
theorem wl_X8_init_986  {E : Cx} {l : Launch} {res : Hp} {ad : Nat → Nat} {ad0 : Nat → Nat} {k986 : Hp → Int32 → Option (Hp)} {fu : Nat} {n0 : Nat} {o : Nat} {S : Hp} {x1 : Int32} (K : Kx E cX8_init RX8 (rmd 5 22 2238)) (X : Bx E l yX8_init 2 none 22 2238 ad0 (QVa n0 res)) (hk986 : ∀ (S : Hp) (x1 : Int32) (ad : Nat → Nat), (∀ k, k < n0 → ad k = ad0 k) → k986 S x1 = some res → J E 22 2238 986 [(0, vR (some o)), (1, vI x1)] [] S ad) (he : ∀ k, k < n0 → ad k = ad0 k) (h : L_X8_init_986 k986 fu n0 o S x1 = some res) : J E 22 2238 986 [(0, vR (some o)), (1, vI x1)] [] S ad := by
  refine j_iload_n K dX8_init_986 rfl 1 rfl ?_
  refine j_bipush (v := (37 : Int32)) K dX8_init_987 (by decide) ?_
  refine j_icmp_ge K dX8_init_989 (fun c989 => ?_) (fun c989 => ?_)
  · replace h := it c989 h
    refine j_aload_n K dX8_init_1010 rfl 0 rfl ?_
    refine j_bipush (v := (37 : Int32)) K dX8_init_1011 (by decide) ?_
    obtain ⟨S1013, e1013, h⟩ := bd h
    refine fpX8_76 K dX8_init_1013 e1013 ?_
    refine j_aload_n K dX8_init_1016 rfl 0 rfl ?_
    obtain ⟨w1017, ew1017, h⟩ := bd h
    have ho1017 := obS ew1017
    obtain ⟨v1017, S1017, e1017, h⟩ := bd2 h
    refine j_cI (st := []) K (r_V (vs := []) (n := 0) (o := o) K (c_X8_text e1017) ho1017 (by decide) rfl dX8_init_1017 z804 z805 z806 z13 z807 ⟨zd_X8_text, rfl, rfl, rfl, ⟨Nat.le_of_ble_eq_true rfl, Nat.le_of_ble_eq_true rfl⟩, Nat.le_of_ble_eq_true rfl, Nat.le_of_ble_eq_true rfl, Nat.le_of_ble_eq_true rfl⟩) rfl ?_
    refine j_pop K dX8_init_1020 rfl ?_
    exact j_vretA K X he dX8_init_1021 (Nat.le_of_ble_eq_true rfl) (Nat.le_of_ble_eq_true rfl) h
  · replace h := ie c989 h
    refine j_aload_n K dX8_init_992 rfl 0 rfl ?_
    obtain ⟨v993, e993, h⟩ := bd h
    refine fgX8_28 K dX8_init_993 e993 ?_
    refine j_iload_n K dX8_init_996 rfl 1 rfl ?_
    refine j_aload_n K dX8_init_997 rfl 0 rfl ?_
    obtain ⟨v998, e998, h⟩ := bd h
    refine fgX8_52 K dX8_init_998 e998 ?_
    refine j_iload_n K dX8_init_1001 rfl 1 rfl ?_
    obtain ⟨v1002, e1002, h⟩ := bd h
    refine j_aG K dX8_init_1002 e1002 ?_
    obtain ⟨S1003, e1003, h⟩ := bd h
    refine j_aP K dX8_init_1003 e1003 ?_
    refine j_iinc (q := 1) (v := (x1 + (1 : Int32))) (lv' := [(1, vI (x1 + (1 : Int32))), (0, vR (some o))]) K dX8_init_1004 rfl rfl X.2.2.1 (by decide) rfl ?_
    refine j_goto K dX8_init_1007 ?_
    exact j_sub [1, 0] rfl (hk986 _ _ _ he h)
def B_X8_init_986 (fu : Nat) (n0 : Nat) (o : Nat) : Nat → Hp → Int32 → Option (Hp)
  | 0 => fun _ _ => none
  | n + 1 => L_X8_init_986 (B_X8_init_986 fu n0 o n) fu n0 o
theorem w_X8_init_986 {E : Cx} {l : Launch} {res : Hp} {ad0 : Nat → Nat} {fu : Nat} {n0 : Nat} {o : Nat} (K : Kx E cX8_init RX8 (rmd 5 22 2238)) (X : Bx E l yX8_init 2 none 22 2238 ad0 (QVa n0 res)) : ∀ (n : Nat) (S : Hp) (x1 : Int32) (ad : Nat → Nat), (∀ k, k < n0 → ad k = ad0 k) → B_X8_init_986 fu n0 o n S x1 = some res → J E 22 2238 986 [(0, vR (some o)), (1, vI x1)] [] S ad := by
  intro n
  induction n with
  | zero =>
    intro S x1 ad he h
    cases h
  | succ n ih =>
    intro S x1 ad he h
    exact wl_X8_init_986 K X ih he h
def F_X8_init (fu : Nat) (S : Hp) (o : Nat) : Option (Hp) :=
  (chn S.1 S [(some o), (some o)]).bind fun _ =>
  (nA S 6 (6 : Int32)).bind fun S7 =>
  (pR S7 (some o) 6 1 (some S.1)).bind fun S9 =>
  (chn S.1 S9 [(some o), (some o)]).bind fun _ =>
  (nA S9 6 (6 : Int32)).bind fun S15 =>
  (pR S15 (some o) 6 2 (some S9.1)).bind fun S17 =>
  (chn S.1 S17 [(some o), (some o)]).bind fun _ =>
  (nA S17 12 (12 : Int32)).bind fun S23 =>
  (pR S23 (some o) 6 3 (some S17.1)).bind fun S25 =>
  (chn S.1 S25 [(some o), (some o)]).bind fun _ =>
  (nA S25 10 (10 : Int32)).bind fun S31 =>
  (pR S31 (some o) 6 4 (some S25.1)).bind fun S33 =>
  (chn S.1 S33 [(some o), (some o)]).bind fun _ =>
  (nA S33 10 (10 : Int32)).bind fun S39 =>
  (pR S39 (some o) 6 5 (some S33.1)).bind fun S41 =>
  (chn S.1 S41 [(some o), (some o)]).bind fun _ =>
  (nA S41 10 (10 : Int32)).bind fun S47 =>
  (pR S47 (some o) 6 6 (some S41.1)).bind fun S49 =>
  (chn S.1 S49 [(some o), (some o)]).bind fun _ =>
  (nA S49 160 (160 : Int32)).bind fun S56 =>
  (pR S56 (some o) 6 9 (some S49.1)).bind fun S58 =>
  (chn S.1 S58 [(some o), (some o)]).bind fun _ =>
  (nA S58 1200 (1200 : Int32)).bind fun S65 =>
  (pR S65 (some o) 6 11 (some S58.1)).bind fun S67 =>
  (chn S.1 S67 [(some o), (some o)]).bind fun _ =>
  (nA S67 24 (24 : Int32)).bind fun S73 =>
  (pR S73 (some o) 6 12 (some S67.1)).bind fun S75 =>
  (chn S.1 S75 [(some o), (some o)]).bind fun _ =>
  (nA S75 42 (42 : Int32)).bind fun S81 =>
  (pR S81 (some o) 6 16 (some S75.1)).bind fun S83 =>
  (chn S.1 S83 [(some o), (some o)]).bind fun _ =>
  (nA S83 4 (4 : Int32)).bind fun S88 =>
  (pR S88 (some o) 6 17 (some S83.1)).bind fun S90 =>
  (chn S.1 S90 [(some o), (some o)]).bind fun _ =>
  (nA S90 4 (4 : Int32)).bind fun S95 =>
  (aP S95 (some S90.1) (0 : Int32) (-1 : Int32)).bind fun S100 =>
  (aP S100 (some S90.1) (1 : Int32) (-1 : Int32)).bind fun S104 =>
  (aP S104 (some S90.1) (2 : Int32) (-1 : Int32)).bind fun S108 =>
  (aP S108 (some S90.1) (3 : Int32) (-1 : Int32)).bind fun S112 =>
  (pR S112 (some o) 6 18 (some S90.1)).bind fun S113 =>
  (chn S.1 S113 [(some o), (some o)]).bind fun _ =>
  (nA S113 4 (4 : Int32)).bind fun S118 =>
  (pR S118 (some o) 6 19 (some S113.1)).bind fun S120 =>
  (chn S.1 S120 [(some o), (some o)]).bind fun _ =>
  (nA S120 160 (160 : Int32)).bind fun S127 =>
  (pR S127 (some o) 6 20 (some S120.1)).bind fun S129 =>
  (chn S.1 S129 [(some o), (some o)]).bind fun _ =>
  (nA S129 37 (37 : Int32)).bind fun S135 =>
  (aP S135 (some S129.1) (0 : Int32) (115 : Int32)).bind fun S141 =>
  (aP S141 (some S129.1) (1 : Int32) (116 : Int32)).bind fun S146 =>
  (aP S146 (some S129.1) (2 : Int32) (114 : Int32)).bind fun S151 =>
  (aP S151 (some S129.1) (3 : Int32) (111 : Int32)).bind fun S156 =>
  (aP S156 (some S129.1) (4 : Int32) (107 : Int32)).bind fun S161 =>
  (aP S161 (some S129.1) (5 : Int32) (101 : Int32)).bind fun S166 =>
  (aP S166 (some S129.1) (6 : Int32) (115 : Int32)).bind fun S172 =>
  (aP S172 (some S129.1) (7 : Int32) (32 : Int32)).bind fun S178 =>
  (aP S178 (some S129.1) (8 : Int32) (49 : Int32)).bind fun S184 =>
  (aP S184 (some S129.1) (9 : Int32) (32 : Int32)).bind fun S190 =>
  (aP S190 (some S129.1) (10 : Int32) (59 : Int32)).bind fun S196 =>
  (aP S196 (some S129.1) (11 : Int32) (32 : Int32)).bind fun S202 =>
  (aP S202 (some S129.1) (12 : Int32) (100 : Int32)).bind fun S208 =>
  (aP S208 (some S129.1) (13 : Int32) (111 : Int32)).bind fun S214 =>
  (aP S214 (some S129.1) (14 : Int32) (117 : Int32)).bind fun S220 =>
  (aP S220 (some S129.1) (15 : Int32) (98 : Int32)).bind fun S226 =>
  (aP S226 (some S129.1) (16 : Int32) (116 : Int32)).bind fun S232 =>
  (aP S232 (some S129.1) (17 : Int32) (115 : Int32)).bind fun S238 =>
  (aP S238 (some S129.1) (18 : Int32) (32 : Int32)).bind fun S244 =>
  (aP S244 (some S129.1) (19 : Int32) (49 : Int32)).bind fun S250 =>
  (aP S250 (some S129.1) (20 : Int32) (48 : Int32)).bind fun S256 =>
  (aP S256 (some S129.1) (21 : Int32) (32 : Int32)).bind fun S262 =>
  (aP S262 (some S129.1) (22 : Int32) (59 : Int32)).bind fun S268 =>
  (aP S268 (some S129.1) (23 : Int32) (32 : Int32)).bind fun S274 =>
  (aP S274 (some S129.1) (24 : Int32) (112 : Int32)).bind fun S280 =>
  (aP S280 (some S129.1) (25 : Int32) (97 : Int32)).bind fun S286 =>
  (aP S286 (some S129.1) (26 : Int32) (121 : Int32)).bind fun S292 =>
  (aP S292 (some S129.1) (27 : Int32) (115 : Int32)).bind fun S298 =>
  (aP S298 (some S129.1) (28 : Int32) (32 : Int32)).bind fun S304 =>
  (aP S304 (some S129.1) (29 : Int32) (119 : Int32)).bind fun S310 =>
  (aP S310 (some S129.1) (30 : Int32) (101 : Int32)).bind fun S316 =>
  (aP S316 (some S129.1) (31 : Int32) (105 : Int32)).bind fun S322 =>
  (aP S322 (some S129.1) (32 : Int32) (103 : Int32)).bind fun S328 =>
  (aP S328 (some S129.1) (33 : Int32) (104 : Int32)).bind fun S334 =>
  (aP S334 (some S129.1) (34 : Int32) (116 : Int32)).bind fun S340 =>
  (aP S340 (some S129.1) (35 : Int32) (32 : Int32)).bind fun S346 =>
  (aP S346 (some S129.1) (36 : Int32) (59 : Int32)).bind fun S352 =>
  (pR S352 (some o) 6 21 (some S129.1)).bind fun S353 =>
  (chn S.1 S353 [(some o), (some o)]).bind fun _ =>
  (nA S353 96 (96 : Int32)).bind fun S359 =>
  (aP S359 (some S353.1) (0 : Int32) (115 : Int32)).bind fun S365 =>
  (aP S365 (some S353.1) (1 : Int32) (116 : Int32)).bind fun S370 =>
  (aP S370 (some S353.1) (2 : Int32) (114 : Int32)).bind fun S375 =>
  (aP S375 (some S353.1) (3 : Int32) (111 : Int32)).bind fun S380 =>
  (aP S380 (some S353.1) (4 : Int32) (107 : Int32)).bind fun S385 =>
  (aP S385 (some S353.1) (5 : Int32) (101 : Int32)).bind fun S390 =>
  (aP S390 (some S353.1) (6 : Int32) (115 : Int32)).bind fun S396 =>
  (aP S396 (some S353.1) (7 : Int32) (32 : Int32)).bind fun S402 =>
  (aP S402 (some S353.1) (8 : Int32) (100 : Int32)).bind fun S408 =>
  (aP S408 (some S353.1) (9 : Int32) (111 : Int32)).bind fun S414 =>
  (aP S414 (some S353.1) (10 : Int32) (117 : Int32)).bind fun S420 =>
  (aP S420 (some S353.1) (11 : Int32) (98 : Int32)).bind fun S426 =>
  (aP S426 (some S353.1) (12 : Int32) (116 : Int32)).bind fun S432 =>
  (aP S432 (some S353.1) (13 : Int32) (115 : Int32)).bind fun S438 =>
  (aP S438 (some S353.1) (14 : Int32) (32 : Int32)).bind fun S444 =>
  (aP S444 (some S353.1) (15 : Int32) (32 : Int32)).bind fun S450 =>
  (aP S450 (some S353.1) (16 : Int32) (112 : Int32)).bind fun S456 =>
  (aP S456 (some S353.1) (17 : Int32) (97 : Int32)).bind fun S462 =>
  (aP S462 (some S353.1) (18 : Int32) (121 : Int32)).bind fun S468 =>
  (aP S468 (some S353.1) (19 : Int32) (115 : Int32)).bind fun S474 =>
  (aP S474 (some S353.1) (20 : Int32) (32 : Int32)).bind fun S480 =>
  (aP S480 (some S353.1) (21 : Int32) (32 : Int32)).bind fun S486 =>
  (aP S486 (some S353.1) (22 : Int32) (32 : Int32)).bind fun S492 =>
  (aP S492 (some S353.1) (23 : Int32) (32 : Int32)).bind fun S498 =>
  (aP S498 (some S353.1) (24 : Int32) (119 : Int32)).bind fun S504 =>
  (aP S504 (some S353.1) (25 : Int32) (101 : Int32)).bind fun S510 =>
  (aP S510 (some S353.1) (26 : Int32) (105 : Int32)).bind fun S516 =>
  (aP S516 (some S353.1) (27 : Int32) (103 : Int32)).bind fun S522 =>
  (aP S522 (some S353.1) (28 : Int32) (104 : Int32)).bind fun S528 =>
  (aP S528 (some S353.1) (29 : Int32) (116 : Int32)).bind fun S534 =>
  (aP S534 (some S353.1) (30 : Int32) (32 : Int32)).bind fun S540 =>
  (aP S540 (some S353.1) (31 : Int32) (32 : Int32)).bind fun S546 =>
  (aP S546 (some S353.1) (32 : Int32) (115 : Int32)).bind fun S552 =>
  (aP S552 (some S353.1) (33 : Int32) (104 : Int32)).bind fun S558 =>
  (aP S558 (some S353.1) (34 : Int32) (97 : Int32)).bind fun S564 =>
  (aP S564 (some S353.1) (35 : Int32) (114 : Int32)).bind fun S570 =>
  (aP S570 (some S353.1) (36 : Int32) (101 : Int32)).bind fun S576 =>
  (aP S576 (some S353.1) (37 : Int32) (100 : Int32)).bind fun S582 =>
  (aP S582 (some S353.1) (38 : Int32) (32 : Int32)).bind fun S588 =>
  (aP S588 (some S353.1) (39 : Int32) (32 : Int32)).bind fun S594 =>
  (aP S594 (some S353.1) (40 : Int32) (115 : Int32)).bind fun S600 =>
  (aP S600 (some S353.1) (41 : Int32) (101 : Int32)).bind fun S606 =>
  (aP S606 (some S353.1) (42 : Int32) (101 : Int32)).bind fun S612 =>
  (aP S612 (some S353.1) (43 : Int32) (110 : Int32)).bind fun S618 =>
  (aP S618 (some S353.1) (44 : Int32) (32 : Int32)).bind fun S624 =>
  (aP S624 (some S353.1) (45 : Int32) (32 : Int32)).bind fun S630 =>
  (aP S630 (some S353.1) (46 : Int32) (32 : Int32)).bind fun S636 =>
  (aP S636 (some S353.1) (47 : Int32) (32 : Int32)).bind fun S642 =>
  (aP S642 (some S353.1) (48 : Int32) (100 : Int32)).bind fun S648 =>
  (aP S648 (some S353.1) (49 : Int32) (97 : Int32)).bind fun S654 =>
  (aP S654 (some S353.1) (50 : Int32) (121 : Int32)).bind fun S660 =>
  (aP S660 (some S353.1) (51 : Int32) (32 : Int32)).bind fun S666 =>
  (aP S666 (some S353.1) (52 : Int32) (32 : Int32)).bind fun S672 =>
  (aP S672 (some S353.1) (53 : Int32) (32 : Int32)).bind fun S678 =>
  (aP S678 (some S353.1) (54 : Int32) (32 : Int32)).bind fun S684 =>
  (aP S684 (some S353.1) (55 : Int32) (32 : Int32)).bind fun S690 =>
  (aP S690 (some S353.1) (56 : Int32) (112 : Int32)).bind fun S696 =>
  (aP S696 (some S353.1) (57 : Int32) (114 : Int32)).bind fun S702 =>
  (aP S702 (some S353.1) (58 : Int32) (105 : Int32)).bind fun S708 =>
  (aP S708 (some S353.1) (59 : Int32) (100 : Int32)).bind fun S714 =>
  (aP S714 (some S353.1) (60 : Int32) (101 : Int32)).bind fun S720 =>
  (aP S720 (some S353.1) (61 : Int32) (32 : Int32)).bind fun S726 =>
  (aP S726 (some S353.1) (62 : Int32) (32 : Int32)).bind fun S732 =>
  (aP S732 (some S353.1) (63 : Int32) (32 : Int32)).bind fun S738 =>
  (aP S738 (some S353.1) (64 : Int32) (109 : Int32)).bind fun S744 =>
  (aP S744 (some S353.1) (65 : Int32) (111 : Int32)).bind fun S750 =>
  (aP S750 (some S353.1) (66 : Int32) (114 : Int32)).bind fun S756 =>
  (aP S756 (some S353.1) (67 : Int32) (101 : Int32)).bind fun S762 =>
  (aP S762 (some S353.1) (68 : Int32) (32 : Int32)).bind fun S768 =>
  (aP S768 (some S353.1) (69 : Int32) (32 : Int32)).bind fun S774 =>
  (aP S774 (some S353.1) (70 : Int32) (32 : Int32)).bind fun S780 =>
  (aP S780 (some S353.1) (71 : Int32) (32 : Int32)).bind fun S786 =>
  (aP S786 (some S353.1) (72 : Int32) (111 : Int32)).bind fun S792 =>
  (aP S792 (some S353.1) (73 : Int32) (114 : Int32)).bind fun S798 =>
  (aP S798 (some S353.1) (74 : Int32) (32 : Int32)).bind fun S804 =>
  (aP S804 (some S353.1) (75 : Int32) (32 : Int32)).bind fun S810 =>
  (aP S810 (some S353.1) (76 : Int32) (32 : Int32)).bind fun S816 =>
  (aP S816 (some S353.1) (77 : Int32) (32 : Int32)).bind fun S822 =>
  (aP S822 (some S353.1) (78 : Int32) (32 : Int32)).bind fun S828 =>
  (aP S828 (some S353.1) (79 : Int32) (32 : Int32)).bind fun S834 =>
  (aP S834 (some S353.1) (80 : Int32) (97 : Int32)).bind fun S840 =>
  (aP S840 (some S353.1) (81 : Int32) (110 : Int32)).bind fun S846 =>
  (aP S846 (some S353.1) (82 : Int32) (100 : Int32)).bind fun S852 =>
  (aP S852 (some S353.1) (83 : Int32) (32 : Int32)).bind fun S858 =>
  (aP S858 (some S353.1) (84 : Int32) (32 : Int32)).bind fun S864 =>
  (aP S864 (some S353.1) (85 : Int32) (32 : Int32)).bind fun S870 =>
  (aP S870 (some S353.1) (86 : Int32) (32 : Int32)).bind fun S876 =>
  (aP S876 (some S353.1) (87 : Int32) (32 : Int32)).bind fun S882 =>
  (aP S882 (some S353.1) (88 : Int32) (110 : Int32)).bind fun S888 =>
  (aP S888 (some S353.1) (89 : Int32) (111 : Int32)).bind fun S894 =>
  (aP S894 (some S353.1) (90 : Int32) (116 : Int32)).bind fun S900 =>
  (aP S900 (some S353.1) (91 : Int32) (32 : Int32)).bind fun S906 =>
  (aP S906 (some S353.1) (92 : Int32) (32 : Int32)).bind fun S912 =>
  (aP S912 (some S353.1) (93 : Int32) (32 : Int32)).bind fun S918 =>
  (aP S918 (some S353.1) (94 : Int32) (32 : Int32)).bind fun S924 =>
  (aP S924 (some S353.1) (95 : Int32) (32 : Int32)).bind fun S930 =>
  (pR S930 (some o) 6 26 (some S353.1)).bind fun S931 =>
  (chn S.1 S931 [(some o), (some o)]).bind fun _ =>
  (nA S931 200 (200 : Int32)).bind fun S938 =>
  (pR S938 (some o) 6 27 (some S931.1)).bind fun S940 =>
  (chn S.1 S940 [(some o), (some o)]).bind fun _ =>
  (nA S940 200 (200 : Int32)).bind fun S947 =>
  (pR S947 (some o) 6 31 (some S940.1)).bind fun S949 =>
  (chn S.1 S949 [(some o), (some o)]).bind fun _ =>
  (nA S949 6 (6 : Int32)).bind fun S955 =>
  (pR S955 (some o) 6 32 (some S949.1)).bind fun S957 =>
  (chn S.1 S957 [(some o), (some o)]).bind fun _ =>
  (nA S957 6 (6 : Int32)).bind fun S963 =>
  (pR S963 (some o) 6 33 (some S957.1)).bind fun S965 =>
  (chn S.1 S965 [(some o), (some o)]).bind fun _ =>
  (nA S965 10 (10 : Int32)).bind fun S971 =>
  (pR S971 (some o) 6 34 (some S965.1)).bind fun S973 =>
  (chn S.1 S973 [(some o), (some o)]).bind fun _ =>
  (nA S973 31 (31 : Int32)).bind fun S979 =>
  (pR S979 (some o) 6 35 (some S973.1)).bind fun S981 =>
  B_X8_init_986 fu S.1 o fu S981 (0 : Int32)
set_option maxRecDepth 100000 in
set_option maxHeartbeats 4000000 in
theorem w_X8_init {E : Cx} {l : Launch} {res : Hp} {ad : Nat → Nat} {fu : Nat} {S : Hp} {o : Nat} (K : Kx E cX8_init RX8 (rmd 5 22 2238)) (X : Bx E l yX8_init 2 none 22 2238 ad (QVa S.1 res)) (h : F_X8_init fu S o = some res) : J E 0 0 0 [(0, vR (some o))] [] S ad := by
  have he : ∀ k, k < S.1 → ad k = ad k := fun _ _ => rfl
  refine j_aload_n K dX8_init_0 rfl 0 rfl ?_
  refine j_oinit K dX8_init_1 z803 z23 z24 (Nat.le_of_ble_eq_true rfl) (Nat.le_of_ble_eq_true rfl) ?_
  refine j_aload_n K dX8_init_4 rfl 0 rfl ?_
  refine j_bipush (v := (6 : Int32)) K dX8_init_5 (by decide) ?_
  obtain ⟨u7, e7, h⟩ := bd h
  obtain ⟨S7, g7, h⟩ := bd h
  refine j_nA (M := 6) K dX8_init_7 z88 (by decide) ⟨Nat.le_of_ble_eq_true rfl, Nat.le_of_ble_eq_true rfl⟩ rfl e7 g7 (fun ad7 a7 => ?_)
  have he7 := heX e7 a7 he
  obtain ⟨S9, e9, h⟩ := bd h
  refine fpX8_7 X.2.2.2.1 K dX8_init_9 e9 ?_
  refine j_aload_n K dX8_init_12 rfl 0 rfl ?_
  refine j_bipush (v := (6 : Int32)) K dX8_init_13 (by decide) ?_
  obtain ⟨u15, e15, h⟩ := bd h
  obtain ⟨S15, g15, h⟩ := bd h
  refine j_nA (M := 6) K dX8_init_15 z88 (by decide) ⟨Nat.le_of_ble_eq_true rfl, Nat.le_of_ble_eq_true rfl⟩ rfl e15 g15 (fun ad15 a15 => ?_)
  have he15 := heX e15 a15 he7
  obtain ⟨S17, e17, h⟩ := bd h
  refine fpX8_13 X.2.2.2.1 K dX8_init_17 e17 ?_
  refine j_aload_n K dX8_init_20 rfl 0 rfl ?_
  refine j_bipush (v := (12 : Int32)) K dX8_init_21 (by decide) ?_
  obtain ⟨u23, e23, h⟩ := bd h
  obtain ⟨S23, g23, h⟩ := bd h
  refine j_nA (M := 12) K dX8_init_23 z88 (by decide) ⟨Nat.le_of_ble_eq_true rfl, Nat.le_of_ble_eq_true rfl⟩ rfl e23 g23 (fun ad23 a23 => ?_)
  have he23 := heX e23 a23 he15
  obtain ⟨S25, e25, h⟩ := bd h
  refine fpX8_16 X.2.2.2.1 K dX8_init_25 e25 ?_
  refine j_aload_n K dX8_init_28 rfl 0 rfl ?_
  refine j_bipush (v := (10 : Int32)) K dX8_init_29 (by decide) ?_
  obtain ⟨u31, e31, h⟩ := bd h
  obtain ⟨S31, g31, h⟩ := bd h
  refine j_nA (M := 10) K dX8_init_31 z88 (by decide) ⟨Nat.le_of_ble_eq_true rfl, Nat.le_of_ble_eq_true rfl⟩ rfl e31 g31 (fun ad31 a31 => ?_)
  have he31 := heX e31 a31 he23
  obtain ⟨S33, e33, h⟩ := bd h
  refine fpX8_19 X.2.2.2.1 K dX8_init_33 e33 ?_
  refine j_aload_n K dX8_init_36 rfl 0 rfl ?_
  refine j_bipush (v := (10 : Int32)) K dX8_init_37 (by decide) ?_
  obtain ⟨u39, e39, h⟩ := bd h
  obtain ⟨S39, g39, h⟩ := bd h
  refine j_nA (M := 10) K dX8_init_39 z88 (by decide) ⟨Nat.le_of_ble_eq_true rfl, Nat.le_of_ble_eq_true rfl⟩ rfl e39 g39 (fun ad39 a39 => ?_)
  have he39 := heX e39 a39 he31
  obtain ⟨S41, e41, h⟩ := bd h
  refine fpX8_22 X.2.2.2.1 K dX8_init_41 e41 ?_
  refine j_aload_n K dX8_init_44 rfl 0 rfl ?_
  refine j_bipush (v := (10 : Int32)) K dX8_init_45 (by decide) ?_
  obtain ⟨u47, e47, h⟩ := bd h
  obtain ⟨S47, g47, h⟩ := bd h
  refine j_nA (M := 10) K dX8_init_47 z88 (by decide) ⟨Nat.le_of_ble_eq_true rfl, Nat.le_of_ble_eq_true rfl⟩ rfl e47 g47 (fun ad47 a47 => ?_)
  have he47 := heX e47 a47 he39
  obtain ⟨S49, e49, h⟩ := bd h
  refine fpX8_25 X.2.2.2.1 K dX8_init_49 e49 ?_
  refine j_aload_n K dX8_init_52 rfl 0 rfl ?_
  refine j_sipush (v := (160 : Int32)) K dX8_init_53 (by decide) ?_
  obtain ⟨u56, e56, h⟩ := bd h
  obtain ⟨S56, g56, h⟩ := bd h
  refine j_nA (M := 160) K dX8_init_56 z88 (by decide) ⟨Nat.le_of_ble_eq_true rfl, Nat.le_of_ble_eq_true rfl⟩ rfl e56 g56 (fun ad56 a56 => ?_)
  have he56 := heX e56 a56 he47
  obtain ⟨S58, e58, h⟩ := bd h
  refine fpX8_28 X.2.2.2.1 K dX8_init_58 e58 ?_
  refine j_aload_n K dX8_init_61 rfl 0 rfl ?_
  refine j_sipush (v := (1200 : Int32)) K dX8_init_62 (by decide) ?_
  obtain ⟨u65, e65, h⟩ := bd h
  obtain ⟨S65, g65, h⟩ := bd h
  refine j_nA (M := 1200) K dX8_init_65 z88 (by decide) ⟨Nat.le_of_ble_eq_true rfl, Nat.le_of_ble_eq_true rfl⟩ rfl e65 g65 (fun ad65 a65 => ?_)
  have he65 := heX e65 a65 he56
  obtain ⟨S67, e67, h⟩ := bd h
  refine fpX8_31 X.2.2.2.1 K dX8_init_67 e67 ?_
  refine j_aload_n K dX8_init_70 rfl 0 rfl ?_
  refine j_bipush (v := (24 : Int32)) K dX8_init_71 (by decide) ?_
  obtain ⟨u73, e73, h⟩ := bd h
  obtain ⟨S73, g73, h⟩ := bd h
  refine j_nA (M := 24) K dX8_init_73 z88 (by decide) ⟨Nat.le_of_ble_eq_true rfl, Nat.le_of_ble_eq_true rfl⟩ rfl e73 g73 (fun ad73 a73 => ?_)
  have he73 := heX e73 a73 he65
  obtain ⟨S75, e75, h⟩ := bd h
  refine fpX8_34 X.2.2.2.1 K dX8_init_75 e75 ?_
  refine j_aload_n K dX8_init_78 rfl 0 rfl ?_
  refine j_bipush (v := (42 : Int32)) K dX8_init_79 (by decide) ?_
  obtain ⟨u81, e81, h⟩ := bd h
  obtain ⟨S81, g81, h⟩ := bd h
  refine j_nA (M := 42) K dX8_init_81 z88 (by decide) ⟨Nat.le_of_ble_eq_true rfl, Nat.le_of_ble_eq_true rfl⟩ rfl e81 g81 (fun ad81 a81 => ?_)
  have he81 := heX e81 a81 he73
  obtain ⟨S83, e83, h⟩ := bd h
  refine fpX8_37 X.2.2.2.1 K dX8_init_83 e83 ?_
  refine j_aload_n K dX8_init_86 rfl 0 rfl ?_
  refine j_iconst (v := (4 : Int32)) K dX8_init_87 (by decide) ?_
  obtain ⟨u88, e88, h⟩ := bd h
  obtain ⟨S88, g88, h⟩ := bd h
  refine j_nA (M := 4) K dX8_init_88 z88 (by decide) ⟨Nat.le_of_ble_eq_true rfl, Nat.le_of_ble_eq_true rfl⟩ rfl e88 g88 (fun ad88 a88 => ?_)
  have he88 := heX e88 a88 he81
  obtain ⟨S90, e90, h⟩ := bd h
  refine fpX8_40 X.2.2.2.1 K dX8_init_90 e90 ?_
  refine j_aload_n K dX8_init_93 rfl 0 rfl ?_
  refine j_iconst (v := (4 : Int32)) K dX8_init_94 (by decide) ?_
  obtain ⟨u95, e95, h⟩ := bd h
  obtain ⟨S95, g95, h⟩ := bd h
  refine j_nA (M := 4) K dX8_init_95 z88 (by decide) ⟨Nat.le_of_ble_eq_true rfl, Nat.le_of_ble_eq_true rfl⟩ rfl e95 g95 (fun ad95 a95 => ?_)
  have he95 := heX e95 a95 he88
  refine j_dup K dX8_init_97 rfl ?_
  refine j_iconst (v := (0 : Int32)) K dX8_init_98 (by decide) ?_
  refine j_iconst (v := (-1 : Int32)) K dX8_init_99 (by decide) ?_
  obtain ⟨S100, e100, h⟩ := bd h
  refine j_aP K dX8_init_100 e100 ?_
  refine j_dup K dX8_init_101 rfl ?_
  refine j_iconst (v := (1 : Int32)) K dX8_init_102 (by decide) ?_
  refine j_iconst (v := (-1 : Int32)) K dX8_init_103 (by decide) ?_
  obtain ⟨S104, e104, h⟩ := bd h
  refine j_aP K dX8_init_104 e104 ?_
  refine j_dup K dX8_init_105 rfl ?_
  refine j_iconst (v := (2 : Int32)) K dX8_init_106 (by decide) ?_
  refine j_iconst (v := (-1 : Int32)) K dX8_init_107 (by decide) ?_
  obtain ⟨S108, e108, h⟩ := bd h
  refine j_aP K dX8_init_108 e108 ?_
  refine j_dup K dX8_init_109 rfl ?_
  refine j_iconst (v := (3 : Int32)) K dX8_init_110 (by decide) ?_
  refine j_iconst (v := (-1 : Int32)) K dX8_init_111 (by decide) ?_
  obtain ⟨S112, e112, h⟩ := bd h
  refine j_aP K dX8_init_112 e112 ?_
  obtain ⟨S113, e113, h⟩ := bd h
  refine fpX8_43 X.2.2.2.1 K dX8_init_113 e113 ?_
  refine j_aload_n K dX8_init_116 rfl 0 rfl ?_
  refine j_iconst (v := (4 : Int32)) K dX8_init_117 (by decide) ?_
  obtain ⟨u118, e118, h⟩ := bd h
  obtain ⟨S118, g118, h⟩ := bd h
  refine j_nA (M := 4) K dX8_init_118 z88 (by decide) ⟨Nat.le_of_ble_eq_true rfl, Nat.le_of_ble_eq_true rfl⟩ rfl e118 g118 (fun ad118 a118 => ?_)
  have he118 := heX e118 a118 he95
  obtain ⟨S120, e120, h⟩ := bd h
  refine fpX8_46 X.2.2.2.1 K dX8_init_120 e120 ?_
  refine j_aload_n K dX8_init_123 rfl 0 rfl ?_
  refine j_sipush (v := (160 : Int32)) K dX8_init_124 (by decide) ?_
  obtain ⟨u127, e127, h⟩ := bd h
  obtain ⟨S127, g127, h⟩ := bd h
  refine j_nA (M := 160) K dX8_init_127 z88 (by decide) ⟨Nat.le_of_ble_eq_true rfl, Nat.le_of_ble_eq_true rfl⟩ rfl e127 g127 (fun ad127 a127 => ?_)
  have he127 := heX e127 a127 he118
  obtain ⟨S129, e129, h⟩ := bd h
  refine fpX8_49 X.2.2.2.1 K dX8_init_129 e129 ?_
  refine j_aload_n K dX8_init_132 rfl 0 rfl ?_
  refine j_bipush (v := (37 : Int32)) K dX8_init_133 (by decide) ?_
  obtain ⟨u135, e135, h⟩ := bd h
  obtain ⟨S135, g135, h⟩ := bd h
  refine j_nA (M := 37) K dX8_init_135 z88 (by decide) ⟨Nat.le_of_ble_eq_true rfl, Nat.le_of_ble_eq_true rfl⟩ rfl e135 g135 (fun ad135 a135 => ?_)
  have he135 := heX e135 a135 he127
  refine j_dup K dX8_init_137 rfl ?_
  refine j_iconst (v := (0 : Int32)) K dX8_init_138 (by decide) ?_
  refine j_bipush (v := (115 : Int32)) K dX8_init_139 (by decide) ?_
  obtain ⟨S141, e141, h⟩ := bd h
  refine j_aP K dX8_init_141 e141 ?_
  refine j_dup K dX8_init_142 rfl ?_
  refine j_iconst (v := (1 : Int32)) K dX8_init_143 (by decide) ?_
  refine j_bipush (v := (116 : Int32)) K dX8_init_144 (by decide) ?_
  obtain ⟨S146, e146, h⟩ := bd h
  refine j_aP K dX8_init_146 e146 ?_
  refine j_dup K dX8_init_147 rfl ?_
  refine j_iconst (v := (2 : Int32)) K dX8_init_148 (by decide) ?_
  refine j_bipush (v := (114 : Int32)) K dX8_init_149 (by decide) ?_
  obtain ⟨S151, e151, h⟩ := bd h
  refine j_aP K dX8_init_151 e151 ?_
  refine j_dup K dX8_init_152 rfl ?_
  refine j_iconst (v := (3 : Int32)) K dX8_init_153 (by decide) ?_
  refine j_bipush (v := (111 : Int32)) K dX8_init_154 (by decide) ?_
  obtain ⟨S156, e156, h⟩ := bd h
  refine j_aP K dX8_init_156 e156 ?_
  refine j_dup K dX8_init_157 rfl ?_
  refine j_iconst (v := (4 : Int32)) K dX8_init_158 (by decide) ?_
  refine j_bipush (v := (107 : Int32)) K dX8_init_159 (by decide) ?_
  obtain ⟨S161, e161, h⟩ := bd h
  refine j_aP K dX8_init_161 e161 ?_
  refine j_dup K dX8_init_162 rfl ?_
  refine j_iconst (v := (5 : Int32)) K dX8_init_163 (by decide) ?_
  refine j_bipush (v := (101 : Int32)) K dX8_init_164 (by decide) ?_
  obtain ⟨S166, e166, h⟩ := bd h
  refine j_aP K dX8_init_166 e166 ?_
  refine j_dup K dX8_init_167 rfl ?_
  refine j_bipush (v := (6 : Int32)) K dX8_init_168 (by decide) ?_
  refine j_bipush (v := (115 : Int32)) K dX8_init_170 (by decide) ?_
  obtain ⟨S172, e172, h⟩ := bd h
  refine j_aP K dX8_init_172 e172 ?_
  refine j_dup K dX8_init_173 rfl ?_
  refine j_bipush (v := (7 : Int32)) K dX8_init_174 (by decide) ?_
  refine j_bipush (v := (32 : Int32)) K dX8_init_176 (by decide) ?_
  obtain ⟨S178, e178, h⟩ := bd h
  refine j_aP K dX8_init_178 e178 ?_
  refine j_dup K dX8_init_179 rfl ?_
  refine j_bipush (v := (8 : Int32)) K dX8_init_180 (by decide) ?_
  refine j_bipush (v := (49 : Int32)) K dX8_init_182 (by decide) ?_
  obtain ⟨S184, e184, h⟩ := bd h
  refine j_aP K dX8_init_184 e184 ?_
  refine j_dup K dX8_init_185 rfl ?_
  refine j_bipush (v := (9 : Int32)) K dX8_init_186 (by decide) ?_
  refine j_bipush (v := (32 : Int32)) K dX8_init_188 (by decide) ?_
  obtain ⟨S190, e190, h⟩ := bd h
  refine j_aP K dX8_init_190 e190 ?_
  refine j_dup K dX8_init_191 rfl ?_
  refine j_bipush (v := (10 : Int32)) K dX8_init_192 (by decide) ?_
  refine j_bipush (v := (59 : Int32)) K dX8_init_194 (by decide) ?_
  obtain ⟨S196, e196, h⟩ := bd h
  refine j_aP K dX8_init_196 e196 ?_
  refine j_dup K dX8_init_197 rfl ?_
  refine j_bipush (v := (11 : Int32)) K dX8_init_198 (by decide) ?_
  refine j_bipush (v := (32 : Int32)) K dX8_init_200 (by decide) ?_
  obtain ⟨S202, e202, h⟩ := bd h
  refine j_aP K dX8_init_202 e202 ?_
  refine j_dup K dX8_init_203 rfl ?_
  refine j_bipush (v := (12 : Int32)) K dX8_init_204 (by decide) ?_
  refine j_bipush (v := (100 : Int32)) K dX8_init_206 (by decide) ?_
  obtain ⟨S208, e208, h⟩ := bd h
  refine j_aP K dX8_init_208 e208 ?_
  refine j_dup K dX8_init_209 rfl ?_
  refine j_bipush (v := (13 : Int32)) K dX8_init_210 (by decide) ?_
  refine j_bipush (v := (111 : Int32)) K dX8_init_212 (by decide) ?_
  obtain ⟨S214, e214, h⟩ := bd h
  refine j_aP K dX8_init_214 e214 ?_
  refine j_dup K dX8_init_215 rfl ?_
  refine j_bipush (v := (14 : Int32)) K dX8_init_216 (by decide) ?_
  refine j_bipush (v := (117 : Int32)) K dX8_init_218 (by decide) ?_
  obtain ⟨S220, e220, h⟩ := bd h
  refine j_aP K dX8_init_220 e220 ?_
  refine j_dup K dX8_init_221 rfl ?_
  refine j_bipush (v := (15 : Int32)) K dX8_init_222 (by decide) ?_
  refine j_bipush (v := (98 : Int32)) K dX8_init_224 (by decide) ?_
  obtain ⟨S226, e226, h⟩ := bd h
  refine j_aP K dX8_init_226 e226 ?_
  refine j_dup K dX8_init_227 rfl ?_
  refine j_bipush (v := (16 : Int32)) K dX8_init_228 (by decide) ?_
  refine j_bipush (v := (116 : Int32)) K dX8_init_230 (by decide) ?_
  obtain ⟨S232, e232, h⟩ := bd h
  refine j_aP K dX8_init_232 e232 ?_
  refine j_dup K dX8_init_233 rfl ?_
  refine j_bipush (v := (17 : Int32)) K dX8_init_234 (by decide) ?_
  refine j_bipush (v := (115 : Int32)) K dX8_init_236 (by decide) ?_
  obtain ⟨S238, e238, h⟩ := bd h
  refine j_aP K dX8_init_238 e238 ?_
  refine j_dup K dX8_init_239 rfl ?_
  refine j_bipush (v := (18 : Int32)) K dX8_init_240 (by decide) ?_
  refine j_bipush (v := (32 : Int32)) K dX8_init_242 (by decide) ?_
  obtain ⟨S244, e244, h⟩ := bd h
  refine j_aP K dX8_init_244 e244 ?_
  refine j_dup K dX8_init_245 rfl ?_
  refine j_bipush (v := (19 : Int32)) K dX8_init_246 (by decide) ?_
  refine j_bipush (v := (49 : Int32)) K dX8_init_248 (by decide) ?_
  obtain ⟨S250, e250, h⟩ := bd h
  refine j_aP K dX8_init_250 e250 ?_
  refine j_dup K dX8_init_251 rfl ?_
  refine j_bipush (v := (20 : Int32)) K dX8_init_252 (by decide) ?_
  refine j_bipush (v := (48 : Int32)) K dX8_init_254 (by decide) ?_
  obtain ⟨S256, e256, h⟩ := bd h
  refine j_aP K dX8_init_256 e256 ?_
  refine j_dup K dX8_init_257 rfl ?_
  refine j_bipush (v := (21 : Int32)) K dX8_init_258 (by decide) ?_
  refine j_bipush (v := (32 : Int32)) K dX8_init_260 (by decide) ?_
  obtain ⟨S262, e262, h⟩ := bd h
  refine j_aP K dX8_init_262 e262 ?_
  refine j_dup K dX8_init_263 rfl ?_
  refine j_bipush (v := (22 : Int32)) K dX8_init_264 (by decide) ?_
  refine j_bipush (v := (59 : Int32)) K dX8_init_266 (by decide) ?_
  obtain ⟨S268, e268, h⟩ := bd h
  refine j_aP K dX8_init_268 e268 ?_
  refine j_dup K dX8_init_269 rfl ?_
  refine j_bipush (v := (23 : Int32)) K dX8_init_270 (by decide) ?_
  refine j_bipush (v := (32 : Int32)) K dX8_init_272 (by decide) ?_
  obtain ⟨S274, e274, h⟩ := bd h
  refine j_aP K dX8_init_274 e274 ?_
  refine j_dup K dX8_init_275 rfl ?_
  refine j_bipush (v := (24 : Int32)) K dX8_init_276 (by decide) ?_
  refine j_bipush (v := (112 : Int32)) K dX8_init_278 (by decide) ?_
  obtain ⟨S280, e280, h⟩ := bd h
  refine j_aP K dX8_init_280 e280 ?_
  refine j_dup K dX8_init_281 rfl ?_
  refine j_bipush (v := (25 : Int32)) K dX8_init_282 (by decide) ?_
  refine j_bipush (v := (97 : Int32)) K dX8_init_284 (by decide) ?_
  obtain ⟨S286, e286, h⟩ := bd h
  refine j_aP K dX8_init_286 e286 ?_
  refine j_dup K dX8_init_287 rfl ?_
  refine j_bipush (v := (26 : Int32)) K dX8_init_288 (by decide) ?_
  refine j_bipush (v := (121 : Int32)) K dX8_init_290 (by decide) ?_
  obtain ⟨S292, e292, h⟩ := bd h
  refine j_aP K dX8_init_292 e292 ?_
  refine j_dup K dX8_init_293 rfl ?_
  refine j_bipush (v := (27 : Int32)) K dX8_init_294 (by decide) ?_
  refine j_bipush (v := (115 : Int32)) K dX8_init_296 (by decide) ?_
  obtain ⟨S298, e298, h⟩ := bd h
  refine j_aP K dX8_init_298 e298 ?_
  refine j_dup K dX8_init_299 rfl ?_
  refine j_bipush (v := (28 : Int32)) K dX8_init_300 (by decide) ?_
  refine j_bipush (v := (32 : Int32)) K dX8_init_302 (by decide) ?_
  obtain ⟨S304, e304, h⟩ := bd h
  refine j_aP K dX8_init_304 e304 ?_
  refine j_dup K dX8_init_305 rfl ?_
  refine j_bipush (v := (29 : Int32)) K dX8_init_306 (by decide) ?_
  refine j_bipush (v := (119 : Int32)) K dX8_init_308 (by decide) ?_
  obtain ⟨S310, e310, h⟩ := bd h
  refine j_aP K dX8_init_310 e310 ?_
  refine j_dup K dX8_init_311 rfl ?_
  refine j_bipush (v := (30 : Int32)) K dX8_init_312 (by decide) ?_
  refine j_bipush (v := (101 : Int32)) K dX8_init_314 (by decide) ?_
  obtain ⟨S316, e316, h⟩ := bd h
  refine j_aP K dX8_init_316 e316 ?_
  refine j_dup K dX8_init_317 rfl ?_
  refine j_bipush (v := (31 : Int32)) K dX8_init_318 (by decide) ?_
  refine j_bipush (v := (105 : Int32)) K dX8_init_320 (by decide) ?_
  obtain ⟨S322, e322, h⟩ := bd h
  refine j_aP K dX8_init_322 e322 ?_
  refine j_dup K dX8_init_323 rfl ?_
  refine j_bipush (v := (32 : Int32)) K dX8_init_324 (by decide) ?_
  refine j_bipush (v := (103 : Int32)) K dX8_init_326 (by decide) ?_
  obtain ⟨S328, e328, h⟩ := bd h
  refine j_aP K dX8_init_328 e328 ?_
  refine j_dup K dX8_init_329 rfl ?_
  refine j_bipush (v := (33 : Int32)) K dX8_init_330 (by decide) ?_
  refine j_bipush (v := (104 : Int32)) K dX8_init_332 (by decide) ?_
  obtain ⟨S334, e334, h⟩ := bd h
  refine j_aP K dX8_init_334 e334 ?_
  refine j_dup K dX8_init_335 rfl ?_
  refine j_bipush (v := (34 : Int32)) K dX8_init_336 (by decide) ?_
  refine j_bipush (v := (116 : Int32)) K dX8_init_338 (by decide) ?_
  obtain ⟨S340, e340, h⟩ := bd h
  refine j_aP K dX8_init_340 e340 ?_
  refine j_dup K dX8_init_341 rfl ?_
  refine j_bipush (v := (35 : Int32)) K dX8_init_342 (by decide) ?_
  refine j_bipush (v := (32 : Int32)) K dX8_init_344 (by decide) ?_
  obtain ⟨S346, e346, h⟩ := bd h
  refine j_aP K dX8_init_346 e346 ?_
  refine j_dup K dX8_init_347 rfl ?_
  refine j_bipush (v := (36 : Int32)) K dX8_init_348 (by decide) ?_
  refine j_bipush (v := (59 : Int32)) K dX8_init_350 (by decide) ?_
  obtain ⟨S352, e352, h⟩ := bd h
  refine j_aP K dX8_init_352 e352 ?_
  obtain ⟨S353, e353, h⟩ := bd h
  refine fpX8_52 X.2.2.2.1 K dX8_init_353 e353 ?_
  refine j_aload_n K dX8_init_356 rfl 0 rfl ?_
  refine j_bipush (v := (96 : Int32)) K dX8_init_357 (by decide) ?_
  obtain ⟨u359, e359, h⟩ := bd h
  obtain ⟨S359, g359, h⟩ := bd h
  refine j_nA (M := 96) K dX8_init_359 z88 (by decide) ⟨Nat.le_of_ble_eq_true rfl, Nat.le_of_ble_eq_true rfl⟩ rfl e359 g359 (fun ad359 a359 => ?_)
  have he359 := heX e359 a359 he135
  refine j_dup K dX8_init_361 rfl ?_
  refine j_iconst (v := (0 : Int32)) K dX8_init_362 (by decide) ?_
  refine j_bipush (v := (115 : Int32)) K dX8_init_363 (by decide) ?_
  obtain ⟨S365, e365, h⟩ := bd h
  refine j_aP K dX8_init_365 e365 ?_
  refine j_dup K dX8_init_366 rfl ?_
  refine j_iconst (v := (1 : Int32)) K dX8_init_367 (by decide) ?_
  refine j_bipush (v := (116 : Int32)) K dX8_init_368 (by decide) ?_
  obtain ⟨S370, e370, h⟩ := bd h
  refine j_aP K dX8_init_370 e370 ?_
  refine j_dup K dX8_init_371 rfl ?_
  refine j_iconst (v := (2 : Int32)) K dX8_init_372 (by decide) ?_
  refine j_bipush (v := (114 : Int32)) K dX8_init_373 (by decide) ?_
  obtain ⟨S375, e375, h⟩ := bd h
  refine j_aP K dX8_init_375 e375 ?_
  refine j_dup K dX8_init_376 rfl ?_
  refine j_iconst (v := (3 : Int32)) K dX8_init_377 (by decide) ?_
  refine j_bipush (v := (111 : Int32)) K dX8_init_378 (by decide) ?_
  obtain ⟨S380, e380, h⟩ := bd h
  refine j_aP K dX8_init_380 e380 ?_
  refine j_dup K dX8_init_381 rfl ?_
  refine j_iconst (v := (4 : Int32)) K dX8_init_382 (by decide) ?_
  refine j_bipush (v := (107 : Int32)) K dX8_init_383 (by decide) ?_
  obtain ⟨S385, e385, h⟩ := bd h
  refine j_aP K dX8_init_385 e385 ?_
  refine j_dup K dX8_init_386 rfl ?_
  refine j_iconst (v := (5 : Int32)) K dX8_init_387 (by decide) ?_
  refine j_bipush (v := (101 : Int32)) K dX8_init_388 (by decide) ?_
  obtain ⟨S390, e390, h⟩ := bd h
  refine j_aP K dX8_init_390 e390 ?_
  refine j_dup K dX8_init_391 rfl ?_
  refine j_bipush (v := (6 : Int32)) K dX8_init_392 (by decide) ?_
  refine j_bipush (v := (115 : Int32)) K dX8_init_394 (by decide) ?_
  obtain ⟨S396, e396, h⟩ := bd h
  refine j_aP K dX8_init_396 e396 ?_
  refine j_dup K dX8_init_397 rfl ?_
  refine j_bipush (v := (7 : Int32)) K dX8_init_398 (by decide) ?_
  refine j_bipush (v := (32 : Int32)) K dX8_init_400 (by decide) ?_
  obtain ⟨S402, e402, h⟩ := bd h
  refine j_aP K dX8_init_402 e402 ?_
  refine j_dup K dX8_init_403 rfl ?_
  refine j_bipush (v := (8 : Int32)) K dX8_init_404 (by decide) ?_
  refine j_bipush (v := (100 : Int32)) K dX8_init_406 (by decide) ?_
  obtain ⟨S408, e408, h⟩ := bd h
  refine j_aP K dX8_init_408 e408 ?_
  refine j_dup K dX8_init_409 rfl ?_
  refine j_bipush (v := (9 : Int32)) K dX8_init_410 (by decide) ?_
  refine j_bipush (v := (111 : Int32)) K dX8_init_412 (by decide) ?_
  obtain ⟨S414, e414, h⟩ := bd h
  refine j_aP K dX8_init_414 e414 ?_
  refine j_dup K dX8_init_415 rfl ?_
  refine j_bipush (v := (10 : Int32)) K dX8_init_416 (by decide) ?_
  refine j_bipush (v := (117 : Int32)) K dX8_init_418 (by decide) ?_
  obtain ⟨S420, e420, h⟩ := bd h
  refine j_aP K dX8_init_420 e420 ?_
  refine j_dup K dX8_init_421 rfl ?_
  refine j_bipush (v := (11 : Int32)) K dX8_init_422 (by decide) ?_
  refine j_bipush (v := (98 : Int32)) K dX8_init_424 (by decide) ?_
  obtain ⟨S426, e426, h⟩ := bd h
  refine j_aP K dX8_init_426 e426 ?_
  refine j_dup K dX8_init_427 rfl ?_
  refine j_bipush (v := (12 : Int32)) K dX8_init_428 (by decide) ?_
  refine j_bipush (v := (116 : Int32)) K dX8_init_430 (by decide) ?_
  obtain ⟨S432, e432, h⟩ := bd h
  refine j_aP K dX8_init_432 e432 ?_
  refine j_dup K dX8_init_433 rfl ?_
  refine j_bipush (v := (13 : Int32)) K dX8_init_434 (by decide) ?_
  refine j_bipush (v := (115 : Int32)) K dX8_init_436 (by decide) ?_
  obtain ⟨S438, e438, h⟩ := bd h
  refine j_aP K dX8_init_438 e438 ?_
  refine j_dup K dX8_init_439 rfl ?_
  refine j_bipush (v := (14 : Int32)) K dX8_init_440 (by decide) ?_
  refine j_bipush (v := (32 : Int32)) K dX8_init_442 (by decide) ?_
  obtain ⟨S444, e444, h⟩ := bd h
  refine j_aP K dX8_init_444 e444 ?_
  refine j_dup K dX8_init_445 rfl ?_
  refine j_bipush (v := (15 : Int32)) K dX8_init_446 (by decide) ?_
  refine j_bipush (v := (32 : Int32)) K dX8_init_448 (by decide) ?_
  obtain ⟨S450, e450, h⟩ := bd h
  refine j_aP K dX8_init_450 e450 ?_
  refine j_dup K dX8_init_451 rfl ?_
  refine j_bipush (v := (16 : Int32)) K dX8_init_452 (by decide) ?_
  refine j_bipush (v := (112 : Int32)) K dX8_init_454 (by decide) ?_
  obtain ⟨S456, e456, h⟩ := bd h
  refine j_aP K dX8_init_456 e456 ?_
  refine j_dup K dX8_init_457 rfl ?_
  refine j_bipush (v := (17 : Int32)) K dX8_init_458 (by decide) ?_
  refine j_bipush (v := (97 : Int32)) K dX8_init_460 (by decide) ?_
  obtain ⟨S462, e462, h⟩ := bd h
  refine j_aP K dX8_init_462 e462 ?_
  refine j_dup K dX8_init_463 rfl ?_
  refine j_bipush (v := (18 : Int32)) K dX8_init_464 (by decide) ?_
  refine j_bipush (v := (121 : Int32)) K dX8_init_466 (by decide) ?_
  obtain ⟨S468, e468, h⟩ := bd h
  refine j_aP K dX8_init_468 e468 ?_
  refine j_dup K dX8_init_469 rfl ?_
  refine j_bipush (v := (19 : Int32)) K dX8_init_470 (by decide) ?_
  refine j_bipush (v := (115 : Int32)) K dX8_init_472 (by decide) ?_
  obtain ⟨S474, e474, h⟩ := bd h
  refine j_aP K dX8_init_474 e474 ?_
  refine j_dup K dX8_init_475 rfl ?_
  refine j_bipush (v := (20 : Int32)) K dX8_init_476 (by decide) ?_
  refine j_bipush (v := (32 : Int32)) K dX8_init_478 (by decide) ?_
  obtain ⟨S480, e480, h⟩ := bd h
  refine j_aP K dX8_init_480 e480 ?_
  refine j_dup K dX8_init_481 rfl ?_
  refine j_bipush (v := (21 : Int32)) K dX8_init_482 (by decide) ?_
  refine j_bipush (v := (32 : Int32)) K dX8_init_484 (by decide) ?_
  obtain ⟨S486, e486, h⟩ := bd h
  refine j_aP K dX8_init_486 e486 ?_
  refine j_dup K dX8_init_487 rfl ?_
  refine j_bipush (v := (22 : Int32)) K dX8_init_488 (by decide) ?_
  refine j_bipush (v := (32 : Int32)) K dX8_init_490 (by decide) ?_
  obtain ⟨S492, e492, h⟩ := bd h
  refine j_aP K dX8_init_492 e492 ?_
  refine j_dup K dX8_init_493 rfl ?_
  refine j_bipush (v := (23 : Int32)) K dX8_init_494 (by decide) ?_
  refine j_bipush (v := (32 : Int32)) K dX8_init_496 (by decide) ?_
  obtain ⟨S498, e498, h⟩ := bd h
  refine j_aP K dX8_init_498 e498 ?_
  refine j_dup K dX8_init_499 rfl ?_
  refine j_bipush (v := (24 : Int32)) K dX8_init_500 (by decide) ?_
  refine j_bipush (v := (119 : Int32)) K dX8_init_502 (by decide) ?_
  obtain ⟨S504, e504, h⟩ := bd h
  refine j_aP K dX8_init_504 e504 ?_
  refine j_dup K dX8_init_505 rfl ?_
  refine j_bipush (v := (25 : Int32)) K dX8_init_506 (by decide) ?_
  refine j_bipush (v := (101 : Int32)) K dX8_init_508 (by decide) ?_
  obtain ⟨S510, e510, h⟩ := bd h
  refine j_aP K dX8_init_510 e510 ?_
  refine j_dup K dX8_init_511 rfl ?_
  refine j_bipush (v := (26 : Int32)) K dX8_init_512 (by decide) ?_
  refine j_bipush (v := (105 : Int32)) K dX8_init_514 (by decide) ?_
  obtain ⟨S516, e516, h⟩ := bd h
  refine j_aP K dX8_init_516 e516 ?_
  refine j_dup K dX8_init_517 rfl ?_
  refine j_bipush (v := (27 : Int32)) K dX8_init_518 (by decide) ?_
  refine j_bipush (v := (103 : Int32)) K dX8_init_520 (by decide) ?_
  obtain ⟨S522, e522, h⟩ := bd h
  refine j_aP K dX8_init_522 e522 ?_
  refine j_dup K dX8_init_523 rfl ?_
  refine j_bipush (v := (28 : Int32)) K dX8_init_524 (by decide) ?_
  refine j_bipush (v := (104 : Int32)) K dX8_init_526 (by decide) ?_
  obtain ⟨S528, e528, h⟩ := bd h
  refine j_aP K dX8_init_528 e528 ?_
  refine j_dup K dX8_init_529 rfl ?_
  refine j_bipush (v := (29 : Int32)) K dX8_init_530 (by decide) ?_
  refine j_bipush (v := (116 : Int32)) K dX8_init_532 (by decide) ?_
  obtain ⟨S534, e534, h⟩ := bd h
  refine j_aP K dX8_init_534 e534 ?_
  refine j_dup K dX8_init_535 rfl ?_
  refine j_bipush (v := (30 : Int32)) K dX8_init_536 (by decide) ?_
  refine j_bipush (v := (32 : Int32)) K dX8_init_538 (by decide) ?_
  obtain ⟨S540, e540, h⟩ := bd h
  refine j_aP K dX8_init_540 e540 ?_
  refine j_dup K dX8_init_541 rfl ?_
  refine j_bipush (v := (31 : Int32)) K dX8_init_542 (by decide) ?_
  refine j_bipush (v := (32 : Int32)) K dX8_init_544 (by decide) ?_
  obtain ⟨S546, e546, h⟩ := bd h
  refine j_aP K dX8_init_546 e546 ?_
  refine j_dup K dX8_init_547 rfl ?_
  refine j_bipush (v := (32 : Int32)) K dX8_init_548 (by decide) ?_
  refine j_bipush (v := (115 : Int32)) K dX8_init_550 (by decide) ?_
  obtain ⟨S552, e552, h⟩ := bd h
  refine j_aP K dX8_init_552 e552 ?_
  refine j_dup K dX8_init_553 rfl ?_
  refine j_bipush (v := (33 : Int32)) K dX8_init_554 (by decide) ?_
  refine j_bipush (v := (104 : Int32)) K dX8_init_556 (by decide) ?_
  obtain ⟨S558, e558, h⟩ := bd h
  refine j_aP K dX8_init_558 e558 ?_
  refine j_dup K dX8_init_559 rfl ?_
  refine j_bipush (v := (34 : Int32)) K dX8_init_560 (by decide) ?_
  refine j_bipush (v := (97 : Int32)) K dX8_init_562 (by decide) ?_
  obtain ⟨S564, e564, h⟩ := bd h
  refine j_aP K dX8_init_564 e564 ?_
  refine j_dup K dX8_init_565 rfl ?_
  refine j_bipush (v := (35 : Int32)) K dX8_init_566 (by decide) ?_
  refine j_bipush (v := (114 : Int32)) K dX8_init_568 (by decide) ?_
  obtain ⟨S570, e570, h⟩ := bd h
  refine j_aP K dX8_init_570 e570 ?_
  refine j_dup K dX8_init_571 rfl ?_
  refine j_bipush (v := (36 : Int32)) K dX8_init_572 (by decide) ?_
  refine j_bipush (v := (101 : Int32)) K dX8_init_574 (by decide) ?_
  obtain ⟨S576, e576, h⟩ := bd h
  refine j_aP K dX8_init_576 e576 ?_
  refine j_dup K dX8_init_577 rfl ?_
  refine j_bipush (v := (37 : Int32)) K dX8_init_578 (by decide) ?_
  refine j_bipush (v := (100 : Int32)) K dX8_init_580 (by decide) ?_
  obtain ⟨S582, e582, h⟩ := bd h
  refine j_aP K dX8_init_582 e582 ?_
  refine j_dup K dX8_init_583 rfl ?_
  refine j_bipush (v := (38 : Int32)) K dX8_init_584 (by decide) ?_
  refine j_bipush (v := (32 : Int32)) K dX8_init_586 (by decide) ?_
  obtain ⟨S588, e588, h⟩ := bd h
  refine j_aP K dX8_init_588 e588 ?_
  refine j_dup K dX8_init_589 rfl ?_
  refine j_bipush (v := (39 : Int32)) K dX8_init_590 (by decide) ?_
  refine j_bipush (v := (32 : Int32)) K dX8_init_592 (by decide) ?_
  obtain ⟨S594, e594, h⟩ := bd h
  refine j_aP K dX8_init_594 e594 ?_
  refine j_dup K dX8_init_595 rfl ?_
  refine j_bipush (v := (40 : Int32)) K dX8_init_596 (by decide) ?_
  refine j_bipush (v := (115 : Int32)) K dX8_init_598 (by decide) ?_
  obtain ⟨S600, e600, h⟩ := bd h
  refine j_aP K dX8_init_600 e600 ?_
  refine j_dup K dX8_init_601 rfl ?_
  refine j_bipush (v := (41 : Int32)) K dX8_init_602 (by decide) ?_
  refine j_bipush (v := (101 : Int32)) K dX8_init_604 (by decide) ?_
  obtain ⟨S606, e606, h⟩ := bd h
  refine j_aP K dX8_init_606 e606 ?_
  refine j_dup K dX8_init_607 rfl ?_
  refine j_bipush (v := (42 : Int32)) K dX8_init_608 (by decide) ?_
  refine j_bipush (v := (101 : Int32)) K dX8_init_610 (by decide) ?_
  obtain ⟨S612, e612, h⟩ := bd h
  refine j_aP K dX8_init_612 e612 ?_
  refine j_dup K dX8_init_613 rfl ?_
  refine j_bipush (v := (43 : Int32)) K dX8_init_614 (by decide) ?_
  refine j_bipush (v := (110 : Int32)) K dX8_init_616 (by decide) ?_
  obtain ⟨S618, e618, h⟩ := bd h
  refine j_aP K dX8_init_618 e618 ?_
  refine j_dup K dX8_init_619 rfl ?_
  refine j_bipush (v := (44 : Int32)) K dX8_init_620 (by decide) ?_
  refine j_bipush (v := (32 : Int32)) K dX8_init_622 (by decide) ?_
  obtain ⟨S624, e624, h⟩ := bd h
  refine j_aP K dX8_init_624 e624 ?_
  refine j_dup K dX8_init_625 rfl ?_
  refine j_bipush (v := (45 : Int32)) K dX8_init_626 (by decide) ?_
  refine j_bipush (v := (32 : Int32)) K dX8_init_628 (by decide) ?_
  obtain ⟨S630, e630, h⟩ := bd h
  refine j_aP K dX8_init_630 e630 ?_
  refine j_dup K dX8_init_631 rfl ?_
  refine j_bipush (v := (46 : Int32)) K dX8_init_632 (by decide) ?_
  refine j_bipush (v := (32 : Int32)) K dX8_init_634 (by decide) ?_
  obtain ⟨S636, e636, h⟩ := bd h
  refine j_aP K dX8_init_636 e636 ?_
  refine j_dup K dX8_init_637 rfl ?_
  refine j_bipush (v := (47 : Int32)) K dX8_init_638 (by decide) ?_
  refine j_bipush (v := (32 : Int32)) K dX8_init_640 (by decide) ?_
  obtain ⟨S642, e642, h⟩ := bd h
  refine j_aP K dX8_init_642 e642 ?_
  refine j_dup K dX8_init_643 rfl ?_
  refine j_bipush (v := (48 : Int32)) K dX8_init_644 (by decide) ?_
  refine j_bipush (v := (100 : Int32)) K dX8_init_646 (by decide) ?_
  obtain ⟨S648, e648, h⟩ := bd h
  refine j_aP K dX8_init_648 e648 ?_
  refine j_dup K dX8_init_649 rfl ?_
  refine j_bipush (v := (49 : Int32)) K dX8_init_650 (by decide) ?_
  refine j_bipush (v := (97 : Int32)) K dX8_init_652 (by decide) ?_
  obtain ⟨S654, e654, h⟩ := bd h
  refine j_aP K dX8_init_654 e654 ?_
  refine j_dup K dX8_init_655 rfl ?_
  refine j_bipush (v := (50 : Int32)) K dX8_init_656 (by decide) ?_
  refine j_bipush (v := (121 : Int32)) K dX8_init_658 (by decide) ?_
  obtain ⟨S660, e660, h⟩ := bd h
  refine j_aP K dX8_init_660 e660 ?_
  refine j_dup K dX8_init_661 rfl ?_
  refine j_bipush (v := (51 : Int32)) K dX8_init_662 (by decide) ?_
  refine j_bipush (v := (32 : Int32)) K dX8_init_664 (by decide) ?_
  obtain ⟨S666, e666, h⟩ := bd h
  refine j_aP K dX8_init_666 e666 ?_
  refine j_dup K dX8_init_667 rfl ?_
  refine j_bipush (v := (52 : Int32)) K dX8_init_668 (by decide) ?_
  refine j_bipush (v := (32 : Int32)) K dX8_init_670 (by decide) ?_
  obtain ⟨S672, e672, h⟩ := bd h
  refine j_aP K dX8_init_672 e672 ?_
  refine j_dup K dX8_init_673 rfl ?_
  refine j_bipush (v := (53 : Int32)) K dX8_init_674 (by decide) ?_
  refine j_bipush (v := (32 : Int32)) K dX8_init_676 (by decide) ?_
  obtain ⟨S678, e678, h⟩ := bd h
  refine j_aP K dX8_init_678 e678 ?_
  refine j_dup K dX8_init_679 rfl ?_
  refine j_bipush (v := (54 : Int32)) K dX8_init_680 (by decide) ?_
  refine j_bipush (v := (32 : Int32)) K dX8_init_682 (by decide) ?_
  obtain ⟨S684, e684, h⟩ := bd h
  refine j_aP K dX8_init_684 e684 ?_
  refine j_dup K dX8_init_685 rfl ?_
  refine j_bipush (v := (55 : Int32)) K dX8_init_686 (by decide) ?_
  refine j_bipush (v := (32 : Int32)) K dX8_init_688 (by decide) ?_
  obtain ⟨S690, e690, h⟩ := bd h
  refine j_aP K dX8_init_690 e690 ?_
  refine j_dup K dX8_init_691 rfl ?_
  refine j_bipush (v := (56 : Int32)) K dX8_init_692 (by decide) ?_
  refine j_bipush (v := (112 : Int32)) K dX8_init_694 (by decide) ?_
  obtain ⟨S696, e696, h⟩ := bd h
  refine j_aP K dX8_init_696 e696 ?_
  refine j_dup K dX8_init_697 rfl ?_
  refine j_bipush (v := (57 : Int32)) K dX8_init_698 (by decide) ?_
  refine j_bipush (v := (114 : Int32)) K dX8_init_700 (by decide) ?_
  obtain ⟨S702, e702, h⟩ := bd h
  refine j_aP K dX8_init_702 e702 ?_
  refine j_dup K dX8_init_703 rfl ?_
  refine j_bipush (v := (58 : Int32)) K dX8_init_704 (by decide) ?_
  refine j_bipush (v := (105 : Int32)) K dX8_init_706 (by decide) ?_
  obtain ⟨S708, e708, h⟩ := bd h
  refine j_aP K dX8_init_708 e708 ?_
  refine j_dup K dX8_init_709 rfl ?_
  refine j_bipush (v := (59 : Int32)) K dX8_init_710 (by decide) ?_
  refine j_bipush (v := (100 : Int32)) K dX8_init_712 (by decide) ?_
  obtain ⟨S714, e714, h⟩ := bd h
  refine j_aP K dX8_init_714 e714 ?_
  refine j_dup K dX8_init_715 rfl ?_
  refine j_bipush (v := (60 : Int32)) K dX8_init_716 (by decide) ?_
  refine j_bipush (v := (101 : Int32)) K dX8_init_718 (by decide) ?_
  obtain ⟨S720, e720, h⟩ := bd h
  refine j_aP K dX8_init_720 e720 ?_
  refine j_dup K dX8_init_721 rfl ?_
  refine j_bipush (v := (61 : Int32)) K dX8_init_722 (by decide) ?_
  refine j_bipush (v := (32 : Int32)) K dX8_init_724 (by decide) ?_
  obtain ⟨S726, e726, h⟩ := bd h
  refine j_aP K dX8_init_726 e726 ?_
  refine j_dup K dX8_init_727 rfl ?_
  refine j_bipush (v := (62 : Int32)) K dX8_init_728 (by decide) ?_
  refine j_bipush (v := (32 : Int32)) K dX8_init_730 (by decide) ?_
  obtain ⟨S732, e732, h⟩ := bd h
  refine j_aP K dX8_init_732 e732 ?_
  refine j_dup K dX8_init_733 rfl ?_
  refine j_bipush (v := (63 : Int32)) K dX8_init_734 (by decide) ?_
  refine j_bipush (v := (32 : Int32)) K dX8_init_736 (by decide) ?_
  obtain ⟨S738, e738, h⟩ := bd h
  refine j_aP K dX8_init_738 e738 ?_
  refine j_dup K dX8_init_739 rfl ?_
  refine j_bipush (v := (64 : Int32)) K dX8_init_740 (by decide) ?_
  refine j_bipush (v := (109 : Int32)) K dX8_init_742 (by decide) ?_
  obtain ⟨S744, e744, h⟩ := bd h
  refine j_aP K dX8_init_744 e744 ?_
  refine j_dup K dX8_init_745 rfl ?_
  refine j_bipush (v := (65 : Int32)) K dX8_init_746 (by decide) ?_
  refine j_bipush (v := (111 : Int32)) K dX8_init_748 (by decide) ?_
  obtain ⟨S750, e750, h⟩ := bd h
  refine j_aP K dX8_init_750 e750 ?_
  refine j_dup K dX8_init_751 rfl ?_
  refine j_bipush (v := (66 : Int32)) K dX8_init_752 (by decide) ?_
  refine j_bipush (v := (114 : Int32)) K dX8_init_754 (by decide) ?_
  obtain ⟨S756, e756, h⟩ := bd h
  refine j_aP K dX8_init_756 e756 ?_
  refine j_dup K dX8_init_757 rfl ?_
  refine j_bipush (v := (67 : Int32)) K dX8_init_758 (by decide) ?_
  refine j_bipush (v := (101 : Int32)) K dX8_init_760 (by decide) ?_
  obtain ⟨S762, e762, h⟩ := bd h
  refine j_aP K dX8_init_762 e762 ?_
  refine j_dup K dX8_init_763 rfl ?_
  refine j_bipush (v := (68 : Int32)) K dX8_init_764 (by decide) ?_
  refine j_bipush (v := (32 : Int32)) K dX8_init_766 (by decide) ?_
  obtain ⟨S768, e768, h⟩ := bd h
  refine j_aP K dX8_init_768 e768 ?_
  refine j_dup K dX8_init_769 rfl ?_
  refine j_bipush (v := (69 : Int32)) K dX8_init_770 (by decide) ?_
  refine j_bipush (v := (32 : Int32)) K dX8_init_772 (by decide) ?_
  obtain ⟨S774, e774, h⟩ := bd h
  refine j_aP K dX8_init_774 e774 ?_
  refine j_dup K dX8_init_775 rfl ?_
  refine j_bipush (v := (70 : Int32)) K dX8_init_776 (by decide) ?_
  refine j_bipush (v := (32 : Int32)) K dX8_init_778 (by decide) ?_
  obtain ⟨S780, e780, h⟩ := bd h
  refine j_aP K dX8_init_780 e780 ?_
  refine j_dup K dX8_init_781 rfl ?_
  refine j_bipush (v := (71 : Int32)) K dX8_init_782 (by decide) ?_
  refine j_bipush (v := (32 : Int32)) K dX8_init_784 (by decide) ?_
  obtain ⟨S786, e786, h⟩ := bd h
  refine j_aP K dX8_init_786 e786 ?_
  refine j_dup K dX8_init_787 rfl ?_
  refine j_bipush (v := (72 : Int32)) K dX8_init_788 (by decide) ?_
  refine j_bipush (v := (111 : Int32)) K dX8_init_790 (by decide) ?_
  obtain ⟨S792, e792, h⟩ := bd h
  refine j_aP K dX8_init_792 e792 ?_
  refine j_dup K dX8_init_793 rfl ?_
  refine j_bipush (v := (73 : Int32)) K dX8_init_794 (by decide) ?_
  refine j_bipush (v := (114 : Int32)) K dX8_init_796 (by decide) ?_
  obtain ⟨S798, e798, h⟩ := bd h
  refine j_aP K dX8_init_798 e798 ?_
  refine j_dup K dX8_init_799 rfl ?_
  refine j_bipush (v := (74 : Int32)) K dX8_init_800 (by decide) ?_
  refine j_bipush (v := (32 : Int32)) K dX8_init_802 (by decide) ?_
  obtain ⟨S804, e804, h⟩ := bd h
  refine j_aP K dX8_init_804 e804 ?_
  refine j_dup K dX8_init_805 rfl ?_
  refine j_bipush (v := (75 : Int32)) K dX8_init_806 (by decide) ?_
  refine j_bipush (v := (32 : Int32)) K dX8_init_808 (by decide) ?_
  obtain ⟨S810, e810, h⟩ := bd h
  refine j_aP K dX8_init_810 e810 ?_
  refine j_dup K dX8_init_811 rfl ?_
  refine j_bipush (v := (76 : Int32)) K dX8_init_812 (by decide) ?_
  refine j_bipush (v := (32 : Int32)) K dX8_init_814 (by decide) ?_
  obtain ⟨S816, e816, h⟩ := bd h
  refine j_aP K dX8_init_816 e816 ?_
  refine j_dup K dX8_init_817 rfl ?_
  refine j_bipush (v := (77 : Int32)) K dX8_init_818 (by decide) ?_
  refine j_bipush (v := (32 : Int32)) K dX8_init_820 (by decide) ?_
  obtain ⟨S822, e822, h⟩ := bd h
  refine j_aP K dX8_init_822 e822 ?_
  refine j_dup K dX8_init_823 rfl ?_
  refine j_bipush (v := (78 : Int32)) K dX8_init_824 (by decide) ?_
  refine j_bipush (v := (32 : Int32)) K dX8_init_826 (by decide) ?_
  obtain ⟨S828, e828, h⟩ := bd h
  refine j_aP K dX8_init_828 e828 ?_
  refine j_dup K dX8_init_829 rfl ?_
  refine j_bipush (v := (79 : Int32)) K dX8_init_830 (by decide) ?_
  refine j_bipush (v := (32 : Int32)) K dX8_init_832 (by decide) ?_
  obtain ⟨S834, e834, h⟩ := bd h
  refine j_aP K dX8_init_834 e834 ?_
  refine j_dup K dX8_init_835 rfl ?_
  refine j_bipush (v := (80 : Int32)) K dX8_init_836 (by decide) ?_
  refine j_bipush (v := (97 : Int32)) K dX8_init_838 (by decide) ?_
  obtain ⟨S840, e840, h⟩ := bd h
  refine j_aP K dX8_init_840 e840 ?_
  refine j_dup K dX8_init_841 rfl ?_
  refine j_bipush (v := (81 : Int32)) K dX8_init_842 (by decide) ?_
  refine j_bipush (v := (110 : Int32)) K dX8_init_844 (by decide) ?_
  obtain ⟨S846, e846, h⟩ := bd h
  refine j_aP K dX8_init_846 e846 ?_
  refine j_dup K dX8_init_847 rfl ?_
  refine j_bipush (v := (82 : Int32)) K dX8_init_848 (by decide) ?_
  refine j_bipush (v := (100 : Int32)) K dX8_init_850 (by decide) ?_
  obtain ⟨S852, e852, h⟩ := bd h
  refine j_aP K dX8_init_852 e852 ?_
  refine j_dup K dX8_init_853 rfl ?_
  refine j_bipush (v := (83 : Int32)) K dX8_init_854 (by decide) ?_
  refine j_bipush (v := (32 : Int32)) K dX8_init_856 (by decide) ?_
  obtain ⟨S858, e858, h⟩ := bd h
  refine j_aP K dX8_init_858 e858 ?_
  refine j_dup K dX8_init_859 rfl ?_
  refine j_bipush (v := (84 : Int32)) K dX8_init_860 (by decide) ?_
  refine j_bipush (v := (32 : Int32)) K dX8_init_862 (by decide) ?_
  obtain ⟨S864, e864, h⟩ := bd h
  refine j_aP K dX8_init_864 e864 ?_
  refine j_dup K dX8_init_865 rfl ?_
  refine j_bipush (v := (85 : Int32)) K dX8_init_866 (by decide) ?_
  refine j_bipush (v := (32 : Int32)) K dX8_init_868 (by decide) ?_
  obtain ⟨S870, e870, h⟩ := bd h
  refine j_aP K dX8_init_870 e870 ?_
  refine j_dup K dX8_init_871 rfl ?_
  refine j_bipush (v := (86 : Int32)) K dX8_init_872 (by decide) ?_
  refine j_bipush (v := (32 : Int32)) K dX8_init_874 (by decide) ?_
  obtain ⟨S876, e876, h⟩ := bd h
  refine j_aP K dX8_init_876 e876 ?_
  refine j_dup K dX8_init_877 rfl ?_
  refine j_bipush (v := (87 : Int32)) K dX8_init_878 (by decide) ?_
  refine j_bipush (v := (32 : Int32)) K dX8_init_880 (by decide) ?_
  obtain ⟨S882, e882, h⟩ := bd h
  refine j_aP K dX8_init_882 e882 ?_
  refine j_dup K dX8_init_883 rfl ?_
  refine j_bipush (v := (88 : Int32)) K dX8_init_884 (by decide) ?_
  refine j_bipush (v := (110 : Int32)) K dX8_init_886 (by decide) ?_
  obtain ⟨S888, e888, h⟩ := bd h
  refine j_aP K dX8_init_888 e888 ?_
  refine j_dup K dX8_init_889 rfl ?_
  refine j_bipush (v := (89 : Int32)) K dX8_init_890 (by decide) ?_
  refine j_bipush (v := (111 : Int32)) K dX8_init_892 (by decide) ?_
  obtain ⟨S894, e894, h⟩ := bd h
  refine j_aP K dX8_init_894 e894 ?_
  refine j_dup K dX8_init_895 rfl ?_
  refine j_bipush (v := (90 : Int32)) K dX8_init_896 (by decide) ?_
  refine j_bipush (v := (116 : Int32)) K dX8_init_898 (by decide) ?_
  obtain ⟨S900, e900, h⟩ := bd h
  refine j_aP K dX8_init_900 e900 ?_
  refine j_dup K dX8_init_901 rfl ?_
  refine j_bipush (v := (91 : Int32)) K dX8_init_902 (by decide) ?_
  refine j_bipush (v := (32 : Int32)) K dX8_init_904 (by decide) ?_
  obtain ⟨S906, e906, h⟩ := bd h
  refine j_aP K dX8_init_906 e906 ?_
  refine j_dup K dX8_init_907 rfl ?_
  refine j_bipush (v := (92 : Int32)) K dX8_init_908 (by decide) ?_
  refine j_bipush (v := (32 : Int32)) K dX8_init_910 (by decide) ?_
  obtain ⟨S912, e912, h⟩ := bd h
  refine j_aP K dX8_init_912 e912 ?_
  refine j_dup K dX8_init_913 rfl ?_
  refine j_bipush (v := (93 : Int32)) K dX8_init_914 (by decide) ?_
  refine j_bipush (v := (32 : Int32)) K dX8_init_916 (by decide) ?_
  obtain ⟨S918, e918, h⟩ := bd h
  refine j_aP K dX8_init_918 e918 ?_
  refine j_dup K dX8_init_919 rfl ?_
  refine j_bipush (v := (94 : Int32)) K dX8_init_920 (by decide) ?_
  refine j_bipush (v := (32 : Int32)) K dX8_init_922 (by decide) ?_
  obtain ⟨S924, e924, h⟩ := bd h
  refine j_aP K dX8_init_924 e924 ?_
  refine j_dup K dX8_init_925 rfl ?_
  refine j_bipush (v := (95 : Int32)) K dX8_init_926 (by decide) ?_
  refine j_bipush (v := (32 : Int32)) K dX8_init_928 (by decide) ?_
  obtain ⟨S930, e930, h⟩ := bd h
  refine j_aP K dX8_init_930 e930 ?_
  obtain ⟨S931, e931, h⟩ := bd h
  refine fpX8_55 X.2.2.2.1 K dX8_init_931 e931 ?_
  refine j_aload_n K dX8_init_934 rfl 0 rfl ?_
  refine j_sipush (v := (200 : Int32)) K dX8_init_935 (by decide) ?_
  obtain ⟨u938, e938, h⟩ := bd h
  obtain ⟨S938, g938, h⟩ := bd h
  refine j_nA (M := 200) K dX8_init_938 z88 (by decide) ⟨Nat.le_of_ble_eq_true rfl, Nat.le_of_ble_eq_true rfl⟩ rfl e938 g938 (fun ad938 a938 => ?_)
  have he938 := heX e938 a938 he359
  obtain ⟨S940, e940, h⟩ := bd h
  refine fpX8_58 X.2.2.2.1 K dX8_init_940 e940 ?_
  refine j_aload_n K dX8_init_943 rfl 0 rfl ?_
  refine j_sipush (v := (200 : Int32)) K dX8_init_944 (by decide) ?_
  obtain ⟨u947, e947, h⟩ := bd h
  obtain ⟨S947, g947, h⟩ := bd h
  refine j_nA (M := 200) K dX8_init_947 z88 (by decide) ⟨Nat.le_of_ble_eq_true rfl, Nat.le_of_ble_eq_true rfl⟩ rfl e947 g947 (fun ad947 a947 => ?_)
  have he947 := heX e947 a947 he938
  obtain ⟨S949, e949, h⟩ := bd h
  refine fpX8_61 X.2.2.2.1 K dX8_init_949 e949 ?_
  refine j_aload_n K dX8_init_952 rfl 0 rfl ?_
  refine j_bipush (v := (6 : Int32)) K dX8_init_953 (by decide) ?_
  obtain ⟨u955, e955, h⟩ := bd h
  obtain ⟨S955, g955, h⟩ := bd h
  refine j_nA (M := 6) K dX8_init_955 z88 (by decide) ⟨Nat.le_of_ble_eq_true rfl, Nat.le_of_ble_eq_true rfl⟩ rfl e955 g955 (fun ad955 a955 => ?_)
  have he955 := heX e955 a955 he947
  obtain ⟨S957, e957, h⟩ := bd h
  refine fpX8_64 X.2.2.2.1 K dX8_init_957 e957 ?_
  refine j_aload_n K dX8_init_960 rfl 0 rfl ?_
  refine j_bipush (v := (6 : Int32)) K dX8_init_961 (by decide) ?_
  obtain ⟨u963, e963, h⟩ := bd h
  obtain ⟨S963, g963, h⟩ := bd h
  refine j_nA (M := 6) K dX8_init_963 z88 (by decide) ⟨Nat.le_of_ble_eq_true rfl, Nat.le_of_ble_eq_true rfl⟩ rfl e963 g963 (fun ad963 a963 => ?_)
  have he963 := heX e963 a963 he955
  obtain ⟨S965, e965, h⟩ := bd h
  refine fpX8_67 X.2.2.2.1 K dX8_init_965 e965 ?_
  refine j_aload_n K dX8_init_968 rfl 0 rfl ?_
  refine j_bipush (v := (10 : Int32)) K dX8_init_969 (by decide) ?_
  obtain ⟨u971, e971, h⟩ := bd h
  obtain ⟨S971, g971, h⟩ := bd h
  refine j_nA (M := 10) K dX8_init_971 z88 (by decide) ⟨Nat.le_of_ble_eq_true rfl, Nat.le_of_ble_eq_true rfl⟩ rfl e971 g971 (fun ad971 a971 => ?_)
  have he971 := heX e971 a971 he963
  obtain ⟨S973, e973, h⟩ := bd h
  refine fpX8_70 X.2.2.2.1 K dX8_init_973 e973 ?_
  refine j_aload_n K dX8_init_976 rfl 0 rfl ?_
  refine j_bipush (v := (31 : Int32)) K dX8_init_977 (by decide) ?_
  obtain ⟨u979, e979, h⟩ := bd h
  obtain ⟨S979, g979, h⟩ := bd h
  refine j_nA (M := 31) K dX8_init_979 z88 (by decide) ⟨Nat.le_of_ble_eq_true rfl, Nat.le_of_ble_eq_true rfl⟩ rfl e979 g979 (fun ad979 a979 => ?_)
  have he979 := heX e979 a979 he971
  obtain ⟨S981, e981, h⟩ := bd h
  refine fpX8_73 X.2.2.2.1 K dX8_init_981 e981 ?_
  refine j_iconst (v := (0 : Int32)) K dX8_init_984 (by decide) ?_
  refine j_istore_n (lv' := [(1, vI (0 : Int32)), (0, vR (some o))]) K dX8_init_985 rfl X.2.2.1 (by decide) rfl ?_
  exact j_sub [1, 0] rfl (w_X8_init_986 K X _ _ _ _ he979 h)
theorem c_X8_init {l : Launch} {fu : Nat} {S : Hp} {o : Nat} {res : Hp} (h : F_X8_init fu S o = some res) : Ct l yX8_init cX8_init 2 none (rmd 5 22 2238) 22 2238 [vR (some o)] S (QVa S.1 res) :=
  z_entry (by decide +kernel) (Nat.le_of_ble_eq_true rfl) (fun E ad K X => w_X8_init K X h)

theorem dX8_within_0 : decode cX8_within 0 = .ok (.iload_n 0, 1) ∧ 0 + 1 = 1 := ⟨by decide +kernel, rfl⟩
theorem dX8_within_1 : decode cX8_within 1 = .ok (.iload_n 1, 1) ∧ 1 + 1 = 2 := ⟨by decide +kernel, rfl⟩
theorem dX8_within_2 : decode cX8_within 2 = .ok (.if_icmp .ge 7, 3) ∧ 2 + 3 = 5 ∧ ((2 : Nat) : Int) + (7) = ((9 : Nat) : Int) := ⟨by decide +kernel, rfl, by decide⟩
theorem dX8_within_5 : decode cX8_within 5 = .ok (.iload_n 1, 1) ∧ 5 + 1 = 6 := ⟨by decide +kernel, rfl⟩
theorem dX8_within_6 : decode cX8_within 6 = .ok (.goto 13, 3) ∧ ((6 : Nat) : Int) + (13) = ((19 : Nat) : Int) := ⟨by decide +kernel, by decide⟩
theorem dX8_within_9 : decode cX8_within 9 = .ok (.iload_n 0, 1) ∧ 9 + 1 = 10 := ⟨by decide +kernel, rfl⟩
theorem dX8_within_10 : decode cX8_within 10 = .ok (.iload_n 2, 1) ∧ 10 + 1 = 11 := ⟨by decide +kernel, rfl⟩
theorem dX8_within_11 : decode cX8_within 11 = .ok (.if_icmp .le 7, 3) ∧ 11 + 3 = 14 ∧ ((11 : Nat) : Int) + (7) = ((18 : Nat) : Int) := ⟨by decide +kernel, rfl, by decide⟩
theorem dX8_within_14 : decode cX8_within 14 = .ok (.iload_n 2, 1) ∧ 14 + 1 = 15 := ⟨by decide +kernel, rfl⟩
theorem dX8_within_15 : decode cX8_within 15 = .ok (.goto 4, 3) ∧ ((15 : Nat) : Int) + (4) = ((19 : Nat) : Int) := ⟨by decide +kernel, by decide⟩
theorem dX8_within_18 : decode cX8_within 18 = .ok (.iload_n 0, 1) ∧ 18 + 1 = 19 := ⟨by decide +kernel, rfl⟩
theorem dX8_within_19 : decode cX8_within 19 = .ok (.ireturn, 1) := by decide +kernel
def B_X8_within_19 (S : Hp) (s0 : Int32) : Option (Int32 × Hp) :=
  some (s0, S)
set_option maxRecDepth 100000 in
set_option maxHeartbeats 4000000 in
theorem w_X8_within_19 {E : Cx} {l : Launch} {res : Int32 × Hp} {ad : Nat → Nat} {S : Hp} {s0 : Int32} (K : Kx E cX8_within RX8 (rmd 0 0 0)) (X : Bx E l yX8_within 3 (some .int) 0 0 ad (QI res)) (h : B_X8_within_19 S s0 = some res) : J E 0 0 19 [] [vI s0] S ad := by
  exact j_iret K X dX8_within_19 h
def F_X8_within (S : Hp) (x0 : Int32) (x1 : Int32) (x2 : Int32) : Option (Int32 × Hp) :=
  if x1 ≤ x0 then
    if x0 ≤ x2 then
      B_X8_within_19 S x0
    else
      B_X8_within_19 S x2
  else
    B_X8_within_19 S x1
set_option maxRecDepth 100000 in
set_option maxHeartbeats 4000000 in
theorem w_X8_within {E : Cx} {l : Launch} {res : Int32 × Hp} {ad : Nat → Nat} {S : Hp} {x0 : Int32} {x1 : Int32} {x2 : Int32} (K : Kx E cX8_within RX8 (rmd 0 0 0)) (X : Bx E l yX8_within 3 (some .int) 0 0 ad (QI res)) (h : F_X8_within S x0 x1 x2 = some res) : J E 0 0 0 [(0, vI x0), (1, vI x1), (2, vI x2)] [] S ad := by
  refine j_iload_n K dX8_within_0 rfl 0 rfl ?_
  refine j_iload_n K dX8_within_1 rfl 1 rfl ?_
  refine j_icmp_ge K dX8_within_2 (fun c2 => ?_) (fun c2 => ?_)
  · replace h := it c2 h
    refine j_iload_n K dX8_within_9 rfl 0 rfl ?_
    refine j_iload_n K dX8_within_10 rfl 2 rfl ?_
    refine j_icmp_le K dX8_within_11 (fun c11 => ?_) (fun c11 => ?_)
    · replace h := it c11 h
      refine j_iload_n K dX8_within_18 rfl 0 rfl ?_
      exact j_sub [] rfl (w_X8_within_19 K X h)
    · replace h := ie c11 h
      refine j_iload_n K dX8_within_14 rfl 2 rfl ?_
      refine j_goto K dX8_within_15 ?_
      exact j_sub [] rfl (w_X8_within_19 K X h)
  · replace h := ie c2 h
    refine j_iload_n K dX8_within_5 rfl 1 rfl ?_
    refine j_goto K dX8_within_6 ?_
    exact j_sub [] rfl (w_X8_within_19 K X h)
theorem c_X8_within {l : Launch} {S : Hp} {x0 : Int32} {x1 : Int32} {x2 : Int32} {res : Int32 × Hp} (h : F_X8_within S x0 x1 x2 = some res) : Ct l yX8_within cX8_within 3 (some .int) (rmd 0 0 0) 0 0 [vI x0, vI x1, vI x2] S (QI res) :=
  z_entry (by decide +kernel) (Nat.le_of_ble_eq_true rfl) (fun E ad K X => w_X8_within K X h)

theorem dX8_bitsOf_0 : decode cX8_bitsOf 0 = .ok (.iconst 0, 1) ∧ 0 + 1 = 1 := ⟨by decide +kernel, rfl⟩
theorem dX8_bitsOf_1 : decode cX8_bitsOf 1 = .ok (.istore_n 1, 1) ∧ 1 + 1 = 2 := ⟨by decide +kernel, rfl⟩
theorem dX8_bitsOf_2 : decode cX8_bitsOf 2 = .ok (.iconst 0, 1) ∧ 2 + 1 = 3 := ⟨by decide +kernel, rfl⟩
theorem dX8_bitsOf_3 : decode cX8_bitsOf 3 = .ok (.istore_n 2, 1) ∧ 3 + 1 = 4 := ⟨by decide +kernel, rfl⟩
theorem dX8_bitsOf_4 : decode cX8_bitsOf 4 = .ok (.iload_n 2, 1) ∧ 4 + 1 = 5 := ⟨by decide +kernel, rfl⟩
theorem dX8_bitsOf_5 : decode cX8_bitsOf 5 = .ok (.bipush 10, 2) ∧ 5 + 2 = 7 := ⟨by decide +kernel, rfl⟩
theorem dX8_bitsOf_7 : decode cX8_bitsOf 7 = .ok (.if_icmp .ge 17, 3) ∧ 7 + 3 = 10 ∧ ((7 : Nat) : Int) + (17) = ((24 : Nat) : Int) := ⟨by decide +kernel, rfl, by decide⟩
theorem dX8_bitsOf_10 : decode cX8_bitsOf 10 = .ok (.iload_n 1, 1) ∧ 10 + 1 = 11 := ⟨by decide +kernel, rfl⟩
theorem dX8_bitsOf_11 : decode cX8_bitsOf 11 = .ok (.iload_n 0, 1) ∧ 11 + 1 = 12 := ⟨by decide +kernel, rfl⟩
theorem dX8_bitsOf_12 : decode cX8_bitsOf 12 = .ok (.iload_n 2, 1) ∧ 12 + 1 = 13 := ⟨by decide +kernel, rfl⟩
theorem dX8_bitsOf_13 : decode cX8_bitsOf 13 = .ok (.ishr, 1) ∧ 13 + 1 = 14 := ⟨by decide +kernel, rfl⟩
theorem dX8_bitsOf_14 : decode cX8_bitsOf 14 = .ok (.iconst 1, 1) ∧ 14 + 1 = 15 := ⟨by decide +kernel, rfl⟩
theorem dX8_bitsOf_15 : decode cX8_bitsOf 15 = .ok (.iand, 1) ∧ 15 + 1 = 16 := ⟨by decide +kernel, rfl⟩
theorem dX8_bitsOf_16 : decode cX8_bitsOf 16 = .ok (.iadd, 1) ∧ 16 + 1 = 17 := ⟨by decide +kernel, rfl⟩
theorem dX8_bitsOf_17 : decode cX8_bitsOf 17 = .ok (.istore_n 1, 1) ∧ 17 + 1 = 18 := ⟨by decide +kernel, rfl⟩
theorem dX8_bitsOf_18 : decode cX8_bitsOf 18 = .ok (.iinc 2 1, 3) ∧ 18 + 3 = 21 := ⟨by decide +kernel, rfl⟩
theorem dX8_bitsOf_21 : decode cX8_bitsOf 21 = .ok (.goto (-17), 3) ∧ ((21 : Nat) : Int) + (-17) = ((4 : Nat) : Int) := ⟨by decide +kernel, by decide⟩
theorem dX8_bitsOf_24 : decode cX8_bitsOf 24 = .ok (.iload_n 1, 1) ∧ 24 + 1 = 25 := ⟨by decide +kernel, rfl⟩
theorem dX8_bitsOf_25 : decode cX8_bitsOf 25 = .ok (.ireturn, 1) := by decide +kernel
def L_X8_bitsOf_4 (k4 : Hp → Int32 → Int32 → Option (Int32 × Hp)) (fu : Nat) (x0 : Int32) (S : Hp) (x1 : Int32) (x2 : Int32) : Option (Int32 × Hp) :=
  if (10 : Int32) ≤ x2 then
    some (x1, S)
  else
    k4 S (x1 + ((x0 >>> (x2 &&& 31)) &&& (1 : Int32))) (x2 + (1 : Int32))
set_option maxRecDepth 100000 in
set_option maxHeartbeats 4000000 in
theorem wl_X8_bitsOf_4 {E : Cx} {l : Launch} {res : Int32 × Hp} {ad : Nat → Nat} {k4 : Hp → Int32 → Int32 → Option (Int32 × Hp)} {fu : Nat} {S : Hp} {x0 : Int32} {x1 : Int32} {x2 : Int32} (K : Kx E cX8_bitsOf RX8 (rmd 0 0 0)) (X : Bx E l yX8_bitsOf 3 (some .int) 0 0 ad (QI res)) (hk4 : ∀ (S : Hp) (x1 : Int32) (x2 : Int32), k4 S x1 x2 = some res → J E 0 0 4 [(0, vI x0), (1, vI x1), (2, vI x2)] [] S ad) (h : L_X8_bitsOf_4 k4 fu x0 S x1 x2 = some res) : J E 0 0 4 [(0, vI x0), (1, vI x1), (2, vI x2)] [] S ad := by
  refine j_iload_n K dX8_bitsOf_4 rfl 2 rfl ?_
  refine j_bipush (v := (10 : Int32)) K dX8_bitsOf_5 (by decide) ?_
  refine j_icmp_ge K dX8_bitsOf_7 (fun c7 => ?_) (fun c7 => ?_)
  · replace h := it c7 h
    refine j_iload_n K dX8_bitsOf_24 rfl 1 rfl ?_
    exact j_iret K X dX8_bitsOf_25 h
  · replace h := ie c7 h
    refine j_iload_n K dX8_bitsOf_10 rfl 1 rfl ?_
    refine j_iload_n K dX8_bitsOf_11 rfl 0 rfl ?_
    refine j_iload_n K dX8_bitsOf_12 rfl 2 rfl ?_
    refine j_ishr K dX8_bitsOf_13 ?_
    refine j_iconst (v := (1 : Int32)) K dX8_bitsOf_14 (by decide) ?_
    refine j_iand K dX8_bitsOf_15 ?_
    refine j_iadd K dX8_bitsOf_16 ?_
    refine j_istore_n (lv' := [(1, vI (x1 + ((x0 >>> (x2 &&& 31)) &&& (1 : Int32)))), (0, vI x0), (2, vI x2)]) K dX8_bitsOf_17 rfl X.2.2.1 (by decide) rfl ?_
    refine j_iinc (q := 2) (v := (x2 + (1 : Int32))) (lv' := [(2, vI (x2 + (1 : Int32))), (1, vI (x1 + ((x0 >>> (x2 &&& 31)) &&& (1 : Int32)))), (0, vI x0)]) K dX8_bitsOf_18 rfl rfl X.2.2.1 (by decide) rfl ?_
    refine j_goto K dX8_bitsOf_21 ?_
    exact j_sub [2, 1, 0] rfl (hk4 _ _ _ h)
def B_X8_bitsOf_4 (fu : Nat) (x0 : Int32) : Nat → Hp → Int32 → Int32 → Option (Int32 × Hp)
  | 0 => fun _ _ _ => none
  | n + 1 => L_X8_bitsOf_4 (B_X8_bitsOf_4 fu x0 n) fu x0
theorem w_X8_bitsOf_4 {E : Cx} {l : Launch} {res : Int32 × Hp} {ad : Nat → Nat} {fu : Nat} {x0 : Int32} (K : Kx E cX8_bitsOf RX8 (rmd 0 0 0)) (X : Bx E l yX8_bitsOf 3 (some .int) 0 0 ad (QI res)) : ∀ (n : Nat) (S : Hp) (x1 : Int32) (x2 : Int32), B_X8_bitsOf_4 fu x0 n S x1 x2 = some res → J E 0 0 4 [(0, vI x0), (1, vI x1), (2, vI x2)] [] S ad := by
  intro n
  induction n with
  | zero =>
    intro S x1 x2 h
    cases h
  | succ n ih =>
    intro S x1 x2 h
    exact wl_X8_bitsOf_4 K X ih h
def F_X8_bitsOf (fu : Nat) (S : Hp) (x0 : Int32) : Option (Int32 × Hp) :=
  B_X8_bitsOf_4 fu x0 fu S (0 : Int32) (0 : Int32)
set_option maxRecDepth 100000 in
set_option maxHeartbeats 4000000 in
theorem w_X8_bitsOf {E : Cx} {l : Launch} {res : Int32 × Hp} {ad : Nat → Nat} {fu : Nat} {S : Hp} {x0 : Int32} (K : Kx E cX8_bitsOf RX8 (rmd 0 0 0)) (X : Bx E l yX8_bitsOf 3 (some .int) 0 0 ad (QI res)) (h : F_X8_bitsOf fu S x0 = some res) : J E 0 0 0 [(0, vI x0)] [] S ad := by
  refine j_iconst (v := (0 : Int32)) K dX8_bitsOf_0 (by decide) ?_
  refine j_istore_n (lv' := [(1, vI (0 : Int32)), (0, vI x0)]) K dX8_bitsOf_1 rfl X.2.2.1 (by decide) rfl ?_
  refine j_iconst (v := (0 : Int32)) K dX8_bitsOf_2 (by decide) ?_
  refine j_istore_n (lv' := [(2, vI (0 : Int32)), (1, vI (0 : Int32)), (0, vI x0)]) K dX8_bitsOf_3 rfl X.2.2.1 (by decide) rfl ?_
  exact j_sub [2, 1, 0] rfl (w_X8_bitsOf_4 K X _ _ _ _ h)
theorem c_X8_bitsOf {l : Launch} {fu : Nat} {S : Hp} {x0 : Int32} {res : Int32 × Hp} (h : F_X8_bitsOf fu S x0 = some res) : Ct l yX8_bitsOf cX8_bitsOf 3 (some .int) (rmd 0 0 0) 0 0 [vI x0] S (QI res) :=
  z_entry (by decide +kernel) (Nat.le_of_ble_eq_true rfl) (fun E ad K X => w_X8_bitsOf K X h)

theorem dX8_isOne_0 : decode cX8_isOne 0 = .ok (.iload_n 1, 1) ∧ 0 + 1 = 1 := ⟨by decide +kernel, rfl⟩
theorem dX8_isOne_1 : decode cX8_isOne 1 = .ok (.iconst 0, 1) ∧ 1 + 1 = 2 := ⟨by decide +kernel, rfl⟩
theorem dX8_isOne_2 : decode cX8_isOne 2 = .ok (.aload_n 0, 1) ∧ 2 + 1 = 3 := ⟨by decide +kernel, rfl⟩
theorem dX8_isOne_3 : decode cX8_isOne 3 = .ok (.getfield 84, 3) ∧ 3 + 3 = 6 := ⟨by decide +kernel, rfl⟩
theorem dX8_isOne_6 : decode cX8_isOne 6 = .ok (.iconst 1, 1) ∧ 6 + 1 = 7 := ⟨by decide +kernel, rfl⟩
theorem dX8_isOne_7 : decode cX8_isOne 7 = .ok (.isub, 1) ∧ 7 + 1 = 8 := ⟨by decide +kernel, rfl⟩
theorem dX8_isOne_8 : decode cX8_isOne 8 = .ok (.invokestatic 87, 3) := by decide +kernel
theorem dX8_isOne_11 : decode cX8_isOne 11 = .ok (.ireturn, 1) := by decide +kernel
def F_X8_isOne (S : Hp) (o : Nat) (x1 : Int32) : Option (Int32 × Hp) :=
  (gI S (some o) 6 0).bind fun v3 =>
  b2 (F_X8_in S x1 (0 : Int32) (v3 - (1 : Int32))) fun v8 S8 =>
  zb v8 S8
set_option maxRecDepth 100000 in
set_option maxHeartbeats 4000000 in
theorem w_X8_isOne {E : Cx} {l : Launch} {res : Int32 × Hp} {ad : Nat → Nat} {S : Hp} {o : Nat} {x1 : Int32} (K : Kx E cX8_isOne RX8 (rmd 1 0 0)) (X : Bx E l yX8_isOne 2 (some .boolean) 0 0 ad (QI res)) (h : F_X8_isOne S o x1 = some res) : J E 0 0 0 [(0, vR (some o)), (1, vI x1)] [] S ad := by
  refine j_iload_n K dX8_isOne_0 rfl 1 rfl ?_
  refine j_iconst (v := (0 : Int32)) K dX8_isOne_1 (by decide) ?_
  refine j_aload_n K dX8_isOne_2 rfl 0 rfl ?_
  obtain ⟨v3, e3, h⟩ := bd h
  refine fgX8_84 K dX8_isOne_3 e3 ?_
  refine j_iconst (v := (1 : Int32)) K dX8_isOne_6 (by decide) ?_
  refine j_isub K dX8_isOne_7 ?_
  obtain ⟨v8, S8, e8, h⟩ := bd2 h
  refine j_cI (st := []) K (r_S (vs := [vI x1, vI (0 : Int32), vI (v3 - (1 : Int32))]) (n := 3) K (c_X8_in e8) dX8_isOne_8 z812 z813 z13 z814 ⟨zd_X8_in, rfl, rfl, rfl, ⟨Nat.le_of_ble_eq_true rfl, Nat.le_of_ble_eq_true rfl⟩, Nat.le_of_ble_eq_true rfl, Nat.le_of_ble_eq_true rfl, Nat.le_of_ble_eq_true rfl⟩) rfl ?_
  exact j_zret K X dX8_isOne_11 h
theorem c_X8_isOne {l : Launch} {S : Hp} {o : Nat} {x1 : Int32} {res : Int32 × Hp} (h : F_X8_isOne S o x1 = some res) : Ct l yX8_isOne cX8_isOne 2 (some .boolean) (rmd 1 0 0) 0 0 [vR (some o), vI x1] S (QI res) :=
  z_entry (by decide +kernel) (Nat.le_of_ble_eq_true rfl) (fun E ad K X => w_X8_isOne K X h)

theorem dX8_isWrong_0 : decode cX8_isWrong 0 = .ok (.iload_n 1, 1) ∧ 0 + 1 = 1 := ⟨by decide +kernel, rfl⟩
theorem dX8_isWrong_1 : decode cX8_isWrong 1 = .ok (.iconst 0, 1) ∧ 1 + 1 = 2 := ⟨by decide +kernel, rfl⟩
theorem dX8_isWrong_2 : decode cX8_isWrong 2 = .ok (.aload_n 0, 1) ∧ 2 + 1 = 3 := ⟨by decide +kernel, rfl⟩
theorem dX8_isWrong_3 : decode cX8_isWrong 3 = .ok (.getfield 91, 3) ∧ 3 + 3 = 6 := ⟨by decide +kernel, rfl⟩
theorem dX8_isWrong_6 : decode cX8_isWrong 6 = .ok (.iconst 1, 1) ∧ 6 + 1 = 7 := ⟨by decide +kernel, rfl⟩
theorem dX8_isWrong_7 : decode cX8_isWrong 7 = .ok (.isub, 1) ∧ 7 + 1 = 8 := ⟨by decide +kernel, rfl⟩
theorem dX8_isWrong_8 : decode cX8_isWrong 8 = .ok (.invokestatic 87, 3) := by decide +kernel
theorem dX8_isWrong_11 : decode cX8_isWrong 11 = .ok (.ireturn, 1) := by decide +kernel
def F_X8_isWrong (S : Hp) (o : Nat) (x1 : Int32) : Option (Int32 × Hp) :=
  (gI S (some o) 6 7).bind fun v3 =>
  b2 (F_X8_in S x1 (0 : Int32) (v3 - (1 : Int32))) fun v8 S8 =>
  zb v8 S8
set_option maxRecDepth 100000 in
set_option maxHeartbeats 4000000 in
theorem w_X8_isWrong {E : Cx} {l : Launch} {res : Int32 × Hp} {ad : Nat → Nat} {S : Hp} {o : Nat} {x1 : Int32} (K : Kx E cX8_isWrong RX8 (rmd 1 0 0)) (X : Bx E l yX8_isWrong 2 (some .boolean) 0 0 ad (QI res)) (h : F_X8_isWrong S o x1 = some res) : J E 0 0 0 [(0, vR (some o)), (1, vI x1)] [] S ad := by
  refine j_iload_n K dX8_isWrong_0 rfl 1 rfl ?_
  refine j_iconst (v := (0 : Int32)) K dX8_isWrong_1 (by decide) ?_
  refine j_aload_n K dX8_isWrong_2 rfl 0 rfl ?_
  obtain ⟨v3, e3, h⟩ := bd h
  refine fgX8_91 K dX8_isWrong_3 e3 ?_
  refine j_iconst (v := (1 : Int32)) K dX8_isWrong_6 (by decide) ?_
  refine j_isub K dX8_isWrong_7 ?_
  obtain ⟨v8, S8, e8, h⟩ := bd2 h
  refine j_cI (st := []) K (r_S (vs := [vI x1, vI (0 : Int32), vI (v3 - (1 : Int32))]) (n := 3) K (c_X8_in e8) dX8_isWrong_8 z812 z813 z13 z814 ⟨zd_X8_in, rfl, rfl, rfl, ⟨Nat.le_of_ble_eq_true rfl, Nat.le_of_ble_eq_true rfl⟩, Nat.le_of_ble_eq_true rfl, Nat.le_of_ble_eq_true rfl, Nat.le_of_ble_eq_true rfl⟩) rfl ?_
  exact j_zret K X dX8_isWrong_11 h
theorem c_X8_isWrong {l : Launch} {S : Hp} {o : Nat} {x1 : Int32} {res : Int32 × Hp} (h : F_X8_isWrong S o x1 = some res) : Ct l yX8_isWrong cX8_isWrong 2 (some .boolean) (rmd 1 0 0) 0 0 [vR (some o), vI x1] S (QI res) :=
  z_entry (by decide +kernel) (Nat.le_of_ble_eq_true rfl) (fun E ad K X => w_X8_isWrong K X h)

theorem dX8_did_0 : decode cX8_did 0 = .ok (.aload_n 0, 1) ∧ 0 + 1 = 1 := ⟨by decide +kernel, rfl⟩
theorem dX8_did_1 : decode cX8_did 1 = .ok (.getfield 19, 3) ∧ 1 + 3 = 4 := ⟨by decide +kernel, rfl⟩
theorem dX8_did_4 : decode cX8_did 4 = .ok (.iload_n 2, 1) ∧ 4 + 1 = 5 := ⟨by decide +kernel, rfl⟩
theorem dX8_did_5 : decode cX8_did 5 = .ok (.iaload, 1) ∧ 5 + 1 = 6 := ⟨by decide +kernel, rfl⟩
theorem dX8_did_6 : decode cX8_did 6 = .ok (.iload_n 1, 1) ∧ 6 + 1 = 7 := ⟨by decide +kernel, rfl⟩
theorem dX8_did_7 : decode cX8_did 7 = .ok (.ishr, 1) ∧ 7 + 1 = 8 := ⟨by decide +kernel, rfl⟩
theorem dX8_did_8 : decode cX8_did 8 = .ok (.iconst 1, 1) ∧ 8 + 1 = 9 := ⟨by decide +kernel, rfl⟩
theorem dX8_did_9 : decode cX8_did 9 = .ok (.iand, 1) ∧ 9 + 1 = 10 := ⟨by decide +kernel, rfl⟩
theorem dX8_did_10 : decode cX8_did 10 = .ok (.iconst 1, 1) ∧ 10 + 1 = 11 := ⟨by decide +kernel, rfl⟩
theorem dX8_did_11 : decode cX8_did 11 = .ok (.if_icmp .ne 7, 3) ∧ 11 + 3 = 14 ∧ ((11 : Nat) : Int) + (7) = ((18 : Nat) : Int) := ⟨by decide +kernel, rfl, by decide⟩
theorem dX8_did_14 : decode cX8_did 14 = .ok (.iconst 1, 1) ∧ 14 + 1 = 15 := ⟨by decide +kernel, rfl⟩
theorem dX8_did_15 : decode cX8_did 15 = .ok (.goto 4, 3) ∧ ((15 : Nat) : Int) + (4) = ((19 : Nat) : Int) := ⟨by decide +kernel, by decide⟩
theorem dX8_did_18 : decode cX8_did 18 = .ok (.iconst 0, 1) ∧ 18 + 1 = 19 := ⟨by decide +kernel, rfl⟩
theorem dX8_did_19 : decode cX8_did 19 = .ok (.ireturn, 1) := by decide +kernel
def B_X8_did_19 (o : Nat) (S : Hp) (s0 : Int32) : Option (Int32 × Hp) :=
  zb s0 S
set_option maxRecDepth 100000 in
set_option maxHeartbeats 4000000 in
theorem w_X8_did_19 {E : Cx} {l : Launch} {res : Int32 × Hp} {ad : Nat → Nat} {o : Nat} {S : Hp} {s0 : Int32} (K : Kx E cX8_did RX8 (rmd 0 0 0)) (X : Bx E l yX8_did 3 (some .boolean) 0 0 ad (QI res)) (h : B_X8_did_19 o S s0 = some res) : J E 0 0 19 [] [vI s0] S ad := by
  exact j_zret K X dX8_did_19 h
def F_X8_did (S : Hp) (o : Nat) (x1 : Int32) (x2 : Int32) : Option (Int32 × Hp) :=
  (gR S (some o) 6 4).bind fun v1 =>
  (aG S v1 x2).bind fun v5 =>
  if ((v5 >>> (x1 &&& 31)) &&& (1 : Int32)) = (1 : Int32) then
    B_X8_did_19 o S (1 : Int32)
  else
    B_X8_did_19 o S (0 : Int32)
set_option maxRecDepth 100000 in
set_option maxHeartbeats 4000000 in
theorem w_X8_did {E : Cx} {l : Launch} {res : Int32 × Hp} {ad : Nat → Nat} {S : Hp} {o : Nat} {x1 : Int32} {x2 : Int32} (K : Kx E cX8_did RX8 (rmd 0 0 0)) (X : Bx E l yX8_did 3 (some .boolean) 0 0 ad (QI res)) (h : F_X8_did S o x1 x2 = some res) : J E 0 0 0 [(0, vR (some o)), (1, vI x1), (2, vI x2)] [] S ad := by
  refine j_aload_n K dX8_did_0 rfl 0 rfl ?_
  obtain ⟨v1, e1, h⟩ := bd h
  refine fgX8_19 K dX8_did_1 e1 ?_
  refine j_iload_n K dX8_did_4 rfl 2 rfl ?_
  obtain ⟨v5, e5, h⟩ := bd h
  refine j_aG K dX8_did_5 e5 ?_
  refine j_iload_n K dX8_did_6 rfl 1 rfl ?_
  refine j_ishr K dX8_did_7 ?_
  refine j_iconst (v := (1 : Int32)) K dX8_did_8 (by decide) ?_
  refine j_iand K dX8_did_9 ?_
  refine j_iconst (v := (1 : Int32)) K dX8_did_10 (by decide) ?_
  refine j_icmp_ne K dX8_did_11 (fun c11 => ?_) (fun c11 => ?_)
  · replace h := ie c11 h
    refine j_iconst (v := (0 : Int32)) K dX8_did_18 (by decide) ?_
    exact j_sub [] rfl (w_X8_did_19 K X h)
  · replace h := it c11 h
    refine j_iconst (v := (1 : Int32)) K dX8_did_14 (by decide) ?_
    refine j_goto K dX8_did_15 ?_
    exact j_sub [] rfl (w_X8_did_19 K X h)
theorem c_X8_did {l : Launch} {S : Hp} {o : Nat} {x1 : Int32} {x2 : Int32} {res : Int32 × Hp} (h : F_X8_did S o x1 x2 = some res) : Ct l yX8_did cX8_did 3 (some .boolean) (rmd 0 0 0) 0 0 [vR (some o), vI x1, vI x2] S (QI res) :=
  z_entry (by decide +kernel) (Nat.le_of_ble_eq_true rfl) (fun E ad K X => w_X8_did K X h)

theorem dX8_saw0_0 : decode cX8_saw0 0 = .ok (.aload_n 0, 1) ∧ 0 + 1 = 1 := ⟨by decide +kernel, rfl⟩
theorem dX8_saw0_1 : decode cX8_saw0 1 = .ok (.getfield 25, 3) ∧ 1 + 3 = 4 := ⟨by decide +kernel, rfl⟩
theorem dX8_saw0_4 : decode cX8_saw0 4 = .ok (.iload_n 2, 1) ∧ 4 + 1 = 5 := ⟨by decide +kernel, rfl⟩
theorem dX8_saw0_5 : decode cX8_saw0 5 = .ok (.iaload, 1) ∧ 5 + 1 = 6 := ⟨by decide +kernel, rfl⟩
theorem dX8_saw0_6 : decode cX8_saw0 6 = .ok (.iload_n 1, 1) ∧ 6 + 1 = 7 := ⟨by decide +kernel, rfl⟩
theorem dX8_saw0_7 : decode cX8_saw0 7 = .ok (.ishr, 1) ∧ 7 + 1 = 8 := ⟨by decide +kernel, rfl⟩
theorem dX8_saw0_8 : decode cX8_saw0 8 = .ok (.iconst 1, 1) ∧ 8 + 1 = 9 := ⟨by decide +kernel, rfl⟩
theorem dX8_saw0_9 : decode cX8_saw0 9 = .ok (.iand, 1) ∧ 9 + 1 = 10 := ⟨by decide +kernel, rfl⟩
theorem dX8_saw0_10 : decode cX8_saw0 10 = .ok (.iconst 1, 1) ∧ 10 + 1 = 11 := ⟨by decide +kernel, rfl⟩
theorem dX8_saw0_11 : decode cX8_saw0 11 = .ok (.if_icmp .ne 7, 3) ∧ 11 + 3 = 14 ∧ ((11 : Nat) : Int) + (7) = ((18 : Nat) : Int) := ⟨by decide +kernel, rfl, by decide⟩
theorem dX8_saw0_14 : decode cX8_saw0 14 = .ok (.iconst 1, 1) ∧ 14 + 1 = 15 := ⟨by decide +kernel, rfl⟩
theorem dX8_saw0_15 : decode cX8_saw0 15 = .ok (.goto 4, 3) ∧ ((15 : Nat) : Int) + (4) = ((19 : Nat) : Int) := ⟨by decide +kernel, by decide⟩
theorem dX8_saw0_18 : decode cX8_saw0 18 = .ok (.iconst 0, 1) ∧ 18 + 1 = 19 := ⟨by decide +kernel, rfl⟩
theorem dX8_saw0_19 : decode cX8_saw0 19 = .ok (.ireturn, 1) := by decide +kernel
def B_X8_saw0_19 (o : Nat) (S : Hp) (s0 : Int32) : Option (Int32 × Hp) :=
  zb s0 S
set_option maxRecDepth 100000 in
set_option maxHeartbeats 4000000 in
theorem w_X8_saw0_19 {E : Cx} {l : Launch} {res : Int32 × Hp} {ad : Nat → Nat} {o : Nat} {S : Hp} {s0 : Int32} (K : Kx E cX8_saw0 RX8 (rmd 0 0 0)) (X : Bx E l yX8_saw0 3 (some .boolean) 0 0 ad (QI res)) (h : B_X8_saw0_19 o S s0 = some res) : J E 0 0 19 [] [vI s0] S ad := by
  exact j_zret K X dX8_saw0_19 h
def F_X8_saw0 (S : Hp) (o : Nat) (x1 : Int32) (x2 : Int32) : Option (Int32 × Hp) :=
  (gR S (some o) 6 6).bind fun v1 =>
  (aG S v1 x2).bind fun v5 =>
  if ((v5 >>> (x1 &&& 31)) &&& (1 : Int32)) = (1 : Int32) then
    B_X8_saw0_19 o S (1 : Int32)
  else
    B_X8_saw0_19 o S (0 : Int32)
set_option maxRecDepth 100000 in
set_option maxHeartbeats 4000000 in
theorem w_X8_saw0 {E : Cx} {l : Launch} {res : Int32 × Hp} {ad : Nat → Nat} {S : Hp} {o : Nat} {x1 : Int32} {x2 : Int32} (K : Kx E cX8_saw0 RX8 (rmd 0 0 0)) (X : Bx E l yX8_saw0 3 (some .boolean) 0 0 ad (QI res)) (h : F_X8_saw0 S o x1 x2 = some res) : J E 0 0 0 [(0, vR (some o)), (1, vI x1), (2, vI x2)] [] S ad := by
  refine j_aload_n K dX8_saw0_0 rfl 0 rfl ?_
  obtain ⟨v1, e1, h⟩ := bd h
  refine fgX8_25 K dX8_saw0_1 e1 ?_
  refine j_iload_n K dX8_saw0_4 rfl 2 rfl ?_
  obtain ⟨v5, e5, h⟩ := bd h
  refine j_aG K dX8_saw0_5 e5 ?_
  refine j_iload_n K dX8_saw0_6 rfl 1 rfl ?_
  refine j_ishr K dX8_saw0_7 ?_
  refine j_iconst (v := (1 : Int32)) K dX8_saw0_8 (by decide) ?_
  refine j_iand K dX8_saw0_9 ?_
  refine j_iconst (v := (1 : Int32)) K dX8_saw0_10 (by decide) ?_
  refine j_icmp_ne K dX8_saw0_11 (fun c11 => ?_) (fun c11 => ?_)
  · replace h := ie c11 h
    refine j_iconst (v := (0 : Int32)) K dX8_saw0_18 (by decide) ?_
    exact j_sub [] rfl (w_X8_saw0_19 K X h)
  · replace h := it c11 h
    refine j_iconst (v := (1 : Int32)) K dX8_saw0_14 (by decide) ?_
    refine j_goto K dX8_saw0_15 ?_
    exact j_sub [] rfl (w_X8_saw0_19 K X h)
theorem c_X8_saw0 {l : Launch} {S : Hp} {o : Nat} {x1 : Int32} {x2 : Int32} {res : Int32 × Hp} (h : F_X8_saw0 S o x1 x2 = some res) : Ct l yX8_saw0 cX8_saw0 3 (some .boolean) (rmd 0 0 0) 0 0 [vR (some o), vI x1, vI x2] S (QI res) :=
  z_entry (by decide +kernel) (Nat.le_of_ble_eq_true rfl) (fun E ad K X => w_X8_saw0 K X h)

theorem dX8_count_0 : decode cX8_count 0 = .ok (.iload_n 1, 1) ∧ 0 + 1 = 1 := ⟨by decide +kernel, rfl⟩
theorem dX8_count_1 : decode cX8_count 1 = .ok (.tableswitch 69 0 5 #[39, 44, 49, 54, 59, 64], 39) := by decide +kernel
theorem dX8_count_40 : decode cX8_count 40 = .ok (.aload_n 0, 1) ∧ 40 + 1 = 41 := ⟨by decide +kernel, rfl⟩
theorem dX8_count_41 : decode cX8_count 41 = .ok (.getfield 84, 3) ∧ 41 + 3 = 44 := ⟨by decide +kernel, rfl⟩
theorem dX8_count_44 : decode cX8_count 44 = .ok (.ireturn, 1) := by decide +kernel
theorem dX8_count_45 : decode cX8_count 45 = .ok (.aload_n 0, 1) ∧ 45 + 1 = 46 := ⟨by decide +kernel, rfl⟩
theorem dX8_count_46 : decode cX8_count 46 = .ok (.getfield 91, 3) ∧ 46 + 3 = 49 := ⟨by decide +kernel, rfl⟩
theorem dX8_count_49 : decode cX8_count 49 = .ok (.ireturn, 1) := by decide +kernel
theorem dX8_count_50 : decode cX8_count 50 = .ok (.aload_n 0, 1) ∧ 50 + 1 = 51 := ⟨by decide +kernel, rfl⟩
theorem dX8_count_51 : decode cX8_count 51 = .ok (.getfield 94, 3) ∧ 51 + 3 = 54 := ⟨by decide +kernel, rfl⟩
theorem dX8_count_54 : decode cX8_count 54 = .ok (.ireturn, 1) := by decide +kernel
theorem dX8_count_55 : decode cX8_count 55 = .ok (.aload_n 0, 1) ∧ 55 + 1 = 56 := ⟨by decide +kernel, rfl⟩
theorem dX8_count_56 : decode cX8_count 56 = .ok (.getfield 97, 3) ∧ 56 + 3 = 59 := ⟨by decide +kernel, rfl⟩
theorem dX8_count_59 : decode cX8_count 59 = .ok (.ireturn, 1) := by decide +kernel
theorem dX8_count_60 : decode cX8_count 60 = .ok (.aload_n 0, 1) ∧ 60 + 1 = 61 := ⟨by decide +kernel, rfl⟩
theorem dX8_count_61 : decode cX8_count 61 = .ok (.getfield 100, 3) ∧ 61 + 3 = 64 := ⟨by decide +kernel, rfl⟩
theorem dX8_count_64 : decode cX8_count 64 = .ok (.ireturn, 1) := by decide +kernel
theorem dX8_count_65 : decode cX8_count 65 = .ok (.aload_n 0, 1) ∧ 65 + 1 = 66 := ⟨by decide +kernel, rfl⟩
theorem dX8_count_66 : decode cX8_count 66 = .ok (.getfield 76, 3) ∧ 66 + 3 = 69 := ⟨by decide +kernel, rfl⟩
theorem dX8_count_69 : decode cX8_count 69 = .ok (.ireturn, 1) := by decide +kernel
theorem dX8_count_70 : decode cX8_count 70 = .ok (.bipush (-2), 2) ∧ 70 + 2 = 72 := ⟨by decide +kernel, rfl⟩
theorem dX8_count_72 : decode cX8_count 72 = .ok (.ireturn, 1) := by decide +kernel
def F_X8_count (S : Hp) (o : Nat) (x1 : Int32) : Option (Int32 × Hp) :=
  if x1 = 0 then
    (gI S (some o) 6 0).bind fun v41 =>
    some (v41, S)
  else
  if x1 = 1 then
    (gI S (some o) 6 7).bind fun v46 =>
    some (v46, S)
  else
  if x1 = 2 then
    (gI S (some o) 6 8).bind fun v51 =>
    some (v51, S)
  else
  if x1 = 3 then
    (gI S (some o) 6 13).bind fun v56 =>
    some (v56, S)
  else
  if x1 = 4 then
    (gI S (some o) 6 14).bind fun v61 =>
    some (v61, S)
  else
  if x1 = 5 then
    (gI S (some o) 6 10).bind fun v66 =>
    some (v66, S)
  else
  some ((-2 : Int32), S)
set_option maxRecDepth 100000 in
set_option maxHeartbeats 4000000 in
theorem w_X8_count {E : Cx} {l : Launch} {res : Int32 × Hp} {ad : Nat → Nat} {S : Hp} {o : Nat} {x1 : Int32} (K : Kx E cX8_count RX8 (rmd 0 0 0)) (X : Bx E l yX8_count 2 (some .int) 0 0 ad (QI res)) (h : F_X8_count S o x1 = some res) : J E 0 0 0 [(0, vR (some o)), (1, vI x1)] [] S ad := by
  refine j_iload_n K dX8_count_0 rfl 1 rfl ?_
  by_cases c1_0 : x1 = 0
  · replace h := it c1_0 h
    have t1 : x1.toInt = 0 := by rw [c1_0]; rfl
    refine j_tin (tgt := 40) K dX8_count_1 (by rw [t1]; decide) (by rw [t1]; decide) (by rw [t1]; rfl) (by decide) ?_
    refine j_aload_n K dX8_count_40 rfl 0 rfl ?_
    obtain ⟨v41, e41, h⟩ := bd h
    refine fgX8_84 K dX8_count_41 e41 ?_
    exact j_iret K X dX8_count_44 h
  replace h := ie c1_0 h
  by_cases c1_1 : x1 = 1
  · replace h := it c1_1 h
    have t1 : x1.toInt = 1 := by rw [c1_1]; rfl
    refine j_tin (tgt := 45) K dX8_count_1 (by rw [t1]; decide) (by rw [t1]; decide) (by rw [t1]; rfl) (by decide) ?_
    refine j_aload_n K dX8_count_45 rfl 0 rfl ?_
    obtain ⟨v46, e46, h⟩ := bd h
    refine fgX8_91 K dX8_count_46 e46 ?_
    exact j_iret K X dX8_count_49 h
  replace h := ie c1_1 h
  by_cases c1_2 : x1 = 2
  · replace h := it c1_2 h
    have t1 : x1.toInt = 2 := by rw [c1_2]; rfl
    refine j_tin (tgt := 50) K dX8_count_1 (by rw [t1]; decide) (by rw [t1]; decide) (by rw [t1]; rfl) (by decide) ?_
    refine j_aload_n K dX8_count_50 rfl 0 rfl ?_
    obtain ⟨v51, e51, h⟩ := bd h
    refine fgX8_94 K dX8_count_51 e51 ?_
    exact j_iret K X dX8_count_54 h
  replace h := ie c1_2 h
  by_cases c1_3 : x1 = 3
  · replace h := it c1_3 h
    have t1 : x1.toInt = 3 := by rw [c1_3]; rfl
    refine j_tin (tgt := 55) K dX8_count_1 (by rw [t1]; decide) (by rw [t1]; decide) (by rw [t1]; rfl) (by decide) ?_
    refine j_aload_n K dX8_count_55 rfl 0 rfl ?_
    obtain ⟨v56, e56, h⟩ := bd h
    refine fgX8_97 K dX8_count_56 e56 ?_
    exact j_iret K X dX8_count_59 h
  replace h := ie c1_3 h
  by_cases c1_4 : x1 = 4
  · replace h := it c1_4 h
    have t1 : x1.toInt = 4 := by rw [c1_4]; rfl
    refine j_tin (tgt := 60) K dX8_count_1 (by rw [t1]; decide) (by rw [t1]; decide) (by rw [t1]; rfl) (by decide) ?_
    refine j_aload_n K dX8_count_60 rfl 0 rfl ?_
    obtain ⟨v61, e61, h⟩ := bd h
    refine fgX8_100 K dX8_count_61 e61 ?_
    exact j_iret K X dX8_count_64 h
  replace h := ie c1_4 h
  by_cases c1_5 : x1 = 5
  · replace h := it c1_5 h
    have t1 : x1.toInt = 5 := by rw [c1_5]; rfl
    refine j_tin (tgt := 65) K dX8_count_1 (by rw [t1]; decide) (by rw [t1]; decide) (by rw [t1]; rfl) (by decide) ?_
    refine j_aload_n K dX8_count_65 rfl 0 rfl ?_
    obtain ⟨v66, e66, h⟩ := bd h
    refine fgX8_76 K dX8_count_66 e66 ?_
    exact j_iret K X dX8_count_69 h
  replace h := ie c1_5 h
  have t1_0 : x1.toInt ≠ 0 := swn rfl c1_0
  have t1_1 : x1.toInt ≠ 1 := swn rfl c1_1
  have t1_2 : x1.toInt ≠ 2 := swn rfl c1_2
  have t1_3 : x1.toInt ≠ 3 := swn rfl c1_3
  have t1_4 : x1.toInt ≠ 4 := swn rfl c1_4
  have t1_5 : x1.toInt ≠ 5 := swn rfl c1_5
  refine j_tout (tgt := 70) K dX8_count_1 (by omega) (by decide) ?_
  refine j_bipush (v := (-2 : Int32)) K dX8_count_70 (by decide) ?_
  exact j_iret K X dX8_count_72 h
theorem c_X8_count {l : Launch} {S : Hp} {o : Nat} {x1 : Int32} {res : Int32 × Hp} (h : F_X8_count S o x1 = some res) : Ct l yX8_count cX8_count 2 (some .int) (rmd 0 0 0) 0 0 [vR (some o), vI x1] S (QI res) :=
  z_entry (by decide +kernel) (Nat.le_of_ble_eq_true rfl) (fun E ad K X => w_X8_count K X h)
