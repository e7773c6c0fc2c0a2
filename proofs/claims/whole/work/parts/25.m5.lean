theorem dX8_byLots_0 : decode cX8_byLots 0 = .ok (.iload_n 1, 1) ∧ 0 + 1 = 1 := ⟨by decide +kernel, rfl⟩
theorem dX8_byLots_1 : decode cX8_byLots 1 = .ok (.i2l, 1) ∧ 1 + 1 = 2 := ⟨by decide +kernel, rfl⟩
theorem dX8_byLots_2 : decode cX8_byLots 2 = .ok (.lconst 1, 1) ∧ 2 + 1 = 3 := ⟨by decide +kernel, rfl⟩
theorem dX8_byLots_3 : decode cX8_byLots 3 = .ok (.ladd, 1) ∧ 3 + 1 = 4 := ⟨by decide +kernel, rfl⟩
theorem dX8_byLots_4 : decode cX8_byLots 4 = .ok (.lstore_n 2, 1) ∧ 4 + 1 = 5 := ⟨by decide +kernel, rfl⟩
theorem dX8_byLots_5 : decode cX8_byLots 5 = .ok (.iconst 0, 1) ∧ 5 + 1 = 6 := ⟨by decide +kernel, rfl⟩
theorem dX8_byLots_6 : decode cX8_byLots 6 = .ok (.istore 4, 2) ∧ 6 + 2 = 8 := ⟨by decide +kernel, rfl⟩
theorem dX8_byLots_8 : decode cX8_byLots 8 = .ok (.aload_n 0, 1) ∧ 8 + 1 = 9 := ⟨by decide +kernel, rfl⟩
theorem dX8_byLots_9 : decode cX8_byLots 9 = .ok (.invokevirtual 241, 3) := by decide +kernel
theorem dX8_byLots_12 : decode cX8_byLots 12 = .ok (.aload_n 0, 1) ∧ 12 + 1 = 13 := ⟨by decide +kernel, rfl⟩
theorem dX8_byLots_13 : decode cX8_byLots 13 = .ok (.iconst 0, 1) ∧ 13 + 1 = 14 := ⟨by decide +kernel, rfl⟩
theorem dX8_byLots_14 : decode cX8_byLots 14 = .ok (.putfield 91, 3) ∧ 14 + 3 = 17 := ⟨by decide +kernel, rfl⟩
theorem dX8_byLots_17 : decode cX8_byLots 17 = .ok (.iconst 0, 1) ∧ 17 + 1 = 18 := ⟨by decide +kernel, rfl⟩
theorem dX8_byLots_18 : decode cX8_byLots 18 = .ok (.istore 5, 2) ∧ 18 + 2 = 20 := ⟨by decide +kernel, rfl⟩
theorem dX8_byLots_20 : decode cX8_byLots 20 = .ok (.iload 5, 2) ∧ 20 + 2 = 22 := ⟨by decide +kernel, rfl⟩
theorem dX8_byLots_22 : decode cX8_byLots 22 = .ok (.bipush 6, 2) ∧ 22 + 2 = 24 := ⟨by decide +kernel, rfl⟩
theorem dX8_byLots_24 : decode cX8_byLots 24 = .ok (.if_icmp .ge 122, 3) ∧ 24 + 3 = 27 ∧ ((24 : Nat) : Int) + (122) = ((146 : Nat) : Int) := ⟨by decide +kernel, rfl, by decide⟩
theorem dX8_byLots_27 : decode cX8_byLots 27 = .ok (.aload_n 0, 1) ∧ 27 + 1 = 28 := ⟨by decide +kernel, rfl⟩
theorem dX8_byLots_28 : decode cX8_byLots 28 = .ok (.getfield 84, 3) ∧ 28 + 3 = 31 := ⟨by decide +kernel, rfl⟩
theorem dX8_byLots_31 : decode cX8_byLots 31 = .ok (.ifCond .le 115, 3) ∧ 31 + 3 = 34 ∧ ((31 : Nat) : Int) + (115) = ((146 : Nat) : Int) := ⟨by decide +kernel, rfl, by decide⟩
theorem dX8_byLots_34 : decode cX8_byLots 34 = .ok (.lload_n 2, 1) ∧ 34 + 1 = 35 := ⟨by decide +kernel, rfl⟩
theorem dX8_byLots_35 : decode cX8_byLots 35 = .ok (.ldc2_w 259, 3) ∧ 35 + 3 = 38 := ⟨by decide +kernel, rfl⟩
theorem dX8_byLots_38 : decode cX8_byLots 38 = .ok (.lmul, 1) ∧ 38 + 1 = 39 := ⟨by decide +kernel, rfl⟩
theorem dX8_byLots_39 : decode cX8_byLots 39 = .ok (.ldc2_w 261, 3) ∧ 39 + 3 = 42 := ⟨by decide +kernel, rfl⟩
theorem dX8_byLots_42 : decode cX8_byLots 42 = .ok (.lrem, 1) ∧ 42 + 1 = 43 := ⟨by decide +kernel, rfl⟩
theorem dX8_byLots_43 : decode cX8_byLots 43 = .ok (.lstore_n 2, 1) ∧ 43 + 1 = 44 := ⟨by decide +kernel, rfl⟩
theorem dX8_byLots_44 : decode cX8_byLots 44 = .ok (.lload_n 2, 1) ∧ 44 + 1 = 45 := ⟨by decide +kernel, rfl⟩
theorem dX8_byLots_45 : decode cX8_byLots 45 = .ok (.aload_n 0, 1) ∧ 45 + 1 = 46 := ⟨by decide +kernel, rfl⟩
theorem dX8_byLots_46 : decode cX8_byLots 46 = .ok (.getfield 84, 3) ∧ 46 + 3 = 49 := ⟨by decide +kernel, rfl⟩
theorem dX8_byLots_49 : decode cX8_byLots 49 = .ok (.i2l, 1) ∧ 49 + 1 = 50 := ⟨by decide +kernel, rfl⟩
theorem dX8_byLots_50 : decode cX8_byLots 50 = .ok (.lrem, 1) ∧ 50 + 1 = 51 := ⟨by decide +kernel, rfl⟩
theorem dX8_byLots_51 : decode cX8_byLots 51 = .ok (.l2i, 1) ∧ 51 + 1 = 52 := ⟨by decide +kernel, rfl⟩
theorem dX8_byLots_52 : decode cX8_byLots 52 = .ok (.istore 6, 2) ∧ 52 + 2 = 54 := ⟨by decide +kernel, rfl⟩
theorem dX8_byLots_54 : decode cX8_byLots 54 = .ok (.lload_n 2, 1) ∧ 54 + 1 = 55 := ⟨by decide +kernel, rfl⟩
theorem dX8_byLots_55 : decode cX8_byLots 55 = .ok (.ldc2_w 259, 3) ∧ 55 + 3 = 58 := ⟨by decide +kernel, rfl⟩
theorem dX8_byLots_58 : decode cX8_byLots 58 = .ok (.lmul, 1) ∧ 58 + 1 = 59 := ⟨by decide +kernel, rfl⟩
theorem dX8_byLots_59 : decode cX8_byLots 59 = .ok (.ldc2_w 261, 3) ∧ 59 + 3 = 62 := ⟨by decide +kernel, rfl⟩
theorem dX8_byLots_62 : decode cX8_byLots 62 = .ok (.lrem, 1) ∧ 62 + 1 = 63 := ⟨by decide +kernel, rfl⟩
theorem dX8_byLots_63 : decode cX8_byLots 63 = .ok (.lstore_n 2, 1) ∧ 63 + 1 = 64 := ⟨by decide +kernel, rfl⟩
theorem dX8_byLots_64 : decode cX8_byLots 64 = .ok (.lload_n 2, 1) ∧ 64 + 1 = 65 := ⟨by decide +kernel, rfl⟩
theorem dX8_byLots_65 : decode cX8_byLots 65 = .ok (.aload_n 0, 1) ∧ 65 + 1 = 66 := ⟨by decide +kernel, rfl⟩
theorem dX8_byLots_66 : decode cX8_byLots 66 = .ok (.getfield 84, 3) ∧ 66 + 3 = 69 := ⟨by decide +kernel, rfl⟩
theorem dX8_byLots_69 : decode cX8_byLots 69 = .ok (.i2l, 1) ∧ 69 + 1 = 70 := ⟨by decide +kernel, rfl⟩
theorem dX8_byLots_70 : decode cX8_byLots 70 = .ok (.lrem, 1) ∧ 70 + 1 = 71 := ⟨by decide +kernel, rfl⟩
theorem dX8_byLots_71 : decode cX8_byLots 71 = .ok (.l2i, 1) ∧ 71 + 1 = 72 := ⟨by decide +kernel, rfl⟩
theorem dX8_byLots_72 : decode cX8_byLots 72 = .ok (.istore 7, 2) ∧ 72 + 2 = 74 := ⟨by decide +kernel, rfl⟩
theorem dX8_byLots_74 : decode cX8_byLots 74 = .ok (.lload_n 2, 1) ∧ 74 + 1 = 75 := ⟨by decide +kernel, rfl⟩
theorem dX8_byLots_75 : decode cX8_byLots 75 = .ok (.ldc2_w 259, 3) ∧ 75 + 3 = 78 := ⟨by decide +kernel, rfl⟩
theorem dX8_byLots_78 : decode cX8_byLots 78 = .ok (.lmul, 1) ∧ 78 + 1 = 79 := ⟨by decide +kernel, rfl⟩
theorem dX8_byLots_79 : decode cX8_byLots 79 = .ok (.ldc2_w 261, 3) ∧ 79 + 3 = 82 := ⟨by decide +kernel, rfl⟩
theorem dX8_byLots_82 : decode cX8_byLots 82 = .ok (.lrem, 1) ∧ 82 + 1 = 83 := ⟨by decide +kernel, rfl⟩
theorem dX8_byLots_83 : decode cX8_byLots 83 = .ok (.lstore_n 2, 1) ∧ 83 + 1 = 84 := ⟨by decide +kernel, rfl⟩
theorem dX8_byLots_84 : decode cX8_byLots 84 = .ok (.aload_n 0, 1) ∧ 84 + 1 = 85 := ⟨by decide +kernel, rfl⟩
theorem dX8_byLots_85 : decode cX8_byLots 85 = .ok (.getfield 19, 3) ∧ 85 + 3 = 88 := ⟨by decide +kernel, rfl⟩
theorem dX8_byLots_88 : decode cX8_byLots 88 = .ok (.iload 5, 2) ∧ 88 + 2 = 90 := ⟨by decide +kernel, rfl⟩
theorem dX8_byLots_90 : decode cX8_byLots 90 = .ok (.iconst 1, 1) ∧ 90 + 1 = 91 := ⟨by decide +kernel, rfl⟩
theorem dX8_byLots_91 : decode cX8_byLots 91 = .ok (.iload 6, 2) ∧ 91 + 2 = 93 := ⟨by decide +kernel, rfl⟩
theorem dX8_byLots_93 : decode cX8_byLots 93 = .ok (.ishl, 1) ∧ 93 + 1 = 94 := ⟨by decide +kernel, rfl⟩
theorem dX8_byLots_94 : decode cX8_byLots 94 = .ok (.iastore, 1) ∧ 94 + 1 = 95 := ⟨by decide +kernel, rfl⟩
theorem dX8_byLots_95 : decode cX8_byLots 95 = .ok (.aload_n 0, 1) ∧ 95 + 1 = 96 := ⟨by decide +kernel, rfl⟩
theorem dX8_byLots_96 : decode cX8_byLots 96 = .ok (.getfield 25, 3) ∧ 96 + 3 = 99 := ⟨by decide +kernel, rfl⟩
theorem dX8_byLots_99 : decode cX8_byLots 99 = .ok (.iload 5, 2) ∧ 99 + 2 = 101 := ⟨by decide +kernel, rfl⟩
theorem dX8_byLots_101 : decode cX8_byLots 101 = .ok (.iload 6, 2) ∧ 101 + 2 = 103 := ⟨by decide +kernel, rfl⟩
theorem dX8_byLots_103 : decode cX8_byLots 103 = .ok (.iload 7, 2) ∧ 103 + 2 = 105 := ⟨by decide +kernel, rfl⟩
theorem dX8_byLots_105 : decode cX8_byLots 105 = .ok (.if_icmp .ne 7, 3) ∧ 105 + 3 = 108 ∧ ((105 : Nat) : Int) + (7) = ((112 : Nat) : Int) := ⟨by decide +kernel, rfl, by decide⟩
theorem dX8_byLots_108 : decode cX8_byLots 108 = .ok (.iconst 0, 1) ∧ 108 + 1 = 109 := ⟨by decide +kernel, rfl⟩
theorem dX8_byLots_109 : decode cX8_byLots 109 = .ok (.goto 7, 3) ∧ ((109 : Nat) : Int) + (7) = ((116 : Nat) : Int) := ⟨by decide +kernel, by decide⟩
theorem dX8_byLots_112 : decode cX8_byLots 112 = .ok (.iconst 1, 1) ∧ 112 + 1 = 113 := ⟨by decide +kernel, rfl⟩
theorem dX8_byLots_113 : decode cX8_byLots 113 = .ok (.iload 7, 2) ∧ 113 + 2 = 115 := ⟨by decide +kernel, rfl⟩
theorem dX8_byLots_115 : decode cX8_byLots 115 = .ok (.ishl, 1) ∧ 115 + 1 = 116 := ⟨by decide +kernel, rfl⟩
theorem dX8_byLots_116 : decode cX8_byLots 116 = .ok (.iastore, 1) ∧ 116 + 1 = 117 := ⟨by decide +kernel, rfl⟩
theorem dX8_byLots_117 : decode cX8_byLots 117 = .ok (.aload_n 0, 1) ∧ 117 + 1 = 118 := ⟨by decide +kernel, rfl⟩
theorem dX8_byLots_118 : decode cX8_byLots 118 = .ok (.getfield 22, 3) ∧ 118 + 3 = 121 := ⟨by decide +kernel, rfl⟩
theorem dX8_byLots_121 : decode cX8_byLots 121 = .ok (.iload 5, 2) ∧ 121 + 2 = 123 := ⟨by decide +kernel, rfl⟩
theorem dX8_byLots_123 : decode cX8_byLots 123 = .ok (.iconst 1, 1) ∧ 123 + 1 = 124 := ⟨by decide +kernel, rfl⟩
theorem dX8_byLots_124 : decode cX8_byLots 124 = .ok (.lload_n 2, 1) ∧ 124 + 1 = 125 := ⟨by decide +kernel, rfl⟩
theorem dX8_byLots_125 : decode cX8_byLots 125 = .ok (.ldc2_w 263, 3) ∧ 125 + 3 = 128 := ⟨by decide +kernel, rfl⟩
theorem dX8_byLots_128 : decode cX8_byLots 128 = .ok (.lrem, 1) ∧ 128 + 1 = 129 := ⟨by decide +kernel, rfl⟩
theorem dX8_byLots_129 : decode cX8_byLots 129 = .ok (.l2i, 1) ∧ 129 + 1 = 130 := ⟨by decide +kernel, rfl⟩
theorem dX8_byLots_130 : decode cX8_byLots 130 = .ok (.iadd, 1) ∧ 130 + 1 = 131 := ⟨by decide +kernel, rfl⟩
theorem dX8_byLots_131 : decode cX8_byLots 131 = .ok (.iastore, 1) ∧ 131 + 1 = 132 := ⟨by decide +kernel, rfl⟩
theorem dX8_byLots_132 : decode cX8_byLots 132 = .ok (.aload_n 0, 1) ∧ 132 + 1 = 133 := ⟨by decide +kernel, rfl⟩
theorem dX8_byLots_133 : decode cX8_byLots 133 = .ok (.iload 5, 2) ∧ 133 + 2 = 135 := ⟨by decide +kernel, rfl⟩
theorem dX8_byLots_135 : decode cX8_byLots 135 = .ok (.iconst 1, 1) ∧ 135 + 1 = 136 := ⟨by decide +kernel, rfl⟩
theorem dX8_byLots_136 : decode cX8_byLots 136 = .ok (.iadd, 1) ∧ 136 + 1 = 137 := ⟨by decide +kernel, rfl⟩
theorem dX8_byLots_137 : decode cX8_byLots 137 = .ok (.putfield 91, 3) ∧ 137 + 3 = 140 := ⟨by decide +kernel, rfl⟩
theorem dX8_byLots_140 : decode cX8_byLots 140 = .ok (.iinc 5 1, 3) ∧ 140 + 3 = 143 := ⟨by decide +kernel, rfl⟩
theorem dX8_byLots_143 : decode cX8_byLots 143 = .ok (.goto (-123), 3) ∧ ((143 : Nat) : Int) + (-123) = ((20 : Nat) : Int) := ⟨by decide +kernel, by decide⟩
theorem dX8_byLots_146 : decode cX8_byLots 146 = .ok (.iconst 0, 1) ∧ 146 + 1 = 147 := ⟨by decide +kernel, rfl⟩
theorem dX8_byLots_147 : decode cX8_byLots 147 = .ok (.istore 5, 2) ∧ 147 + 2 = 149 := ⟨by decide +kernel, rfl⟩
theorem dX8_byLots_149 : decode cX8_byLots 149 = .ok (.iload 5, 2) ∧ 149 + 2 = 151 := ⟨by decide +kernel, rfl⟩
theorem dX8_byLots_151 : decode cX8_byLots 151 = .ok (.aload_n 0, 1) ∧ 151 + 1 = 152 := ⟨by decide +kernel, rfl⟩
theorem dX8_byLots_152 : decode cX8_byLots 152 = .ok (.getfield 84, 3) ∧ 152 + 3 = 155 := ⟨by decide +kernel, rfl⟩
theorem dX8_byLots_155 : decode cX8_byLots 155 = .ok (.if_icmp .ge 37, 3) ∧ 155 + 3 = 158 ∧ ((155 : Nat) : Int) + (37) = ((192 : Nat) : Int) := ⟨by decide +kernel, rfl, by decide⟩
theorem dX8_byLots_158 : decode cX8_byLots 158 = .ok (.iload 4, 2) ∧ 158 + 2 = 160 := ⟨by decide +kernel, rfl⟩
theorem dX8_byLots_160 : decode cX8_byLots 160 = .ok (.aload_n 0, 1) ∧ 160 + 1 = 161 := ⟨by decide +kernel, rfl⟩
theorem dX8_byLots_161 : decode cX8_byLots 161 = .ok (.iload 5, 2) ∧ 161 + 2 = 163 := ⟨by decide +kernel, rfl⟩
theorem dX8_byLots_163 : decode cX8_byLots 163 = .ok (.aload_n 0, 1) ∧ 163 + 1 = 164 := ⟨by decide +kernel, rfl⟩
theorem dX8_byLots_164 : decode cX8_byLots 164 = .ok (.iload 5, 2) ∧ 164 + 2 = 166 := ⟨by decide +kernel, rfl⟩
theorem dX8_byLots_166 : decode cX8_byLots 166 = .ok (.invokevirtual 214, 3) := by decide +kernel
theorem dX8_byLots_169 : decode cX8_byLots 169 = .ok (.invokevirtual 217, 3) := by decide +kernel
theorem dX8_byLots_172 : decode cX8_byLots 172 = .ok (.ifCond .ne 7, 3) ∧ 172 + 3 = 175 ∧ ((172 : Nat) : Int) + (7) = ((179 : Nat) : Int) := ⟨by decide +kernel, rfl, by decide⟩
theorem dX8_byLots_175 : decode cX8_byLots 175 = .ok (.iconst 0, 1) ∧ 175 + 1 = 176 := ⟨by decide +kernel, rfl⟩
theorem dX8_byLots_176 : decode cX8_byLots 176 = .ok (.goto 7, 3) ∧ ((176 : Nat) : Int) + (7) = ((183 : Nat) : Int) := ⟨by decide +kernel, by decide⟩
theorem dX8_byLots_179 : decode cX8_byLots 179 = .ok (.iconst 1, 1) ∧ 179 + 1 = 180 := ⟨by decide +kernel, rfl⟩
theorem dX8_byLots_180 : decode cX8_byLots 180 = .ok (.iload 5, 2) ∧ 180 + 2 = 182 := ⟨by decide +kernel, rfl⟩
theorem dX8_byLots_182 : decode cX8_byLots 182 = .ok (.ishl, 1) ∧ 182 + 1 = 183 := ⟨by decide +kernel, rfl⟩
theorem dX8_byLots_183 : decode cX8_byLots 183 = .ok (.ior, 1) ∧ 183 + 1 = 184 := ⟨by decide +kernel, rfl⟩
theorem dX8_byLots_184 : decode cX8_byLots 184 = .ok (.istore 4, 2) ∧ 184 + 2 = 186 := ⟨by decide +kernel, rfl⟩
theorem dX8_byLots_186 : decode cX8_byLots 186 = .ok (.iinc 5 1, 3) ∧ 186 + 3 = 189 := ⟨by decide +kernel, rfl⟩
theorem dX8_byLots_189 : decode cX8_byLots 189 = .ok (.goto (-40), 3) ∧ ((189 : Nat) : Int) + (-40) = ((149 : Nat) : Int) := ⟨by decide +kernel, by decide⟩
theorem dX8_byLots_192 : decode cX8_byLots 192 = .ok (.aload_n 0, 1) ∧ 192 + 1 = 193 := ⟨by decide +kernel, rfl⟩
theorem dX8_byLots_193 : decode cX8_byLots 193 = .ok (.aload_n 0, 1) ∧ 193 + 1 = 194 := ⟨by decide +kernel, rfl⟩
theorem dX8_byLots_194 : decode cX8_byLots 194 = .ok (.invokevirtual 223, 3) := by decide +kernel
theorem dX8_byLots_197 : decode cX8_byLots 197 = .ok (.putfield 265, 3) ∧ 197 + 3 = 200 := ⟨by decide +kernel, rfl⟩
theorem dX8_byLots_200 : decode cX8_byLots 200 = .ok (.aload_n 0, 1) ∧ 200 + 1 = 201 := ⟨by decide +kernel, rfl⟩
theorem dX8_byLots_201 : decode cX8_byLots 201 = .ok (.invokevirtual 244, 3) := by decide +kernel
theorem dX8_byLots_204 : decode cX8_byLots 204 = .ok (.iload 4, 2) ∧ 204 + 2 = 206 := ⟨by decide +kernel, rfl⟩
theorem dX8_byLots_206 : decode cX8_byLots 206 = .ok (.ireturn, 1) := by decide +kernel
def B_X8_byLots_183 (k149 : Hp → Int32 → Int32 → Option (Int32 × Hp)) (fu : Nat) (o : Nat) (S : Hp) (x5 : Int32) (s0 : Int32) (s1 : Int32) : Option (Int32 × Hp) :=
  k149 S (s1 ||| s0) (x5 + (1 : Int32))
set_option maxRecDepth 100000 in
set_option maxHeartbeats 4000000 in
theorem w_X8_byLots_183 {E : Cx} {l : Launch} {res : Int32 × Hp} {ad : Nat → Nat} {k149 : Hp → Int32 → Int32 → Option (Int32 × Hp)} {fu : Nat} {o : Nat} {S : Hp} {x5 : Int32} {s0 : Int32} {s1 : Int32} (K : Kx E cX8_byLots RX8 (rmd 6 0 0)) (X : Bx E l yX8_byLots 8 (some .int) 0 0 ad (QI res)) (hk149 : ∀ (S : Hp) (x4 : Int32) (x5 : Int32), k149 S x4 x5 = some res → J E 0 0 149 [(0, vR (some o)), (4, vI x4), (5, vI x5)] [] S ad) (h : B_X8_byLots_183 k149 fu o S x5 s0 s1 = some res) : J E 0 0 183 [(0, vR (some o)), (5, vI x5)] [vI s0, vI s1] S ad := by
  refine j_ior K dX8_byLots_183 ?_
  refine j_istore (lv' := [(4, vI (s1 ||| s0)), (0, vR (some o)), (5, vI x5)]) K dX8_byLots_184 X.2.2.1 (by decide) rfl ?_
  refine j_iinc (q := 2) (v := (x5 + (1 : Int32))) (lv' := [(5, vI (x5 + (1 : Int32))), (4, vI (s1 ||| s0)), (0, vR (some o))]) K dX8_byLots_186 rfl rfl X.2.2.1 (by decide) rfl ?_
  refine j_goto K dX8_byLots_189 ?_
  exact j_sub [2, 1, 0] rfl (hk149 _ _ _ h)
def L_X8_byLots_149 (k149 : Hp → Int32 → Int32 → Option (Int32 × Hp)) (fu : Nat) (o : Nat) (S : Hp) (x4 : Int32) (x5 : Int32) : Option (Int32 × Hp) :=
  (gI S (some o) 6 0).bind fun v152 =>
  if v152 ≤ x5 then
    (ob S 6 (some o)).bind fun _ =>
    b2 (F_X8_beatsAll fu S o) fun v194 S194 =>
    (pI S194 (some o) 6 36 v194).bind fun S197 =>
    (ob S197 6 (some o)).bind fun _ =>
    (F_X8_lays fu S197 o).bind fun S201 =>
    some (x4, S201)
  else
    (ob S 6 (some o)).bind fun _ =>
    b2 (F_X8_beatsOf fu S o x5) fun v166 S166 =>
    (ob S166 6 (some o)).bind fun _ =>
    b2 (F_X8_caughtBy fu S166 o x5 v166) fun v169 S169 =>
    if v169 = 0 then
      B_X8_byLots_183 k149 fu o S169 x5 (0 : Int32) x4
    else
      B_X8_byLots_183 k149 fu o S169 x5 ((1 : Int32) <<< (x5 &&& 31)) x4
set_option maxRecDepth 100000 in
set_option maxHeartbeats 4000000 in
theorem wl_X8_byLots_149 {E : Cx} {l : Launch} {res : Int32 × Hp} {ad : Nat → Nat} {k149 : Hp → Int32 → Int32 → Option (Int32 × Hp)} {fu : Nat} {o : Nat} {S : Hp} {x4 : Int32} {x5 : Int32} (K : Kx E cX8_byLots RX8 (rmd 6 0 0)) (X : Bx E l yX8_byLots 8 (some .int) 0 0 ad (QI res)) (hk149 : ∀ (S : Hp) (x4 : Int32) (x5 : Int32), k149 S x4 x5 = some res → J E 0 0 149 [(0, vR (some o)), (4, vI x4), (5, vI x5)] [] S ad) (h : L_X8_byLots_149 k149 fu o S x4 x5 = some res) : J E 0 0 149 [(0, vR (some o)), (4, vI x4), (5, vI x5)] [] S ad := by
  refine j_iload K dX8_byLots_149 2 rfl ?_
  refine j_aload_n K dX8_byLots_151 rfl 0 rfl ?_
  obtain ⟨v152, e152, h⟩ := bd h
  refine fgX8_84 K dX8_byLots_152 e152 ?_
  refine j_icmp_ge K dX8_byLots_155 (fun c155 => ?_) (fun c155 => ?_)
  · replace h := it c155 h
    refine j_aload_n K dX8_byLots_192 rfl 0 rfl ?_
    refine j_aload_n K dX8_byLots_193 rfl 0 rfl ?_
    obtain ⟨w194, ew194, h⟩ := bd h
    have ho194 := obS ew194
    obtain ⟨v194, S194, e194, h⟩ := bd2 h
    refine j_cI (st := [vR (some o)]) K (r_V (vs := []) (n := 0) (o := o) K (c_X8_beatsAll e194) ho194 (by decide) rfl dX8_byLots_194 z1088 z1090 zs49 z13 z1091 ⟨zd_X8_beatsAll, rfl, rfl, rfl, ⟨Nat.le_of_ble_eq_true rfl, Nat.le_of_ble_eq_true rfl⟩, Nat.le_of_ble_eq_true rfl, Nat.le_of_ble_eq_true rfl, Nat.le_of_ble_eq_true rfl⟩) rfl ?_
    obtain ⟨S197, e197, h⟩ := bd h
    refine fpX8_265 K dX8_byLots_197 e197 ?_
    refine j_aload_n K dX8_byLots_200 rfl 0 rfl ?_
    obtain ⟨w201, ew201, h⟩ := bd h
    have ho201 := obS ew201
    obtain ⟨S201, e201, h⟩ := bd h
    refine j_cV (st := []) K (r_V (vs := []) (n := 0) (o := o) K (c_X8_lays e201) ho201 (by decide) rfl dX8_byLots_201 z1136 z1138 zs56 z13 z1139 ⟨zd_X8_lays, rfl, rfl, rfl, ⟨Nat.le_of_ble_eq_true rfl, Nat.le_of_ble_eq_true rfl⟩, Nat.le_of_ble_eq_true rfl, Nat.le_of_ble_eq_true rfl, Nat.le_of_ble_eq_true rfl⟩) rfl ?_
    refine j_iload K dX8_byLots_204 1 rfl ?_
    exact j_iret K X dX8_byLots_206 h
  · replace h := ie c155 h
    refine j_iload K dX8_byLots_158 1 rfl ?_
    refine j_aload_n K dX8_byLots_160 rfl 0 rfl ?_
    refine j_iload K dX8_byLots_161 2 rfl ?_
    refine j_aload_n K dX8_byLots_163 rfl 0 rfl ?_
    refine j_iload K dX8_byLots_164 2 rfl ?_
    obtain ⟨w166, ew166, h⟩ := bd h
    have ho166 := obS ew166
    obtain ⟨v166, S166, e166, h⟩ := bd2 h
    refine j_cI (st := [vI x5, vR (some o), vI x4]) K (r_V (vs := [vI x5]) (n := 1) (o := o) K (c_X8_beatsOf e166) ho166 (by decide) rfl dX8_byLots_166 z1052 z1054 zs41 z13 z1055 ⟨zd_X8_beatsOf, rfl, rfl, rfl, ⟨Nat.le_of_ble_eq_true rfl, Nat.le_of_ble_eq_true rfl⟩, Nat.le_of_ble_eq_true rfl, Nat.le_of_ble_eq_true rfl, Nat.le_of_ble_eq_true rfl⟩) rfl ?_
    obtain ⟨w169, ew169, h⟩ := bd h
    have ho169 := obS ew169
    obtain ⟨v169, S169, e169, h⟩ := bd2 h
    refine j_cI (st := [vI x4]) K (r_V (vs := [vI x5, vI v166]) (n := 2) (o := o) K (c_X8_caughtBy e169) ho169 (by decide) rfl dX8_byLots_169 z1060 z1062 zs43 z13 z1063 ⟨zd_X8_caughtBy, rfl, rfl, rfl, ⟨Nat.le_of_ble_eq_true rfl, Nat.le_of_ble_eq_true rfl⟩, Nat.le_of_ble_eq_true rfl, Nat.le_of_ble_eq_true rfl, Nat.le_of_ble_eq_true rfl⟩) rfl ?_
    refine j_if_ne K dX8_byLots_172 (fun c172 => ?_) (fun c172 => ?_)
    · replace h := ie c172 h
      refine j_iconst (v := (1 : Int32)) K dX8_byLots_179 (by decide) ?_
      refine j_iload K dX8_byLots_180 2 rfl ?_
      refine j_ishl K dX8_byLots_182 ?_
      exact j_sub [0, 2] rfl (w_X8_byLots_183 K X hk149 h)
    · replace h := it c172 h
      refine j_iconst (v := (0 : Int32)) K dX8_byLots_175 (by decide) ?_
      refine j_goto K dX8_byLots_176 ?_
      exact j_sub [0, 2] rfl (w_X8_byLots_183 K X hk149 h)
def B_X8_byLots_149 (fu : Nat) (o : Nat) : Nat → Hp → Int32 → Int32 → Option (Int32 × Hp)
  | 0 => fun _ _ _ => none
  | n + 1 => L_X8_byLots_149 (B_X8_byLots_149 fu o n) fu o
theorem w_X8_byLots_149 {E : Cx} {l : Launch} {res : Int32 × Hp} {ad : Nat → Nat} {fu : Nat} {o : Nat} (K : Kx E cX8_byLots RX8 (rmd 6 0 0)) (X : Bx E l yX8_byLots 8 (some .int) 0 0 ad (QI res)) : ∀ (n : Nat) (S : Hp) (x4 : Int32) (x5 : Int32), B_X8_byLots_149 fu o n S x4 x5 = some res → J E 0 0 149 [(0, vR (some o)), (4, vI x4), (5, vI x5)] [] S ad := by
  intro n
  induction n with
  | zero =>
    intro S x4 x5 h
    cases h
  | succ n ih =>
    intro S x4 x5 h
    exact wl_X8_byLots_149 K X ih h
def B_X8_byLots_146 (fu : Nat) (o : Nat) (S : Hp) (x4 : Int32) : Option (Int32 × Hp) :=
  B_X8_byLots_149 fu o fu S x4 (0 : Int32)
set_option maxRecDepth 100000 in
set_option maxHeartbeats 4000000 in
theorem w_X8_byLots_146 {E : Cx} {l : Launch} {res : Int32 × Hp} {ad : Nat → Nat} {fu : Nat} {o : Nat} {S : Hp} {x4 : Int32} (K : Kx E cX8_byLots RX8 (rmd 6 0 0)) (X : Bx E l yX8_byLots 8 (some .int) 0 0 ad (QI res)) (h : B_X8_byLots_146 fu o S x4 = some res) : J E 0 0 146 [(0, vR (some o)), (4, vI x4)] [] S ad := by
  refine j_iconst (v := (0 : Int32)) K dX8_byLots_146 (by decide) ?_
  refine j_istore (lv' := [(5, vI (0 : Int32)), (0, vR (some o)), (4, vI x4)]) K dX8_byLots_147 X.2.2.1 (by decide) rfl ?_
  exact j_sub [1, 2, 0] rfl (w_X8_byLots_149 K X _ _ _ _ h)
def B_X8_byLots_116 (k20 : Hp → Int64 → Int32 → Option (Int32 × Hp)) (fu : Nat) (o : Nat) (S : Hp) (x2 : Int64) (x4 : Int32) (x5 : Int32) (s0 : Int32) (s1 : Int32) (s2 : Option Nat) : Option (Int32 × Hp) :=
  (aP S s2 s1 s0).bind fun S116 =>
  (gR S116 (some o) 6 5).bind fun v118 =>
  (aP S116 v118 x5 ((1 : Int32) + (x2 - x2 / (9 : Int64) * (9 : Int64)).toInt32)).bind fun S131 =>
  (pI S131 (some o) 6 7 (x5 + (1 : Int32))).bind fun S137 =>
  k20 S137 x2 (x5 + (1 : Int32))
set_option maxRecDepth 100000 in
set_option maxHeartbeats 4000000 in
theorem w_X8_byLots_116 {E : Cx} {l : Launch} {res : Int32 × Hp} {ad : Nat → Nat} {k20 : Hp → Int64 → Int32 → Option (Int32 × Hp)} {fu : Nat} {o : Nat} {S : Hp} {x2 : Int64} {x4 : Int32} {x5 : Int32} {s0 : Int32} {s1 : Int32} {s2 : Option Nat} (K : Kx E cX8_byLots RX8 (rmd 6 0 0)) (X : Bx E l yX8_byLots 8 (some .int) 0 0 ad (QI res)) (hk20 : ∀ (S : Hp) (x2 : Int64) (x5 : Int32), k20 S x2 x5 = some res → J E 0 0 20 [(0, vR (some o)), (2, vJ x2), (4, vI x4), (5, vI x5)] [] S ad) (h : B_X8_byLots_116 k20 fu o S x2 x4 x5 s0 s1 s2 = some res) : J E 0 0 116 [(0, vR (some o)), (2, vJ x2), (4, vI x4), (5, vI x5)] [vI s0, vI s1, vR s2] S ad := by
  obtain ⟨S116, e116, h⟩ := bd h
  refine j_aP K dX8_byLots_116 e116 ?_
  refine j_aload_n K dX8_byLots_117 rfl 0 rfl ?_
  obtain ⟨v118, e118, h⟩ := bd h
  refine fgX8_22 K dX8_byLots_118 e118 ?_
  refine j_iload K dX8_byLots_121 3 rfl ?_
  refine j_iconst (v := (1 : Int32)) K dX8_byLots_123 (by decide) ?_
  refine j_lload_n K dX8_byLots_124 rfl 1 rfl ?_
  refine j_ldc2 K dX8_byLots_125 z1207 ?_
  refine j_lrem K dX8_byLots_128 (by decide) ?_
  refine j_l2i K dX8_byLots_129 ?_
  refine j_iadd K dX8_byLots_130 ?_
  obtain ⟨S131, e131, h⟩ := bd h
  refine j_aP K dX8_byLots_131 e131 ?_
  refine j_aload_n K dX8_byLots_132 rfl 0 rfl ?_
  refine j_iload K dX8_byLots_133 3 rfl ?_
  refine j_iconst (v := (1 : Int32)) K dX8_byLots_135 (by decide) ?_
  refine j_iadd K dX8_byLots_136 ?_
  obtain ⟨S137, e137, h⟩ := bd h
  refine fpX8_91 K dX8_byLots_137 e137 ?_
  refine j_iinc (q := 3) (v := (x5 + (1 : Int32))) (lv' := [(5, vI (x5 + (1 : Int32))), (0, vR (some o)), (2, vJ x2), (4, vI x4)]) K dX8_byLots_140 rfl rfl X.2.2.1 (by decide) rfl ?_
  refine j_goto K dX8_byLots_143 ?_
  exact j_sub [1, 2, 3, 0] rfl (hk20 _ _ _ h)
def L_X8_byLots_20 (k20 : Hp → Int64 → Int32 → Option (Int32 × Hp)) (fu : Nat) (o : Nat) (x4 : Int32) (S : Hp) (x2 : Int64) (x5 : Int32) : Option (Int32 × Hp) :=
  if (6 : Int32) ≤ x5 then
    B_X8_byLots_146 fu o S x4
  else
    (gI S (some o) 6 0).bind fun v28 =>
    if v28 ≤ 0 then
      B_X8_byLots_146 fu o S x4
    else
      (gI S (some o) 6 0).bind fun v46 =>
      if v46.toInt64 = 0 then none else
      (gI S (some o) 6 0).bind fun v66 =>
      if v66.toInt64 = 0 then none else
      (gR S (some o) 6 4).bind fun v85 =>
      (aP S v85 x5 ((1 : Int32) <<< ((((x2 * (48271 : Int64)) - (x2 * (48271 : Int64)) / (2147483647 : Int64) * (2147483647 : Int64)) - ((x2 * (48271 : Int64)) - (x2 * (48271 : Int64)) / (2147483647 : Int64) * (2147483647 : Int64)) / v46.toInt64 * v46.toInt64).toInt32 &&& 31))).bind fun S94 =>
      (gR S94 (some o) 6 6).bind fun v96 =>
      if ((((x2 * (48271 : Int64)) - (x2 * (48271 : Int64)) / (2147483647 : Int64) * (2147483647 : Int64)) - ((x2 * (48271 : Int64)) - (x2 * (48271 : Int64)) / (2147483647 : Int64) * (2147483647 : Int64)) / v46.toInt64 * v46.toInt64).toInt32) = ((((((x2 * (48271 : Int64)) - (x2 * (48271 : Int64)) / (2147483647 : Int64) * (2147483647 : Int64)) * (48271 : Int64)) - (((x2 * (48271 : Int64)) - (x2 * (48271 : Int64)) / (2147483647 : Int64) * (2147483647 : Int64)) * (48271 : Int64)) / (2147483647 : Int64) * (2147483647 : Int64)) - ((((x2 * (48271 : Int64)) - (x2 * (48271 : Int64)) / (2147483647 : Int64) * (2147483647 : Int64)) * (48271 : Int64)) - (((x2 * (48271 : Int64)) - (x2 * (48271 : Int64)) / (2147483647 : Int64) * (2147483647 : Int64)) * (48271 : Int64)) / (2147483647 : Int64) * (2147483647 : Int64)) / v66.toInt64 * v66.toInt64).toInt32) then
        B_X8_byLots_116 k20 fu o S94 ((((((x2 * (48271 : Int64)) - (x2 * (48271 : Int64)) / (2147483647 : Int64) * (2147483647 : Int64)) * (48271 : Int64)) - (((x2 * (48271 : Int64)) - (x2 * (48271 : Int64)) / (2147483647 : Int64) * (2147483647 : Int64)) * (48271 : Int64)) / (2147483647 : Int64) * (2147483647 : Int64)) * (48271 : Int64)) - (((((x2 * (48271 : Int64)) - (x2 * (48271 : Int64)) / (2147483647 : Int64) * (2147483647 : Int64)) * (48271 : Int64)) - (((x2 * (48271 : Int64)) - (x2 * (48271 : Int64)) / (2147483647 : Int64) * (2147483647 : Int64)) * (48271 : Int64)) / (2147483647 : Int64) * (2147483647 : Int64)) * (48271 : Int64)) / (2147483647 : Int64) * (2147483647 : Int64)) x4 x5 (0 : Int32) x5 v96
      else
        B_X8_byLots_116 k20 fu o S94 ((((((x2 * (48271 : Int64)) - (x2 * (48271 : Int64)) / (2147483647 : Int64) * (2147483647 : Int64)) * (48271 : Int64)) - (((x2 * (48271 : Int64)) - (x2 * (48271 : Int64)) / (2147483647 : Int64) * (2147483647 : Int64)) * (48271 : Int64)) / (2147483647 : Int64) * (2147483647 : Int64)) * (48271 : Int64)) - (((((x2 * (48271 : Int64)) - (x2 * (48271 : Int64)) / (2147483647 : Int64) * (2147483647 : Int64)) * (48271 : Int64)) - (((x2 * (48271 : Int64)) - (x2 * (48271 : Int64)) / (2147483647 : Int64) * (2147483647 : Int64)) * (48271 : Int64)) / (2147483647 : Int64) * (2147483647 : Int64)) * (48271 : Int64)) / (2147483647 : Int64) * (2147483647 : Int64)) x4 x5 ((1 : Int32) <<< ((((((x2 * (48271 : Int64)) - (x2 * (48271 : Int64)) / (2147483647 : Int64) * (2147483647 : Int64)) * (48271 : Int64)) - (((x2 * (48271 : Int64)) - (x2 * (48271 : Int64)) / (2147483647 : Int64) * (2147483647 : Int64)) * (48271 : Int64)) / (2147483647 : Int64) * (2147483647 : Int64)) - ((((x2 * (48271 : Int64)) - (x2 * (48271 : Int64)) / (2147483647 : Int64) * (2147483647 : Int64)) * (48271 : Int64)) - (((x2 * (48271 : Int64)) - (x2 * (48271 : Int64)) / (2147483647 : Int64) * (2147483647 : Int64)) * (48271 : Int64)) / (2147483647 : Int64) * (2147483647 : Int64)) / v66.toInt64 * v66.toInt64).toInt32 &&& 31)) x5 v96
set_option maxRecDepth 100000 in
set_option maxHeartbeats 4000000 in
theorem wl_X8_byLots_20 {E : Cx} {l : Launch} {res : Int32 × Hp} {ad : Nat → Nat} {k20 : Hp → Int64 → Int32 → Option (Int32 × Hp)} {fu : Nat} {o : Nat} {S : Hp} {x2 : Int64} {x4 : Int32} {x5 : Int32} (K : Kx E cX8_byLots RX8 (rmd 6 0 0)) (X : Bx E l yX8_byLots 8 (some .int) 0 0 ad (QI res)) (hk20 : ∀ (S : Hp) (x2 : Int64) (x5 : Int32), k20 S x2 x5 = some res → J E 0 0 20 [(0, vR (some o)), (2, vJ x2), (4, vI x4), (5, vI x5)] [] S ad) (h : L_X8_byLots_20 k20 fu o x4 S x2 x5 = some res) : J E 0 0 20 [(0, vR (some o)), (2, vJ x2), (4, vI x4), (5, vI x5)] [] S ad := by
  refine j_iload K dX8_byLots_20 3 rfl ?_
  refine j_bipush (v := (6 : Int32)) K dX8_byLots_22 (by decide) ?_
  refine j_icmp_ge K dX8_byLots_24 (fun c24 => ?_) (fun c24 => ?_)
  · replace h := it c24 h
    exact j_sub [0, 2] rfl (w_X8_byLots_146 K X h)
  · replace h := ie c24 h
    refine j_aload_n K dX8_byLots_27 rfl 0 rfl ?_
    obtain ⟨v28, e28, h⟩ := bd h
    refine fgX8_84 K dX8_byLots_28 e28 ?_
    refine j_if_le K dX8_byLots_31 (fun c31 => ?_) (fun c31 => ?_)
    · replace h := it c31 h
      exact j_sub [0, 2] rfl (w_X8_byLots_146 K X h)
    · replace h := ie c31 h
      refine j_lload_n K dX8_byLots_34 rfl 1 rfl ?_
      refine j_ldc2 K dX8_byLots_35 z1205 ?_
      refine j_lmul K dX8_byLots_38 ?_
      refine j_ldc2 K dX8_byLots_39 z1206 ?_
      refine j_lrem K dX8_byLots_42 (by decide) ?_
      refine j_lstore_n (lv' := [(2, vJ ((x2 * (48271 : Int64)) - (x2 * (48271 : Int64)) / (2147483647 : Int64) * (2147483647 : Int64))), (0, vR (some o)), (4, vI x4), (5, vI x5)]) K dX8_byLots_43 rfl X.2.2.1 (by decide) rfl ?_
      refine j_lload_n K dX8_byLots_44 rfl 0 rfl ?_
      refine j_aload_n K dX8_byLots_45 rfl 1 rfl ?_
      obtain ⟨v46, e46, h⟩ := bd h
      refine fgX8_84 K dX8_byLots_46 e46 ?_
      refine j_i2l K dX8_byLots_49 ?_
      have c50 : ¬ v46.toInt64 = 0 := fun q => by cases it q h
      replace h := ie c50 h
      refine j_lrem K dX8_byLots_50 c50 ?_
      refine j_l2i K dX8_byLots_51 ?_
      refine j_istore (lv' := [(6, vI ((((x2 * (48271 : Int64)) - (x2 * (48271 : Int64)) / (2147483647 : Int64) * (2147483647 : Int64)) - ((x2 * (48271 : Int64)) - (x2 * (48271 : Int64)) / (2147483647 : Int64) * (2147483647 : Int64)) / v46.toInt64 * v46.toInt64).toInt32)), (2, vJ ((x2 * (48271 : Int64)) - (x2 * (48271 : Int64)) / (2147483647 : Int64) * (2147483647 : Int64))), (0, vR (some o)), (4, vI x4), (5, vI x5)]) K dX8_byLots_52 X.2.2.1 (by decide) rfl ?_
      refine j_lload_n K dX8_byLots_54 rfl 1 rfl ?_
      refine j_ldc2 K dX8_byLots_55 z1205 ?_
      refine j_lmul K dX8_byLots_58 ?_
      refine j_ldc2 K dX8_byLots_59 z1206 ?_
      refine j_lrem K dX8_byLots_62 (by decide) ?_
      refine j_lstore_n (lv' := [(2, vJ ((((x2 * (48271 : Int64)) - (x2 * (48271 : Int64)) / (2147483647 : Int64) * (2147483647 : Int64)) * (48271 : Int64)) - (((x2 * (48271 : Int64)) - (x2 * (48271 : Int64)) / (2147483647 : Int64) * (2147483647 : Int64)) * (48271 : Int64)) / (2147483647 : Int64) * (2147483647 : Int64))), (6, vI ((((x2 * (48271 : Int64)) - (x2 * (48271 : Int64)) / (2147483647 : Int64) * (2147483647 : Int64)) - ((x2 * (48271 : Int64)) - (x2 * (48271 : Int64)) / (2147483647 : Int64) * (2147483647 : Int64)) / v46.toInt64 * v46.toInt64).toInt32)), (0, vR (some o)), (4, vI x4), (5, vI x5)]) K dX8_byLots_63 rfl X.2.2.1 (by decide) rfl ?_
      refine j_lload_n K dX8_byLots_64 rfl 0 rfl ?_
      refine j_aload_n K dX8_byLots_65 rfl 2 rfl ?_
      obtain ⟨v66, e66, h⟩ := bd h
      refine fgX8_84 K dX8_byLots_66 e66 ?_
      refine j_i2l K dX8_byLots_69 ?_
      have c70 : ¬ v66.toInt64 = 0 := fun q => by cases it q h
      replace h := ie c70 h
      refine j_lrem K dX8_byLots_70 c70 ?_
      refine j_l2i K dX8_byLots_71 ?_
      refine j_istore (lv' := [(7, vI ((((((x2 * (48271 : Int64)) - (x2 * (48271 : Int64)) / (2147483647 : Int64) * (2147483647 : Int64)) * (48271 : Int64)) - (((x2 * (48271 : Int64)) - (x2 * (48271 : Int64)) / (2147483647 : Int64) * (2147483647 : Int64)) * (48271 : Int64)) / (2147483647 : Int64) * (2147483647 : Int64)) - ((((x2 * (48271 : Int64)) - (x2 * (48271 : Int64)) / (2147483647 : Int64) * (2147483647 : Int64)) * (48271 : Int64)) - (((x2 * (48271 : Int64)) - (x2 * (48271 : Int64)) / (2147483647 : Int64) * (2147483647 : Int64)) * (48271 : Int64)) / (2147483647 : Int64) * (2147483647 : Int64)) / v66.toInt64 * v66.toInt64).toInt32)), (2, vJ ((((x2 * (48271 : Int64)) - (x2 * (48271 : Int64)) / (2147483647 : Int64) * (2147483647 : Int64)) * (48271 : Int64)) - (((x2 * (48271 : Int64)) - (x2 * (48271 : Int64)) / (2147483647 : Int64) * (2147483647 : Int64)) * (48271 : Int64)) / (2147483647 : Int64) * (2147483647 : Int64))), (6, vI ((((x2 * (48271 : Int64)) - (x2 * (48271 : Int64)) / (2147483647 : Int64) * (2147483647 : Int64)) - ((x2 * (48271 : Int64)) - (x2 * (48271 : Int64)) / (2147483647 : Int64) * (2147483647 : Int64)) / v46.toInt64 * v46.toInt64).toInt32)), (0, vR (some o)), (4, vI x4), (5, vI x5)]) K dX8_byLots_72 X.2.2.1 (by decide) rfl ?_
      refine j_lload_n K dX8_byLots_74 rfl 1 rfl ?_
      refine j_ldc2 K dX8_byLots_75 z1205 ?_
      refine j_lmul K dX8_byLots_78 ?_
      refine j_ldc2 K dX8_byLots_79 z1206 ?_
      refine j_lrem K dX8_byLots_82 (by decide) ?_
      refine j_lstore_n (lv' := [(2, vJ ((((((x2 * (48271 : Int64)) - (x2 * (48271 : Int64)) / (2147483647 : Int64) * (2147483647 : Int64)) * (48271 : Int64)) - (((x2 * (48271 : Int64)) - (x2 * (48271 : Int64)) / (2147483647 : Int64) * (2147483647 : Int64)) * (48271 : Int64)) / (2147483647 : Int64) * (2147483647 : Int64)) * (48271 : Int64)) - (((((x2 * (48271 : Int64)) - (x2 * (48271 : Int64)) / (2147483647 : Int64) * (2147483647 : Int64)) * (48271 : Int64)) - (((x2 * (48271 : Int64)) - (x2 * (48271 : Int64)) / (2147483647 : Int64) * (2147483647 : Int64)) * (48271 : Int64)) / (2147483647 : Int64) * (2147483647 : Int64)) * (48271 : Int64)) / (2147483647 : Int64) * (2147483647 : Int64))), (7, vI ((((((x2 * (48271 : Int64)) - (x2 * (48271 : Int64)) / (2147483647 : Int64) * (2147483647 : Int64)) * (48271 : Int64)) - (((x2 * (48271 : Int64)) - (x2 * (48271 : Int64)) / (2147483647 : Int64) * (2147483647 : Int64)) * (48271 : Int64)) / (2147483647 : Int64) * (2147483647 : Int64)) - ((((x2 * (48271 : Int64)) - (x2 * (48271 : Int64)) / (2147483647 : Int64) * (2147483647 : Int64)) * (48271 : Int64)) - (((x2 * (48271 : Int64)) - (x2 * (48271 : Int64)) / (2147483647 : Int64) * (2147483647 : Int64)) * (48271 : Int64)) / (2147483647 : Int64) * (2147483647 : Int64)) / v66.toInt64 * v66.toInt64).toInt32)), (6, vI ((((x2 * (48271 : Int64)) - (x2 * (48271 : Int64)) / (2147483647 : Int64) * (2147483647 : Int64)) - ((x2 * (48271 : Int64)) - (x2 * (48271 : Int64)) / (2147483647 : Int64) * (2147483647 : Int64)) / v46.toInt64 * v46.toInt64).toInt32)), (0, vR (some o)), (4, vI x4), (5, vI x5)]) K dX8_byLots_83 rfl X.2.2.1 (by decide) rfl ?_
      refine j_aload_n K dX8_byLots_84 rfl 3 rfl ?_
      obtain ⟨v85, e85, h⟩ := bd h
      refine fgX8_19 K dX8_byLots_85 e85 ?_
      refine j_iload K dX8_byLots_88 5 rfl ?_
      refine j_iconst (v := (1 : Int32)) K dX8_byLots_90 (by decide) ?_
      refine j_iload K dX8_byLots_91 2 rfl ?_
      refine j_ishl K dX8_byLots_93 ?_
      obtain ⟨S94, e94, h⟩ := bd h
      refine j_aP K dX8_byLots_94 e94 ?_
      refine j_aload_n K dX8_byLots_95 rfl 3 rfl ?_
      obtain ⟨v96, e96, h⟩ := bd h
      refine fgX8_25 K dX8_byLots_96 e96 ?_
      refine j_iload K dX8_byLots_99 5 rfl ?_
      refine j_iload K dX8_byLots_101 2 rfl ?_
      refine j_iload K dX8_byLots_103 1 rfl ?_
      refine j_icmp_ne K dX8_byLots_105 (fun c105 => ?_) (fun c105 => ?_)
      · replace h := ie c105 h
        refine j_iconst (v := (1 : Int32)) K dX8_byLots_112 (by decide) ?_
        refine j_iload K dX8_byLots_113 1 rfl ?_
        refine j_ishl K dX8_byLots_115 ?_
        exact j_sub [3, 0, 4, 5] rfl (w_X8_byLots_116 K X hk20 h)
      · replace h := it c105 h
        refine j_iconst (v := (0 : Int32)) K dX8_byLots_108 (by decide) ?_
        refine j_goto K dX8_byLots_109 ?_
        exact j_sub [3, 0, 4, 5] rfl (w_X8_byLots_116 K X hk20 h)
def B_X8_byLots_20 (fu : Nat) (o : Nat) (x4 : Int32) : Nat → Hp → Int64 → Int32 → Option (Int32 × Hp)
  | 0 => fun _ _ _ => none
  | n + 1 => L_X8_byLots_20 (B_X8_byLots_20 fu o x4 n) fu o x4
theorem w_X8_byLots_20 {E : Cx} {l : Launch} {res : Int32 × Hp} {ad : Nat → Nat} {fu : Nat} {o : Nat} {x4 : Int32} (K : Kx E cX8_byLots RX8 (rmd 6 0 0)) (X : Bx E l yX8_byLots 8 (some .int) 0 0 ad (QI res)) : ∀ (n : Nat) (S : Hp) (x2 : Int64) (x5 : Int32), B_X8_byLots_20 fu o x4 n S x2 x5 = some res → J E 0 0 20 [(0, vR (some o)), (2, vJ x2), (4, vI x4), (5, vI x5)] [] S ad := by
  intro n
  induction n with
  | zero =>
    intro S x2 x5 h
    cases h
  | succ n ih =>
    intro S x2 x5 h
    exact wl_X8_byLots_20 K X ih h
def F_X8_byLots (fu : Nat) (S : Hp) (o : Nat) (x1 : Int32) : Option (Int32 × Hp) :=
  (ob S 6 (some o)).bind fun _ =>
  (F_X8_keeps fu S o).bind fun S9 =>
  (pI S9 (some o) 6 7 (0 : Int32)).bind fun S14 =>
  B_X8_byLots_20 fu o (0 : Int32) fu S14 (x1.toInt64 + (1 : Int64)) (0 : Int32)
set_option maxRecDepth 100000 in
set_option maxHeartbeats 4000000 in
theorem w_X8_byLots {E : Cx} {l : Launch} {res : Int32 × Hp} {ad : Nat → Nat} {fu : Nat} {S : Hp} {o : Nat} {x1 : Int32} (K : Kx E cX8_byLots RX8 (rmd 6 0 0)) (X : Bx E l yX8_byLots 8 (some .int) 0 0 ad (QI res)) (h : F_X8_byLots fu S o x1 = some res) : J E 0 0 0 [(0, vR (some o)), (1, vI x1)] [] S ad := by
  refine j_iload_n K dX8_byLots_0 rfl 1 rfl ?_
  refine j_i2l K dX8_byLots_1 ?_
  refine j_lconst (v := (1 : Int64)) K dX8_byLots_2 (by decide) ?_
  refine j_ladd K dX8_byLots_3 ?_
  refine j_lstore_n (lv' := [(2, vJ (x1.toInt64 + (1 : Int64))), (0, vR (some o)), (1, vI x1)]) K dX8_byLots_4 rfl X.2.2.1 (by decide) rfl ?_
  refine j_iconst (v := (0 : Int32)) K dX8_byLots_5 (by decide) ?_
  refine j_istore (lv' := [(4, vI (0 : Int32)), (2, vJ (x1.toInt64 + (1 : Int64))), (0, vR (some o)), (1, vI x1)]) K dX8_byLots_6 X.2.2.1 (by decide) rfl ?_
  refine j_aload_n K dX8_byLots_8 rfl 2 rfl ?_
  obtain ⟨w9, ew9, h⟩ := bd h
  have ho9 := obS ew9
  obtain ⟨S9, e9, h⟩ := bd h
  refine j_cV (st := []) K (r_V (vs := []) (n := 0) (o := o) K (c_X8_keeps e9) ho9 (by decide) rfl dX8_byLots_9 z1132 z1134 zs55 z13 z1135 ⟨zd_X8_keeps, rfl, rfl, rfl, ⟨Nat.le_of_ble_eq_true rfl, Nat.le_of_ble_eq_true rfl⟩, Nat.le_of_ble_eq_true rfl, Nat.le_of_ble_eq_true rfl, Nat.le_of_ble_eq_true rfl⟩) rfl ?_
  refine j_aload_n K dX8_byLots_12 rfl 2 rfl ?_
  refine j_iconst (v := (0 : Int32)) K dX8_byLots_13 (by decide) ?_
  obtain ⟨S14, e14, h⟩ := bd h
  refine fpX8_91 K dX8_byLots_14 e14 ?_
  refine j_iconst (v := (0 : Int32)) K dX8_byLots_17 (by decide) ?_
  refine j_istore (lv' := [(5, vI (0 : Int32)), (4, vI (0 : Int32)), (2, vJ (x1.toInt64 + (1 : Int64))), (0, vR (some o)), (1, vI x1)]) K dX8_byLots_18 X.2.2.1 (by decide) rfl ?_
  exact j_sub [3, 2, 1, 0] rfl (w_X8_byLots_20 K X _ _ _ _ h)
theorem c_X8_byLots {l : Launch} {fu : Nat} {S : Hp} {o : Nat} {x1 : Int32} {res : Int32 × Hp} (h : F_X8_byLots fu S o x1 = some res) : Ct l yX8_byLots cX8_byLots 8 (some .int) (rmd 6 0 0) 0 0 [vR (some o), vI x1] S (QI res) :=
  z_entry (by decide +kernel) (Nat.le_of_ble_eq_true rfl) (fun E ad K X => w_X8_byLots K X h)

theorem dX8_drawn_0 : decode cX8_drawn 0 = .ok (.iload_n 1, 1) ∧ 0 + 1 = 1 := ⟨by decide +kernel, rfl⟩
theorem dX8_drawn_1 : decode cX8_drawn 1 = .ok (.iconst 0, 1) ∧ 1 + 1 = 2 := ⟨by decide +kernel, rfl⟩
theorem dX8_drawn_2 : decode cX8_drawn 2 = .ok (.ldc_w 268, 3) ∧ 2 + 3 = 5 := ⟨by decide +kernel, rfl⟩
theorem dX8_drawn_5 : decode cX8_drawn 5 = .ok (.invokestatic 87, 3) := by decide +kernel
theorem dX8_drawn_8 : decode cX8_drawn 8 = .ok (.ifCond .eq 12, 3) ∧ 8 + 3 = 11 ∧ ((8 : Nat) : Int) + (12) = ((20 : Nat) : Int) := ⟨by decide +kernel, rfl, by decide⟩
theorem dX8_drawn_11 : decode cX8_drawn 11 = .ok (.iload_n 2, 1) ∧ 11 + 1 = 12 := ⟨by decide +kernel, rfl⟩
theorem dX8_drawn_12 : decode cX8_drawn 12 = .ok (.iconst 0, 1) ∧ 12 + 1 = 13 := ⟨by decide +kernel, rfl⟩
theorem dX8_drawn_13 : decode cX8_drawn 13 = .ok (.iconst 1, 1) ∧ 13 + 1 = 14 := ⟨by decide +kernel, rfl⟩
theorem dX8_drawn_14 : decode cX8_drawn 14 = .ok (.invokestatic 87, 3) := by decide +kernel
theorem dX8_drawn_17 : decode cX8_drawn 17 = .ok (.ifCond .ne 6, 3) ∧ 17 + 3 = 20 ∧ ((17 : Nat) : Int) + (6) = ((23 : Nat) : Int) := ⟨by decide +kernel, rfl, by decide⟩
theorem dX8_drawn_20 : decode cX8_drawn 20 = .ok (.bipush (-2), 2) ∧ 20 + 2 = 22 := ⟨by decide +kernel, rfl⟩
theorem dX8_drawn_22 : decode cX8_drawn 22 = .ok (.ireturn, 1) := by decide +kernel
theorem dX8_drawn_23 : decode cX8_drawn 23 = .ok (.aload_n 0, 1) ∧ 23 + 1 = 24 := ⟨by decide +kernel, rfl⟩
theorem dX8_drawn_24 : decode cX8_drawn 24 = .ok (.iload_n 1, 1) ∧ 24 + 1 = 25 := ⟨by decide +kernel, rfl⟩
theorem dX8_drawn_25 : decode cX8_drawn 25 = .ok (.invokevirtual 269, 3) := by decide +kernel
theorem dX8_drawn_28 : decode cX8_drawn 28 = .ok (.istore_n 3, 1) ∧ 28 + 1 = 29 := ⟨by decide +kernel, rfl⟩
theorem dX8_drawn_29 : decode cX8_drawn 29 = .ok (.iload_n 2, 1) ∧ 29 + 1 = 30 := ⟨by decide +kernel, rfl⟩
theorem dX8_drawn_30 : decode cX8_drawn 30 = .ok (.ifCond .ne 7, 3) ∧ 30 + 3 = 33 ∧ ((30 : Nat) : Int) + (7) = ((37 : Nat) : Int) := ⟨by decide +kernel, rfl, by decide⟩
theorem dX8_drawn_33 : decode cX8_drawn 33 = .ok (.iload_n 3, 1) ∧ 33 + 1 = 34 := ⟨by decide +kernel, rfl⟩
theorem dX8_drawn_34 : decode cX8_drawn 34 = .ok (.goto 7, 3) ∧ ((34 : Nat) : Int) + (7) = ((41 : Nat) : Int) := ⟨by decide +kernel, by decide⟩
theorem dX8_drawn_37 : decode cX8_drawn 37 = .ok (.aload_n 0, 1) ∧ 37 + 1 = 38 := ⟨by decide +kernel, rfl⟩
theorem dX8_drawn_38 : decode cX8_drawn 38 = .ok (.getfield 265, 3) ∧ 38 + 3 = 41 := ⟨by decide +kernel, rfl⟩
theorem dX8_drawn_41 : decode cX8_drawn 41 = .ok (.ireturn, 1) := by decide +kernel
def B_X8_drawn_20 (fu : Nat) (o : Nat) (S : Hp) : Option (Int32 × Hp) :=
  some ((-2 : Int32), S)
set_option maxRecDepth 100000 in
set_option maxHeartbeats 4000000 in
theorem w_X8_drawn_20 {E : Cx} {l : Launch} {res : Int32 × Hp} {ad : Nat → Nat} {fu : Nat} {o : Nat} {S : Hp} (K : Kx E cX8_drawn RX8 (rmd 7 0 0)) (X : Bx E l yX8_drawn 4 (some .int) 0 0 ad (QI res)) (h : B_X8_drawn_20 fu o S = some res) : J E 0 0 20 [] [] S ad := by
  refine j_bipush (v := (-2 : Int32)) K dX8_drawn_20 (by decide) ?_
  exact j_iret K X dX8_drawn_22 h
def B_X8_drawn_41 (fu : Nat) (o : Nat) (S : Hp) (s0 : Int32) : Option (Int32 × Hp) :=
  some (s0, S)
set_option maxRecDepth 100000 in
set_option maxHeartbeats 4000000 in
theorem w_X8_drawn_41 {E : Cx} {l : Launch} {res : Int32 × Hp} {ad : Nat → Nat} {fu : Nat} {o : Nat} {S : Hp} {s0 : Int32} (K : Kx E cX8_drawn RX8 (rmd 7 0 0)) (X : Bx E l yX8_drawn 4 (some .int) 0 0 ad (QI res)) (h : B_X8_drawn_41 fu o S s0 = some res) : J E 0 0 41 [] [vI s0] S ad := by
  exact j_iret K X dX8_drawn_41 h
def F_X8_drawn (fu : Nat) (S : Hp) (o : Nat) (x1 : Int32) (x2 : Int32) : Option (Int32 × Hp) :=
  b2 (F_X8_in S x1 (0 : Int32) (99999 : Int32)) fun v5 S5 =>
  if v5 = 0 then
    B_X8_drawn_20 fu o S5
  else
    b2 (F_X8_in S5 x2 (0 : Int32) (1 : Int32)) fun v14 S14 =>
    if v14 = 0 then
      B_X8_drawn_20 fu o S14
    else
      (ob S14 6 (some o)).bind fun _ =>
      b2 (F_X8_byLots fu S14 o x1) fun v25 S25 =>
      if x2 = 0 then
        B_X8_drawn_41 fu o S25 v25
      else
        (gI S25 (some o) 6 36).bind fun v38 =>
        B_X8_drawn_41 fu o S25 v38
set_option maxRecDepth 100000 in
set_option maxHeartbeats 4000000 in
theorem w_X8_drawn {E : Cx} {l : Launch} {res : Int32 × Hp} {ad : Nat → Nat} {fu : Nat} {S : Hp} {o : Nat} {x1 : Int32} {x2 : Int32} (K : Kx E cX8_drawn RX8 (rmd 7 0 0)) (X : Bx E l yX8_drawn 4 (some .int) 0 0 ad (QI res)) (h : F_X8_drawn fu S o x1 x2 = some res) : J E 0 0 0 [(0, vR (some o)), (1, vI x1), (2, vI x2)] [] S ad := by
  refine j_iload_n K dX8_drawn_0 rfl 1 rfl ?_
  refine j_iconst (v := (0 : Int32)) K dX8_drawn_1 (by decide) ?_
  refine j_ldcw K dX8_drawn_2 z1200 ?_
  obtain ⟨v5, S5, e5, h⟩ := bd2 h
  refine j_cI (st := []) K (r_S (vs := [vI x1, vI (0 : Int32), vI (99999 : Int32)]) (n := 3) K (c_X8_in e5) dX8_drawn_5 z812 z813 z13 z814 ⟨zd_X8_in, rfl, rfl, rfl, ⟨Nat.le_of_ble_eq_true rfl, Nat.le_of_ble_eq_true rfl⟩, Nat.le_of_ble_eq_true rfl, Nat.le_of_ble_eq_true rfl, Nat.le_of_ble_eq_true rfl⟩) rfl ?_
  refine j_if_eq K dX8_drawn_8 (fun c8 => ?_) (fun c8 => ?_)
  · replace h := it c8 h
    exact j_sub [] rfl (w_X8_drawn_20 K X h)
  · replace h := ie c8 h
    refine j_iload_n K dX8_drawn_11 rfl 2 rfl ?_
    refine j_iconst (v := (0 : Int32)) K dX8_drawn_12 (by decide) ?_
    refine j_iconst (v := (1 : Int32)) K dX8_drawn_13 (by decide) ?_
    obtain ⟨v14, S14, e14, h⟩ := bd2 h
    refine j_cI (st := []) K (r_S (vs := [vI x2, vI (0 : Int32), vI (1 : Int32)]) (n := 3) K (c_X8_in e14) dX8_drawn_14 z812 z813 z13 z814 ⟨zd_X8_in, rfl, rfl, rfl, ⟨Nat.le_of_ble_eq_true rfl, Nat.le_of_ble_eq_true rfl⟩, Nat.le_of_ble_eq_true rfl, Nat.le_of_ble_eq_true rfl, Nat.le_of_ble_eq_true rfl⟩) rfl ?_
    refine j_if_ne K dX8_drawn_17 (fun c17 => ?_) (fun c17 => ?_)
    · replace h := ie c17 h
      refine j_aload_n K dX8_drawn_23 rfl 0 rfl ?_
      refine j_iload_n K dX8_drawn_24 rfl 1 rfl ?_
      obtain ⟨w25, ew25, h⟩ := bd h
      have ho25 := obS ew25
      obtain ⟨v25, S25, e25, h⟩ := bd2 h
      refine j_cI (st := []) K (r_V (vs := [vI x1]) (n := 1) (o := o) K (c_X8_byLots e25) ho25 (by decide) rfl dX8_drawn_25 z1201 z1203 zs59 z13 z1204 ⟨zd_X8_byLots, rfl, rfl, rfl, ⟨Nat.le_of_ble_eq_true rfl, Nat.le_of_ble_eq_true rfl⟩, Nat.le_of_ble_eq_true rfl, Nat.le_of_ble_eq_true rfl, Nat.le_of_ble_eq_true rfl⟩) rfl ?_
      refine j_istore_n (lv' := [(3, vI v25), (0, vR (some o)), (1, vI x1), (2, vI x2)]) K dX8_drawn_28 rfl X.2.2.1 (by decide) rfl ?_
      refine j_iload_n K dX8_drawn_29 rfl 3 rfl ?_
      refine j_if_ne K dX8_drawn_30 (fun c30 => ?_) (fun c30 => ?_)
      · replace h := ie c30 h
        refine j_aload_n K dX8_drawn_37 rfl 1 rfl ?_
        obtain ⟨v38, e38, h⟩ := bd h
        refine fgX8_265 K dX8_drawn_38 e38 ?_
        exact j_sub [] rfl (w_X8_drawn_41 K X h)
      · replace h := it c30 h
        refine j_iload_n K dX8_drawn_33 rfl 0 rfl ?_
        refine j_goto K dX8_drawn_34 ?_
        exact j_sub [] rfl (w_X8_drawn_41 K X h)
    · replace h := it c17 h
      exact j_sub [] rfl (w_X8_drawn_20 K X h)
theorem c_X8_drawn {l : Launch} {fu : Nat} {S : Hp} {o : Nat} {x1 : Int32} {x2 : Int32} {res : Int32 × Hp} (h : F_X8_drawn fu S o x1 x2 = some res) : Ct l yX8_drawn cX8_drawn 4 (some .int) (rmd 7 0 0) 0 0 [vR (some o), vI x1, vI x2] S (QI res) :=
  z_entry (by decide +kernel) (Nat.le_of_ble_eq_true rfl) (fun E ad K X => w_X8_drawn K X h)

theorem dX8_odds_0 : decode cX8_odds 0 = .ok (.iload_n 1, 1) ∧ 0 + 1 = 1 := ⟨by decide +kernel, rfl⟩
theorem dX8_odds_1 : decode cX8_odds 1 = .ok (.iconst 0, 1) ∧ 1 + 1 = 2 := ⟨by decide +kernel, rfl⟩
theorem dX8_odds_2 : decode cX8_odds 2 = .ok (.ldc_w 268, 3) ∧ 2 + 3 = 5 := ⟨by decide +kernel, rfl⟩
theorem dX8_odds_5 : decode cX8_odds 5 = .ok (.invokestatic 87, 3) := by decide +kernel
theorem dX8_odds_8 : decode cX8_odds 8 = .ok (.ifCond .eq 31, 3) ∧ 8 + 3 = 11 ∧ ((8 : Nat) : Int) + (31) = ((39 : Nat) : Int) := ⟨by decide +kernel, rfl, by decide⟩
theorem dX8_odds_11 : decode cX8_odds 11 = .ok (.iload_n 2, 1) ∧ 11 + 1 = 12 := ⟨by decide +kernel, rfl⟩
theorem dX8_odds_12 : decode cX8_odds 12 = .ok (.iconst 1, 1) ∧ 12 + 1 = 13 := ⟨by decide +kernel, rfl⟩
theorem dX8_odds_13 : decode cX8_odds 13 = .ok (.bipush 40, 2) ∧ 13 + 2 = 15 := ⟨by decide +kernel, rfl⟩
theorem dX8_odds_15 : decode cX8_odds 15 = .ok (.invokestatic 87, 3) := by decide +kernel
theorem dX8_odds_18 : decode cX8_odds 18 = .ok (.ifCond .eq 21, 3) ∧ 18 + 3 = 21 ∧ ((18 : Nat) : Int) + (21) = ((39 : Nat) : Int) := ⟨by decide +kernel, rfl, by decide⟩
theorem dX8_odds_21 : decode cX8_odds 21 = .ok (.aload_n 0, 1) ∧ 21 + 1 = 22 := ⟨by decide +kernel, rfl⟩
theorem dX8_odds_22 : decode cX8_odds 22 = .ok (.iload_n 3, 1) ∧ 22 + 1 = 23 := ⟨by decide +kernel, rfl⟩
theorem dX8_odds_23 : decode cX8_odds 23 = .ok (.invokevirtual 182, 3) := by decide +kernel
theorem dX8_odds_26 : decode cX8_odds 26 = .ok (.ifCond .eq 13, 3) ∧ 26 + 3 = 29 ∧ ((26 : Nat) : Int) + (13) = ((39 : Nat) : Int) := ⟨by decide +kernel, rfl, by decide⟩
theorem dX8_odds_29 : decode cX8_odds 29 = .ok (.iload 4, 2) ∧ 29 + 2 = 31 := ⟨by decide +kernel, rfl⟩
theorem dX8_odds_31 : decode cX8_odds 31 = .ok (.iconst 0, 1) ∧ 31 + 1 = 32 := ⟨by decide +kernel, rfl⟩
theorem dX8_odds_32 : decode cX8_odds 32 = .ok (.iconst 1, 1) ∧ 32 + 1 = 33 := ⟨by decide +kernel, rfl⟩
theorem dX8_odds_33 : decode cX8_odds 33 = .ok (.invokestatic 87, 3) := by decide +kernel
theorem dX8_odds_36 : decode cX8_odds 36 = .ok (.ifCond .ne 7, 3) ∧ 36 + 3 = 39 ∧ ((36 : Nat) : Int) + (7) = ((43 : Nat) : Int) := ⟨by decide +kernel, rfl, by decide⟩
theorem dX8_odds_39 : decode cX8_odds 39 = .ok (.ldc2_w 247, 3) ∧ 39 + 3 = 42 := ⟨by decide +kernel, rfl⟩
theorem dX8_odds_42 : decode cX8_odds 42 = .ok (.lreturn, 1) := by decide +kernel
theorem dX8_odds_43 : decode cX8_odds 43 = .ok (.lconst 0, 1) ∧ 43 + 1 = 44 := ⟨by decide +kernel, rfl⟩
theorem dX8_odds_44 : decode cX8_odds 44 = .ok (.lstore 5, 2) ∧ 44 + 2 = 46 := ⟨by decide +kernel, rfl⟩
theorem dX8_odds_46 : decode cX8_odds 46 = .ok (.iconst 0, 1) ∧ 46 + 1 = 47 := ⟨by decide +kernel, rfl⟩
theorem dX8_odds_47 : decode cX8_odds 47 = .ok (.istore 7, 2) ∧ 47 + 2 = 49 := ⟨by decide +kernel, rfl⟩
theorem dX8_odds_49 : decode cX8_odds 49 = .ok (.iload 7, 2) ∧ 49 + 2 = 51 := ⟨by decide +kernel, rfl⟩
theorem dX8_odds_51 : decode cX8_odds 51 = .ok (.iload_n 2, 1) ∧ 51 + 1 = 52 := ⟨by decide +kernel, rfl⟩
theorem dX8_odds_52 : decode cX8_odds 52 = .ok (.if_icmp .ge 27, 3) ∧ 52 + 3 = 55 ∧ ((52 : Nat) : Int) + (27) = ((79 : Nat) : Int) := ⟨by decide +kernel, rfl, by decide⟩
theorem dX8_odds_55 : decode cX8_odds 55 = .ok (.lload 5, 2) ∧ 55 + 2 = 57 := ⟨by decide +kernel, rfl⟩
theorem dX8_odds_57 : decode cX8_odds 57 = .ok (.aload_n 0, 1) ∧ 57 + 1 = 58 := ⟨by decide +kernel, rfl⟩
theorem dX8_odds_58 : decode cX8_odds 58 = .ok (.iload_n 1, 1) ∧ 58 + 1 = 59 := ⟨by decide +kernel, rfl⟩
theorem dX8_odds_59 : decode cX8_odds 59 = .ok (.iload 7, 2) ∧ 59 + 2 = 61 := ⟨by decide +kernel, rfl⟩
theorem dX8_odds_61 : decode cX8_odds 61 = .ok (.iadd, 1) ∧ 61 + 1 = 62 := ⟨by decide +kernel, rfl⟩
theorem dX8_odds_62 : decode cX8_odds 62 = .ok (.invokevirtual 269, 3) := by decide +kernel
theorem dX8_odds_65 : decode cX8_odds 65 = .ok (.iload_n 3, 1) ∧ 65 + 1 = 66 := ⟨by decide +kernel, rfl⟩
theorem dX8_odds_66 : decode cX8_odds 66 = .ok (.ishr, 1) ∧ 66 + 1 = 67 := ⟨by decide +kernel, rfl⟩
theorem dX8_odds_67 : decode cX8_odds 67 = .ok (.iconst 1, 1) ∧ 67 + 1 = 68 := ⟨by decide +kernel, rfl⟩
theorem dX8_odds_68 : decode cX8_odds 68 = .ok (.iand, 1) ∧ 68 + 1 = 69 := ⟨by decide +kernel, rfl⟩
theorem dX8_odds_69 : decode cX8_odds 69 = .ok (.i2l, 1) ∧ 69 + 1 = 70 := ⟨by decide +kernel, rfl⟩
theorem dX8_odds_70 : decode cX8_odds 70 = .ok (.ladd, 1) ∧ 70 + 1 = 71 := ⟨by decide +kernel, rfl⟩
theorem dX8_odds_71 : decode cX8_odds 71 = .ok (.lstore 5, 2) ∧ 71 + 2 = 73 := ⟨by decide +kernel, rfl⟩
theorem dX8_odds_73 : decode cX8_odds 73 = .ok (.iinc 7 1, 3) ∧ 73 + 3 = 76 := ⟨by decide +kernel, rfl⟩
theorem dX8_odds_76 : decode cX8_odds 76 = .ok (.goto (-27), 3) ∧ ((76 : Nat) : Int) + (-27) = ((49 : Nat) : Int) := ⟨by decide +kernel, by decide⟩
theorem dX8_odds_79 : decode cX8_odds 79 = .ok (.lload 5, 2) ∧ 79 + 2 = 81 := ⟨by decide +kernel, rfl⟩
theorem dX8_odds_81 : decode cX8_odds 81 = .ok (.iload_n 2, 1) ∧ 81 + 1 = 82 := ⟨by decide +kernel, rfl⟩
theorem dX8_odds_82 : decode cX8_odds 82 = .ok (.i2l, 1) ∧ 82 + 1 = 83 := ⟨by decide +kernel, rfl⟩
theorem dX8_odds_83 : decode cX8_odds 83 = .ok (.iload 4, 2) ∧ 83 + 2 = 85 := ⟨by decide +kernel, rfl⟩
theorem dX8_odds_85 : decode cX8_odds 85 = .ok (.invokestatic 249, 3) := by decide +kernel
theorem dX8_odds_88 : decode cX8_odds 88 = .ok (.lreturn, 1) := by decide +kernel
def B_X8_odds_39 (fu : Nat) (o : Nat) (S : Hp) : Option (Int64 × Hp) :=
  some ((-4611686018427387904 : Int64), S)
set_option maxRecDepth 100000 in
set_option maxHeartbeats 4000000 in
theorem w_X8_odds_39 {E : Cx} {l : Launch} {res : Int64 × Hp} {ad : Nat → Nat} {fu : Nat} {o : Nat} {S : Hp} (K : Kx E cX8_odds RX8 (rmd 7 0 0)) (X : Bx E l yX8_odds 8 (some .long) 0 0 ad (QL res)) (h : B_X8_odds_39 fu o S = some res) : J E 0 0 39 [] [] S ad := by
  refine j_ldc2 K dX8_odds_39 z1156 ?_
  exact j_lret K X dX8_odds_42 h
def L_X8_odds_49 (k49 : Hp → Int64 → Int32 → Option (Int64 × Hp)) (fu : Nat) (o : Nat) (x1 : Int32) (x2 : Int32) (x3 : Int32) (x4 : Int32) (S : Hp) (x5 : Int64) (x7 : Int32) : Option (Int64 × Hp) :=
  if x2 ≤ x7 then
    b2 (F_X8_lowest fu S x5 x2.toInt64 x4) fun v85 S85 =>
    some (v85, S85)
  else
    (ob S 6 (some o)).bind fun _ =>
    b2 (F_X8_byLots fu S o (x1 + x7)) fun v62 S62 =>
    k49 S62 (x5 + ((v62 >>> (x3 &&& 31)) &&& (1 : Int32)).toInt64) (x7 + (1 : Int32))
set_option maxRecDepth 100000 in
set_option maxHeartbeats 4000000 in
theorem wl_X8_odds_49 {E : Cx} {l : Launch} {res : Int64 × Hp} {ad : Nat → Nat} {k49 : Hp → Int64 → Int32 → Option (Int64 × Hp)} {fu : Nat} {o : Nat} {S : Hp} {x1 : Int32} {x2 : Int32} {x3 : Int32} {x4 : Int32} {x5 : Int64} {x7 : Int32} (K : Kx E cX8_odds RX8 (rmd 7 0 0)) (X : Bx E l yX8_odds 8 (some .long) 0 0 ad (QL res)) (hk49 : ∀ (S : Hp) (x5 : Int64) (x7 : Int32), k49 S x5 x7 = some res → J E 0 0 49 [(0, vR (some o)), (1, vI x1), (2, vI x2), (3, vI x3), (4, vI x4), (5, vJ x5), (7, vI x7)] [] S ad) (h : L_X8_odds_49 k49 fu o x1 x2 x3 x4 S x5 x7 = some res) : J E 0 0 49 [(0, vR (some o)), (1, vI x1), (2, vI x2), (3, vI x3), (4, vI x4), (5, vJ x5), (7, vI x7)] [] S ad := by
  refine j_iload K dX8_odds_49 6 rfl ?_
  refine j_iload_n K dX8_odds_51 rfl 2 rfl ?_
  refine j_icmp_ge K dX8_odds_52 (fun c52 => ?_) (fun c52 => ?_)
  · replace h := it c52 h
    refine j_lload K dX8_odds_79 5 rfl ?_
    refine j_iload_n K dX8_odds_81 rfl 2 rfl ?_
    refine j_i2l K dX8_odds_82 ?_
    refine j_iload K dX8_odds_83 4 rfl ?_
    obtain ⟨v85, S85, e85, h⟩ := bd2 h
    refine j_cL (st := []) K (r_S (vs := [vJ x5, vJ x2.toInt64, vI x4]) (n := 3) K (c_X8_lowest e85) dX8_odds_85 z1157 z1158 z13 z1159 ⟨zd_X8_lowest, rfl, rfl, rfl, ⟨Nat.le_of_ble_eq_true rfl, Nat.le_of_ble_eq_true rfl⟩, Nat.le_of_ble_eq_true rfl, Nat.le_of_ble_eq_true rfl, Nat.le_of_ble_eq_true rfl⟩) rfl ?_
    exact j_lret K X dX8_odds_88 h
  · replace h := ie c52 h
    refine j_lload K dX8_odds_55 5 rfl ?_
    refine j_aload_n K dX8_odds_57 rfl 0 rfl ?_
    refine j_iload_n K dX8_odds_58 rfl 1 rfl ?_
    refine j_iload K dX8_odds_59 6 rfl ?_
    refine j_iadd K dX8_odds_61 ?_
    obtain ⟨w62, ew62, h⟩ := bd h
    have ho62 := obS ew62
    obtain ⟨v62, S62, e62, h⟩ := bd2 h
    refine j_cI (st := [vJ x5]) K (r_V (vs := [vI (x1 + x7)]) (n := 1) (o := o) K (c_X8_byLots e62) ho62 (by decide) rfl dX8_odds_62 z1201 z1203 zs59 z13 z1204 ⟨zd_X8_byLots, rfl, rfl, rfl, ⟨Nat.le_of_ble_eq_true rfl, Nat.le_of_ble_eq_true rfl⟩, Nat.le_of_ble_eq_true rfl, Nat.le_of_ble_eq_true rfl, Nat.le_of_ble_eq_true rfl⟩) rfl ?_
    refine j_iload_n K dX8_odds_65 rfl 3 rfl ?_
    refine j_ishr K dX8_odds_66 ?_
    refine j_iconst (v := (1 : Int32)) K dX8_odds_67 (by decide) ?_
    refine j_iand K dX8_odds_68 ?_
    refine j_i2l K dX8_odds_69 ?_
    refine j_ladd K dX8_odds_70 ?_
    refine j_lstore (lv' := [(5, vJ (x5 + ((v62 >>> (x3 &&& 31)) &&& (1 : Int32)).toInt64)), (0, vR (some o)), (1, vI x1), (2, vI x2), (3, vI x3), (4, vI x4), (7, vI x7)]) K dX8_odds_71 X.2.2.1 (by decide) rfl ?_
    refine j_iinc (q := 6) (v := (x7 + (1 : Int32))) (lv' := [(7, vI (x7 + (1 : Int32))), (5, vJ (x5 + ((v62 >>> (x3 &&& 31)) &&& (1 : Int32)).toInt64)), (0, vR (some o)), (1, vI x1), (2, vI x2), (3, vI x3), (4, vI x4)]) K dX8_odds_73 rfl rfl X.2.2.1 (by decide) rfl ?_
    refine j_goto K dX8_odds_76 ?_
    exact j_sub [2, 3, 4, 5, 6, 1, 0] rfl (hk49 _ _ _ h)
def B_X8_odds_49 (fu : Nat) (o : Nat) (x1 : Int32) (x2 : Int32) (x3 : Int32) (x4 : Int32) : Nat → Hp → Int64 → Int32 → Option (Int64 × Hp)
  | 0 => fun _ _ _ => none
  | n + 1 => L_X8_odds_49 (B_X8_odds_49 fu o x1 x2 x3 x4 n) fu o x1 x2 x3 x4
theorem w_X8_odds_49 {E : Cx} {l : Launch} {res : Int64 × Hp} {ad : Nat → Nat} {fu : Nat} {o : Nat} {x1 : Int32} {x2 : Int32} {x3 : Int32} {x4 : Int32} (K : Kx E cX8_odds RX8 (rmd 7 0 0)) (X : Bx E l yX8_odds 8 (some .long) 0 0 ad (QL res)) : ∀ (n : Nat) (S : Hp) (x5 : Int64) (x7 : Int32), B_X8_odds_49 fu o x1 x2 x3 x4 n S x5 x7 = some res → J E 0 0 49 [(0, vR (some o)), (1, vI x1), (2, vI x2), (3, vI x3), (4, vI x4), (5, vJ x5), (7, vI x7)] [] S ad := by
  intro n
  induction n with
  | zero =>
    intro S x5 x7 h
    cases h
  | succ n ih =>
    intro S x5 x7 h
    exact wl_X8_odds_49 K X ih h
def F_X8_odds (fu : Nat) (S : Hp) (o : Nat) (x1 : Int32) (x2 : Int32) (x3 : Int32) (x4 : Int32) : Option (Int64 × Hp) :=
  b2 (F_X8_in S x1 (0 : Int32) (99999 : Int32)) fun v5 S5 =>
  if v5 = 0 then
    B_X8_odds_39 fu o S5
  else
    b2 (F_X8_in S5 x2 (1 : Int32) (40 : Int32)) fun v15 S15 =>
    if v15 = 0 then
      B_X8_odds_39 fu o S15
    else
      (ob S15 6 (some o)).bind fun _ =>
      b2 (F_X8_isOne S15 o x3) fun v23 S23 =>
      if v23 = 0 then
        B_X8_odds_39 fu o S23
      else
        b2 (F_X8_in S23 x4 (0 : Int32) (1 : Int32)) fun v33 S33 =>
        if v33 = 0 then
          B_X8_odds_39 fu o S33
        else
          B_X8_odds_49 fu o x1 x2 x3 x4 fu S33 (0 : Int64) (0 : Int32)
set_option maxRecDepth 100000 in
set_option maxHeartbeats 4000000 in
theorem w_X8_odds {E : Cx} {l : Launch} {res : Int64 × Hp} {ad : Nat → Nat} {fu : Nat} {S : Hp} {o : Nat} {x1 : Int32} {x2 : Int32} {x3 : Int32} {x4 : Int32} (K : Kx E cX8_odds RX8 (rmd 7 0 0)) (X : Bx E l yX8_odds 8 (some .long) 0 0 ad (QL res)) (h : F_X8_odds fu S o x1 x2 x3 x4 = some res) : J E 0 0 0 [(0, vR (some o)), (1, vI x1), (2, vI x2), (3, vI x3), (4, vI x4)] [] S ad := by
  refine j_iload_n K dX8_odds_0 rfl 1 rfl ?_
  refine j_iconst (v := (0 : Int32)) K dX8_odds_1 (by decide) ?_
  refine j_ldcw K dX8_odds_2 z1200 ?_
  obtain ⟨v5, S5, e5, h⟩ := bd2 h
  refine j_cI (st := []) K (r_S (vs := [vI x1, vI (0 : Int32), vI (99999 : Int32)]) (n := 3) K (c_X8_in e5) dX8_odds_5 z812 z813 z13 z814 ⟨zd_X8_in, rfl, rfl, rfl, ⟨Nat.le_of_ble_eq_true rfl, Nat.le_of_ble_eq_true rfl⟩, Nat.le_of_ble_eq_true rfl, Nat.le_of_ble_eq_true rfl, Nat.le_of_ble_eq_true rfl⟩) rfl ?_
  refine j_if_eq K dX8_odds_8 (fun c8 => ?_) (fun c8 => ?_)
  · replace h := it c8 h
    exact j_sub [] rfl (w_X8_odds_39 K X h)
  · replace h := ie c8 h
    refine j_iload_n K dX8_odds_11 rfl 2 rfl ?_
    refine j_iconst (v := (1 : Int32)) K dX8_odds_12 (by decide) ?_
    refine j_bipush (v := (40 : Int32)) K dX8_odds_13 (by decide) ?_
    obtain ⟨v15, S15, e15, h⟩ := bd2 h
    refine j_cI (st := []) K (r_S (vs := [vI x2, vI (1 : Int32), vI (40 : Int32)]) (n := 3) K (c_X8_in e15) dX8_odds_15 z812 z813 z13 z814 ⟨zd_X8_in, rfl, rfl, rfl, ⟨Nat.le_of_ble_eq_true rfl, Nat.le_of_ble_eq_true rfl⟩, Nat.le_of_ble_eq_true rfl, Nat.le_of_ble_eq_true rfl, Nat.le_of_ble_eq_true rfl⟩) rfl ?_
    refine j_if_eq K dX8_odds_18 (fun c18 => ?_) (fun c18 => ?_)
    · replace h := it c18 h
      exact j_sub [] rfl (w_X8_odds_39 K X h)
    · replace h := ie c18 h
      refine j_aload_n K dX8_odds_21 rfl 0 rfl ?_
      refine j_iload_n K dX8_odds_22 rfl 3 rfl ?_
      obtain ⟨w23, ew23, h⟩ := bd h
      have ho23 := obS ew23
      obtain ⟨v23, S23, e23, h⟩ := bd2 h
      refine j_cI (st := []) K (r_V (vs := [vI x3]) (n := 1) (o := o) K (c_X8_isOne e23) ho23 (by decide) rfl dX8_odds_23 z1003 z1005 zs35 z13 z1006 ⟨zd_X8_isOne, rfl, rfl, rfl, ⟨Nat.le_of_ble_eq_true rfl, Nat.le_of_ble_eq_true rfl⟩, Nat.le_of_ble_eq_true rfl, Nat.le_of_ble_eq_true rfl, Nat.le_of_ble_eq_true rfl⟩) rfl ?_
      refine j_if_eq K dX8_odds_26 (fun c26 => ?_) (fun c26 => ?_)
      · replace h := it c26 h
        exact j_sub [] rfl (w_X8_odds_39 K X h)
      · replace h := ie c26 h
        refine j_iload K dX8_odds_29 4 rfl ?_
        refine j_iconst (v := (0 : Int32)) K dX8_odds_31 (by decide) ?_
        refine j_iconst (v := (1 : Int32)) K dX8_odds_32 (by decide) ?_
        obtain ⟨v33, S33, e33, h⟩ := bd2 h
        refine j_cI (st := []) K (r_S (vs := [vI x4, vI (0 : Int32), vI (1 : Int32)]) (n := 3) K (c_X8_in e33) dX8_odds_33 z812 z813 z13 z814 ⟨zd_X8_in, rfl, rfl, rfl, ⟨Nat.le_of_ble_eq_true rfl, Nat.le_of_ble_eq_true rfl⟩, Nat.le_of_ble_eq_true rfl, Nat.le_of_ble_eq_true rfl, Nat.le_of_ble_eq_true rfl⟩) rfl ?_
        refine j_if_ne K dX8_odds_36 (fun c36 => ?_) (fun c36 => ?_)
        · replace h := ie c36 h
          refine j_lconst (v := (0 : Int64)) K dX8_odds_43 (by decide) ?_
          refine j_lstore (lv' := [(5, vJ (0 : Int64)), (0, vR (some o)), (1, vI x1), (2, vI x2), (3, vI x3), (4, vI x4)]) K dX8_odds_44 X.2.2.1 (by decide) rfl ?_
          refine j_iconst (v := (0 : Int32)) K dX8_odds_46 (by decide) ?_
          refine j_istore (lv' := [(7, vI (0 : Int32)), (5, vJ (0 : Int64)), (0, vR (some o)), (1, vI x1), (2, vI x2), (3, vI x3), (4, vI x4)]) K dX8_odds_47 X.2.2.1 (by decide) rfl ?_
          exact j_sub [2, 3, 4, 5, 6, 1, 0] rfl (w_X8_odds_49 K X _ _ _ _ h)
        · replace h := it c36 h
          exact j_sub [] rfl (w_X8_odds_39 K X h)
theorem c_X8_odds {l : Launch} {fu : Nat} {S : Hp} {o : Nat} {x1 : Int32} {x2 : Int32} {x3 : Int32} {x4 : Int32} {res : Int64 × Hp} (h : F_X8_odds fu S o x1 x2 x3 x4 = some res) : Ct l yX8_odds cX8_odds 8 (some .long) (rmd 7 0 0) 0 0 [vR (some o), vI x1, vI x2, vI x3, vI x4] S (QL res) :=
  z_entry (by decide +kernel) (Nat.le_of_ble_eq_true rfl) (fun E ad K X => w_X8_odds K X h)

theorem dX8_image_0 : decode cX8_image 0 = .ok (.aload_n 0, 1) ∧ 0 + 1 = 1 := ⟨by decide +kernel, rfl⟩
theorem dX8_image_1 : decode cX8_image 1 = .ok (.iconst 1, 1) ∧ 1 + 1 = 2 := ⟨by decide +kernel, rfl⟩
theorem dX8_image_2 : decode cX8_image 2 = .ok (.putfield 272, 3) ∧ 2 + 3 = 5 := ⟨by decide +kernel, rfl⟩
theorem dX8_image_5 : decode cX8_image 5 = .ok (.iconst 0, 1) ∧ 5 + 1 = 6 := ⟨by decide +kernel, rfl⟩
theorem dX8_image_6 : decode cX8_image 6 = .ok (.istore_n 1, 1) ∧ 6 + 1 = 7 := ⟨by decide +kernel, rfl⟩
theorem dX8_image_7 : decode cX8_image 7 = .ok (.iload_n 1, 1) ∧ 7 + 1 = 8 := ⟨by decide +kernel, rfl⟩
theorem dX8_image_8 : decode cX8_image 8 = .ok (.bipush 10, 2) ∧ 8 + 2 = 10 := ⟨by decide +kernel, rfl⟩
theorem dX8_image_10 : decode cX8_image 10 = .ok (.if_icmp .ge 51, 3) ∧ 10 + 3 = 13 ∧ ((10 : Nat) : Int) + (51) = ((61 : Nat) : Int) := ⟨by decide +kernel, rfl, by decide⟩
theorem dX8_image_13 : decode cX8_image 13 = .ok (.aload_n 0, 1) ∧ 13 + 1 = 14 := ⟨by decide +kernel, rfl⟩
theorem dX8_image_14 : decode cX8_image 14 = .ok (.getfield 37, 3) ∧ 14 + 3 = 17 := ⟨by decide +kernel, rfl⟩
theorem dX8_image_17 : decode cX8_image 17 = .ok (.iload_n 1, 1) ∧ 17 + 1 = 18 := ⟨by decide +kernel, rfl⟩
theorem dX8_image_18 : decode cX8_image 18 = .ok (.aload_n 0, 1) ∧ 18 + 1 = 19 := ⟨by decide +kernel, rfl⟩
theorem dX8_image_19 : decode cX8_image 19 = .ok (.getfield 19, 3) ∧ 19 + 3 = 22 := ⟨by decide +kernel, rfl⟩
theorem dX8_image_22 : decode cX8_image 22 = .ok (.iload_n 1, 1) ∧ 22 + 1 = 23 := ⟨by decide +kernel, rfl⟩
theorem dX8_image_23 : decode cX8_image 23 = .ok (.iaload, 1) ∧ 23 + 1 = 24 := ⟨by decide +kernel, rfl⟩
theorem dX8_image_24 : decode cX8_image 24 = .ok (.iastore, 1) ∧ 24 + 1 = 25 := ⟨by decide +kernel, rfl⟩
theorem dX8_image_25 : decode cX8_image 25 = .ok (.aload_n 0, 1) ∧ 25 + 1 = 26 := ⟨by decide +kernel, rfl⟩
theorem dX8_image_26 : decode cX8_image 26 = .ok (.getfield 37, 3) ∧ 26 + 3 = 29 := ⟨by decide +kernel, rfl⟩
theorem dX8_image_29 : decode cX8_image 29 = .ok (.bipush 10, 2) ∧ 29 + 2 = 31 := ⟨by decide +kernel, rfl⟩
theorem dX8_image_31 : decode cX8_image 31 = .ok (.iload_n 1, 1) ∧ 31 + 1 = 32 := ⟨by decide +kernel, rfl⟩
theorem dX8_image_32 : decode cX8_image 32 = .ok (.iadd, 1) ∧ 32 + 1 = 33 := ⟨by decide +kernel, rfl⟩
theorem dX8_image_33 : decode cX8_image 33 = .ok (.aload_n 0, 1) ∧ 33 + 1 = 34 := ⟨by decide +kernel, rfl⟩
theorem dX8_image_34 : decode cX8_image 34 = .ok (.getfield 22, 3) ∧ 34 + 3 = 37 := ⟨by decide +kernel, rfl⟩
theorem dX8_image_37 : decode cX8_image 37 = .ok (.iload_n 1, 1) ∧ 37 + 1 = 38 := ⟨by decide +kernel, rfl⟩
theorem dX8_image_38 : decode cX8_image 38 = .ok (.iaload, 1) ∧ 38 + 1 = 39 := ⟨by decide +kernel, rfl⟩
theorem dX8_image_39 : decode cX8_image 39 = .ok (.iastore, 1) ∧ 39 + 1 = 40 := ⟨by decide +kernel, rfl⟩
theorem dX8_image_40 : decode cX8_image 40 = .ok (.aload_n 0, 1) ∧ 40 + 1 = 41 := ⟨by decide +kernel, rfl⟩
theorem dX8_image_41 : decode cX8_image 41 = .ok (.getfield 37, 3) ∧ 41 + 3 = 44 := ⟨by decide +kernel, rfl⟩
theorem dX8_image_44 : decode cX8_image 44 = .ok (.bipush 20, 2) ∧ 44 + 2 = 46 := ⟨by decide +kernel, rfl⟩
theorem dX8_image_46 : decode cX8_image 46 = .ok (.iload_n 1, 1) ∧ 46 + 1 = 47 := ⟨by decide +kernel, rfl⟩
theorem dX8_image_47 : decode cX8_image 47 = .ok (.iadd, 1) ∧ 47 + 1 = 48 := ⟨by decide +kernel, rfl⟩
theorem dX8_image_48 : decode cX8_image 48 = .ok (.aload_n 0, 1) ∧ 48 + 1 = 49 := ⟨by decide +kernel, rfl⟩
theorem dX8_image_49 : decode cX8_image 49 = .ok (.getfield 25, 3) ∧ 49 + 3 = 52 := ⟨by decide +kernel, rfl⟩
theorem dX8_image_52 : decode cX8_image 52 = .ok (.iload_n 1, 1) ∧ 52 + 1 = 53 := ⟨by decide +kernel, rfl⟩
theorem dX8_image_53 : decode cX8_image 53 = .ok (.iaload, 1) ∧ 53 + 1 = 54 := ⟨by decide +kernel, rfl⟩
theorem dX8_image_54 : decode cX8_image 54 = .ok (.iastore, 1) ∧ 54 + 1 = 55 := ⟨by decide +kernel, rfl⟩
theorem dX8_image_55 : decode cX8_image 55 = .ok (.iinc 1 1, 3) ∧ 55 + 3 = 58 := ⟨by decide +kernel, rfl⟩
theorem dX8_image_58 : decode cX8_image 58 = .ok (.goto (-51), 3) ∧ ((58 : Nat) : Int) + (-51) = ((7 : Nat) : Int) := ⟨by decide +kernel, by decide⟩
theorem dX8_image_61 : decode cX8_image 61 = .ok (.iconst 0, 1) ∧ 61 + 1 = 62 := ⟨by decide +kernel, rfl⟩
theorem dX8_image_62 : decode cX8_image 62 = .ok (.istore_n 1, 1) ∧ 62 + 1 = 63 := ⟨by decide +kernel, rfl⟩
theorem dX8_image_63 : decode cX8_image 63 = .ok (.iload_n 1, 1) ∧ 63 + 1 = 64 := ⟨by decide +kernel, rfl⟩
theorem dX8_image_64 : decode cX8_image 64 = .ok (.bipush 12, 2) ∧ 64 + 2 = 66 := ⟨by decide +kernel, rfl⟩
theorem dX8_image_66 : decode cX8_image 66 = .ok (.if_icmp .ge 24, 3) ∧ 66 + 3 = 69 ∧ ((66 : Nat) : Int) + (24) = ((90 : Nat) : Int) := ⟨by decide +kernel, rfl, by decide⟩
theorem dX8_image_69 : decode cX8_image 69 = .ok (.aload_n 0, 1) ∧ 69 + 1 = 70 := ⟨by decide +kernel, rfl⟩
theorem dX8_image_70 : decode cX8_image 70 = .ok (.getfield 37, 3) ∧ 70 + 3 = 73 := ⟨by decide +kernel, rfl⟩
theorem dX8_image_73 : decode cX8_image 73 = .ok (.bipush 30, 2) ∧ 73 + 2 = 75 := ⟨by decide +kernel, rfl⟩
theorem dX8_image_75 : decode cX8_image 75 = .ok (.iload_n 1, 1) ∧ 75 + 1 = 76 := ⟨by decide +kernel, rfl⟩
theorem dX8_image_76 : decode cX8_image 76 = .ok (.iadd, 1) ∧ 76 + 1 = 77 := ⟨by decide +kernel, rfl⟩
theorem dX8_image_77 : decode cX8_image 77 = .ok (.aload_n 0, 1) ∧ 77 + 1 = 78 := ⟨by decide +kernel, rfl⟩
theorem dX8_image_78 : decode cX8_image 78 = .ok (.getfield 16, 3) ∧ 78 + 3 = 81 := ⟨by decide +kernel, rfl⟩
theorem dX8_image_81 : decode cX8_image 81 = .ok (.iload_n 1, 1) ∧ 81 + 1 = 82 := ⟨by decide +kernel, rfl⟩
theorem dX8_image_82 : decode cX8_image 82 = .ok (.iaload, 1) ∧ 82 + 1 = 83 := ⟨by decide +kernel, rfl⟩
theorem dX8_image_83 : decode cX8_image 83 = .ok (.iastore, 1) ∧ 83 + 1 = 84 := ⟨by decide +kernel, rfl⟩
theorem dX8_image_84 : decode cX8_image 84 = .ok (.iinc 1 1, 3) ∧ 84 + 3 = 87 := ⟨by decide +kernel, rfl⟩
theorem dX8_image_87 : decode cX8_image 87 = .ok (.goto (-24), 3) ∧ ((87 : Nat) : Int) + (-24) = ((63 : Nat) : Int) := ⟨by decide +kernel, by decide⟩
theorem dX8_image_90 : decode cX8_image 90 = .ok (.aload_n 0, 1) ∧ 90 + 1 = 91 := ⟨by decide +kernel, rfl⟩
theorem dX8_image_91 : decode cX8_image 91 = .ok (.getfield 40, 3) ∧ 91 + 3 = 94 := ⟨by decide +kernel, rfl⟩
theorem dX8_image_94 : decode cX8_image 94 = .ok (.iconst 0, 1) ∧ 94 + 1 = 95 := ⟨by decide +kernel, rfl⟩
theorem dX8_image_95 : decode cX8_image 95 = .ok (.aload_n 0, 1) ∧ 95 + 1 = 96 := ⟨by decide +kernel, rfl⟩
theorem dX8_image_96 : decode cX8_image 96 = .ok (.getfield 84, 3) ∧ 96 + 3 = 99 := ⟨by decide +kernel, rfl⟩
theorem dX8_image_99 : decode cX8_image 99 = .ok (.iastore, 1) ∧ 99 + 1 = 100 := ⟨by decide +kernel, rfl⟩
theorem dX8_image_100 : decode cX8_image 100 = .ok (.aload_n 0, 1) ∧ 100 + 1 = 101 := ⟨by decide +kernel, rfl⟩
theorem dX8_image_101 : decode cX8_image 101 = .ok (.getfield 40, 3) ∧ 101 + 3 = 104 := ⟨by decide +kernel, rfl⟩
theorem dX8_image_104 : decode cX8_image 104 = .ok (.iconst 1, 1) ∧ 104 + 1 = 105 := ⟨by decide +kernel, rfl⟩
theorem dX8_image_105 : decode cX8_image 105 = .ok (.aload_n 0, 1) ∧ 105 + 1 = 106 := ⟨by decide +kernel, rfl⟩
theorem dX8_image_106 : decode cX8_image 106 = .ok (.getfield 91, 3) ∧ 106 + 3 = 109 := ⟨by decide +kernel, rfl⟩
theorem dX8_image_109 : decode cX8_image 109 = .ok (.iastore, 1) ∧ 109 + 1 = 110 := ⟨by decide +kernel, rfl⟩
theorem dX8_image_110 : decode cX8_image 110 = .ok (.aload_n 0, 1) ∧ 110 + 1 = 111 := ⟨by decide +kernel, rfl⟩
theorem dX8_image_111 : decode cX8_image 111 = .ok (.getfield 40, 3) ∧ 111 + 3 = 114 := ⟨by decide +kernel, rfl⟩
theorem dX8_image_114 : decode cX8_image 114 = .ok (.iconst 2, 1) ∧ 114 + 1 = 115 := ⟨by decide +kernel, rfl⟩
theorem dX8_image_115 : decode cX8_image 115 = .ok (.aload_n 0, 1) ∧ 115 + 1 = 116 := ⟨by decide +kernel, rfl⟩
theorem dX8_image_116 : decode cX8_image 116 = .ok (.getfield 94, 3) ∧ 116 + 3 = 119 := ⟨by decide +kernel, rfl⟩
theorem dX8_image_119 : decode cX8_image 119 = .ok (.iastore, 1) ∧ 119 + 1 = 120 := ⟨by decide +kernel, rfl⟩
theorem dX8_image_120 : decode cX8_image 120 = .ok (.aload_n 0, 1) ∧ 120 + 1 = 121 := ⟨by decide +kernel, rfl⟩
theorem dX8_image_121 : decode cX8_image 121 = .ok (.getfield 40, 3) ∧ 121 + 3 = 124 := ⟨by decide +kernel, rfl⟩
theorem dX8_image_124 : decode cX8_image 124 = .ok (.iconst 3, 1) ∧ 124 + 1 = 125 := ⟨by decide +kernel, rfl⟩
theorem dX8_image_125 : decode cX8_image 125 = .ok (.aload_n 0, 1) ∧ 125 + 1 = 126 := ⟨by decide +kernel, rfl⟩
theorem dX8_image_126 : decode cX8_image 126 = .ok (.getfield 100, 3) ∧ 126 + 3 = 129 := ⟨by decide +kernel, rfl⟩
theorem dX8_image_129 : decode cX8_image 129 = .ok (.iastore, 1) ∧ 129 + 1 = 130 := ⟨by decide +kernel, rfl⟩
theorem dX8_image_130 : decode cX8_image 130 = .ok (.aload_n 0, 1) ∧ 130 + 1 = 131 := ⟨by decide +kernel, rfl⟩
theorem dX8_image_131 : decode cX8_image 131 = .ok (.getfield 84, 3) ∧ 131 + 3 = 134 := ⟨by decide +kernel, rfl⟩
theorem dX8_image_134 : decode cX8_image 134 = .ok (.ireturn, 1) := by decide +kernel
def L_X8_image_63 (k63 : Hp → Int32 → Option (Int32 × Hp)) (fu : Nat) (o : Nat) (S : Hp) (x1 : Int32) : Option (Int32 × Hp) :=
  if (12 : Int32) ≤ x1 then
    (gR S (some o) 6 17).bind fun v91 =>
    (gI S (some o) 6 0).bind fun v96 =>
    (aP S v91 (0 : Int32) v96).bind fun S99 =>
    (gR S99 (some o) 6 17).bind fun v101 =>
    (gI S99 (some o) 6 7).bind fun v106 =>
    (aP S99 v101 (1 : Int32) v106).bind fun S109 =>
    (gR S109 (some o) 6 17).bind fun v111 =>
    (gI S109 (some o) 6 8).bind fun v116 =>
    (aP S109 v111 (2 : Int32) v116).bind fun S119 =>
    (gR S119 (some o) 6 17).bind fun v121 =>
    (gI S119 (some o) 6 14).bind fun v126 =>
    (aP S119 v121 (3 : Int32) v126).bind fun S129 =>
    (gI S129 (some o) 6 0).bind fun v131 =>
    some (v131, S129)
  else
    (gR S (some o) 6 16).bind fun v70 =>
    (gR S (some o) 6 3).bind fun v78 =>
    (aG S v78 x1).bind fun v82 =>
    (aP S v70 ((30 : Int32) + x1) v82).bind fun S83 =>
    k63 S83 (x1 + (1 : Int32))
set_option maxRecDepth 100000 in
set_option maxHeartbeats 4000000 in
theorem wl_X8_image_63 {E : Cx} {l : Launch} {res : Int32 × Hp} {ad : Nat → Nat} {k63 : Hp → Int32 → Option (Int32 × Hp)} {fu : Nat} {o : Nat} {S : Hp} {x1 : Int32} (K : Kx E cX8_image RX8 (rmd 0 0 0)) (X : Bx E l yX8_image 2 (some .int) 0 0 ad (QI res)) (hk63 : ∀ (S : Hp) (x1 : Int32), k63 S x1 = some res → J E 0 0 63 [(0, vR (some o)), (1, vI x1)] [] S ad) (h : L_X8_image_63 k63 fu o S x1 = some res) : J E 0 0 63 [(0, vR (some o)), (1, vI x1)] [] S ad := by
  refine j_iload_n K dX8_image_63 rfl 1 rfl ?_
  refine j_bipush (v := (12 : Int32)) K dX8_image_64 (by decide) ?_
  refine j_icmp_ge K dX8_image_66 (fun c66 => ?_) (fun c66 => ?_)
  · replace h := it c66 h
    refine j_aload_n K dX8_image_90 rfl 0 rfl ?_
    obtain ⟨v91, e91, h⟩ := bd h
    refine fgX8_40 K dX8_image_91 e91 ?_
    refine j_iconst (v := (0 : Int32)) K dX8_image_94 (by decide) ?_
    refine j_aload_n K dX8_image_95 rfl 0 rfl ?_
    obtain ⟨v96, e96, h⟩ := bd h
    refine fgX8_84 K dX8_image_96 e96 ?_
    obtain ⟨S99, e99, h⟩ := bd h
    refine j_aP K dX8_image_99 e99 ?_
    refine j_aload_n K dX8_image_100 rfl 0 rfl ?_
    obtain ⟨v101, e101, h⟩ := bd h
    refine fgX8_40 K dX8_image_101 e101 ?_
    refine j_iconst (v := (1 : Int32)) K dX8_image_104 (by decide) ?_
    refine j_aload_n K dX8_image_105 rfl 0 rfl ?_
    obtain ⟨v106, e106, h⟩ := bd h
    refine fgX8_91 K dX8_image_106 e106 ?_
    obtain ⟨S109, e109, h⟩ := bd h
    refine j_aP K dX8_image_109 e109 ?_
    refine j_aload_n K dX8_image_110 rfl 0 rfl ?_
    obtain ⟨v111, e111, h⟩ := bd h
    refine fgX8_40 K dX8_image_111 e111 ?_
    refine j_iconst (v := (2 : Int32)) K dX8_image_114 (by decide) ?_
    refine j_aload_n K dX8_image_115 rfl 0 rfl ?_
    obtain ⟨v116, e116, h⟩ := bd h
    refine fgX8_94 K dX8_image_116 e116 ?_
    obtain ⟨S119, e119, h⟩ := bd h
    refine j_aP K dX8_image_119 e119 ?_
    refine j_aload_n K dX8_image_120 rfl 0 rfl ?_
    obtain ⟨v121, e121, h⟩ := bd h
    refine fgX8_40 K dX8_image_121 e121 ?_
    refine j_iconst (v := (3 : Int32)) K dX8_image_124 (by decide) ?_
    refine j_aload_n K dX8_image_125 rfl 0 rfl ?_
    obtain ⟨v126, e126, h⟩ := bd h
    refine fgX8_100 K dX8_image_126 e126 ?_
    obtain ⟨S129, e129, h⟩ := bd h
    refine j_aP K dX8_image_129 e129 ?_
    refine j_aload_n K dX8_image_130 rfl 0 rfl ?_
    obtain ⟨v131, e131, h⟩ := bd h
    refine fgX8_84 K dX8_image_131 e131 ?_
    exact j_iret K X dX8_image_134 h
  · replace h := ie c66 h
    refine j_aload_n K dX8_image_69 rfl 0 rfl ?_
    obtain ⟨v70, e70, h⟩ := bd h
    refine fgX8_37 K dX8_image_70 e70 ?_
    refine j_bipush (v := (30 : Int32)) K dX8_image_73 (by decide) ?_
    refine j_iload_n K dX8_image_75 rfl 1 rfl ?_
    refine j_iadd K dX8_image_76 ?_
    refine j_aload_n K dX8_image_77 rfl 0 rfl ?_
    obtain ⟨v78, e78, h⟩ := bd h
    refine fgX8_16 K dX8_image_78 e78 ?_
    refine j_iload_n K dX8_image_81 rfl 1 rfl ?_
    obtain ⟨v82, e82, h⟩ := bd h
    refine j_aG K dX8_image_82 e82 ?_
    obtain ⟨S83, e83, h⟩ := bd h
    refine j_aP K dX8_image_83 e83 ?_
    refine j_iinc (q := 1) (v := (x1 + (1 : Int32))) (lv' := [(1, vI (x1 + (1 : Int32))), (0, vR (some o))]) K dX8_image_84 rfl rfl X.2.2.1 (by decide) rfl ?_
    refine j_goto K dX8_image_87 ?_
    exact j_sub [1, 0] rfl (hk63 _ _ h)
def B_X8_image_63 (fu : Nat) (o : Nat) : Nat → Hp → Int32 → Option (Int32 × Hp)
  | 0 => fun _ _ => none
  | n + 1 => L_X8_image_63 (B_X8_image_63 fu o n) fu o
theorem w_X8_image_63 {E : Cx} {l : Launch} {res : Int32 × Hp} {ad : Nat → Nat} {fu : Nat} {o : Nat} (K : Kx E cX8_image RX8 (rmd 0 0 0)) (X : Bx E l yX8_image 2 (some .int) 0 0 ad (QI res)) : ∀ (n : Nat) (S : Hp) (x1 : Int32), B_X8_image_63 fu o n S x1 = some res → J E 0 0 63 [(0, vR (some o)), (1, vI x1)] [] S ad := by
  intro n
  induction n with
  | zero =>
    intro S x1 h
    cases h
  | succ n ih =>
    intro S x1 h
    exact wl_X8_image_63 K X ih h
def L_X8_image_7 (k7 : Hp → Int32 → Option (Int32 × Hp)) (fu : Nat) (o : Nat) (S : Hp) (x1 : Int32) : Option (Int32 × Hp) :=
  if (10 : Int32) ≤ x1 then
    B_X8_image_63 fu o fu S (0 : Int32)
  else
    (gR S (some o) 6 16).bind fun v14 =>
    (gR S (some o) 6 4).bind fun v19 =>
    (aG S v19 x1).bind fun v23 =>
    (aP S v14 x1 v23).bind fun S24 =>
    (gR S24 (some o) 6 16).bind fun v26 =>
    (gR S24 (some o) 6 5).bind fun v34 =>
    (aG S24 v34 x1).bind fun v38 =>
    (aP S24 v26 ((10 : Int32) + x1) v38).bind fun S39 =>
    (gR S39 (some o) 6 16).bind fun v41 =>
    (gR S39 (some o) 6 6).bind fun v49 =>
    (aG S39 v49 x1).bind fun v53 =>
    (aP S39 v41 ((20 : Int32) + x1) v53).bind fun S54 =>
    k7 S54 (x1 + (1 : Int32))
set_option maxRecDepth 100000 in
set_option maxHeartbeats 4000000 in
theorem wl_X8_image_7 {E : Cx} {l : Launch} {res : Int32 × Hp} {ad : Nat → Nat} {k7 : Hp → Int32 → Option (Int32 × Hp)} {fu : Nat} {o : Nat} {S : Hp} {x1 : Int32} (K : Kx E cX8_image RX8 (rmd 0 0 0)) (X : Bx E l yX8_image 2 (some .int) 0 0 ad (QI res)) (hk7 : ∀ (S : Hp) (x1 : Int32), k7 S x1 = some res → J E 0 0 7 [(0, vR (some o)), (1, vI x1)] [] S ad) (h : L_X8_image_7 k7 fu o S x1 = some res) : J E 0 0 7 [(0, vR (some o)), (1, vI x1)] [] S ad := by
  refine j_iload_n K dX8_image_7 rfl 1 rfl ?_
  refine j_bipush (v := (10 : Int32)) K dX8_image_8 (by decide) ?_
  refine j_icmp_ge K dX8_image_10 (fun c10 => ?_) (fun c10 => ?_)
  · replace h := it c10 h
    refine j_iconst (v := (0 : Int32)) K dX8_image_61 (by decide) ?_
    refine j_istore_n (lv' := [(1, vI (0 : Int32)), (0, vR (some o))]) K dX8_image_62 rfl X.2.2.1 (by decide) rfl ?_
    exact j_sub [1, 0] rfl (w_X8_image_63 K X _ _ _ h)
  · replace h := ie c10 h
    refine j_aload_n K dX8_image_13 rfl 0 rfl ?_
    obtain ⟨v14, e14, h⟩ := bd h
    refine fgX8_37 K dX8_image_14 e14 ?_
    refine j_iload_n K dX8_image_17 rfl 1 rfl ?_
    refine j_aload_n K dX8_image_18 rfl 0 rfl ?_
    obtain ⟨v19, e19, h⟩ := bd h
    refine fgX8_19 K dX8_image_19 e19 ?_
    refine j_iload_n K dX8_image_22 rfl 1 rfl ?_
    obtain ⟨v23, e23, h⟩ := bd h
    refine j_aG K dX8_image_23 e23 ?_
    obtain ⟨S24, e24, h⟩ := bd h
    refine j_aP K dX8_image_24 e24 ?_
    refine j_aload_n K dX8_image_25 rfl 0 rfl ?_
    obtain ⟨v26, e26, h⟩ := bd h
    refine fgX8_37 K dX8_image_26 e26 ?_
    refine j_bipush (v := (10 : Int32)) K dX8_image_29 (by decide) ?_
    refine j_iload_n K dX8_image_31 rfl 1 rfl ?_
    refine j_iadd K dX8_image_32 ?_
    refine j_aload_n K dX8_image_33 rfl 0 rfl ?_
    obtain ⟨v34, e34, h⟩ := bd h
    refine fgX8_22 K dX8_image_34 e34 ?_
    refine j_iload_n K dX8_image_37 rfl 1 rfl ?_
    obtain ⟨v38, e38, h⟩ := bd h
    refine j_aG K dX8_image_38 e38 ?_
    obtain ⟨S39, e39, h⟩ := bd h
    refine j_aP K dX8_image_39 e39 ?_
    refine j_aload_n K dX8_image_40 rfl 0 rfl ?_
    obtain ⟨v41, e41, h⟩ := bd h
    refine fgX8_37 K dX8_image_41 e41 ?_
    refine j_bipush (v := (20 : Int32)) K dX8_image_44 (by decide) ?_
    refine j_iload_n K dX8_image_46 rfl 1 rfl ?_
    refine j_iadd K dX8_image_47 ?_
    refine j_aload_n K dX8_image_48 rfl 0 rfl ?_
    obtain ⟨v49, e49, h⟩ := bd h
    refine fgX8_25 K dX8_image_49 e49 ?_
    refine j_iload_n K dX8_image_52 rfl 1 rfl ?_
    obtain ⟨v53, e53, h⟩ := bd h
    refine j_aG K dX8_image_53 e53 ?_
    obtain ⟨S54, e54, h⟩ := bd h
    refine j_aP K dX8_image_54 e54 ?_
    refine j_iinc (q := 1) (v := (x1 + (1 : Int32))) (lv' := [(1, vI (x1 + (1 : Int32))), (0, vR (some o))]) K dX8_image_55 rfl rfl X.2.2.1 (by decide) rfl ?_
    refine j_goto K dX8_image_58 ?_
    exact j_sub [1, 0] rfl (hk7 _ _ h)
def B_X8_image_7 (fu : Nat) (o : Nat) : Nat → Hp → Int32 → Option (Int32 × Hp)
  | 0 => fun _ _ => none
  | n + 1 => L_X8_image_7 (B_X8_image_7 fu o n) fu o
theorem w_X8_image_7 {E : Cx} {l : Launch} {res : Int32 × Hp} {ad : Nat → Nat} {fu : Nat} {o : Nat} (K : Kx E cX8_image RX8 (rmd 0 0 0)) (X : Bx E l yX8_image 2 (some .int) 0 0 ad (QI res)) : ∀ (n : Nat) (S : Hp) (x1 : Int32), B_X8_image_7 fu o n S x1 = some res → J E 0 0 7 [(0, vR (some o)), (1, vI x1)] [] S ad := by
  intro n
  induction n with
  | zero =>
    intro S x1 h
    cases h
  | succ n ih =>
    intro S x1 h
    exact wl_X8_image_7 K X ih h
def F_X8_image (fu : Nat) (S : Hp) (o : Nat) : Option (Int32 × Hp) :=
  (pI S (some o) 6 15 (1 : Int32)).bind fun S2 =>
  B_X8_image_7 fu o fu S2 (0 : Int32)
set_option maxRecDepth 100000 in
set_option maxHeartbeats 4000000 in
theorem w_X8_image {E : Cx} {l : Launch} {res : Int32 × Hp} {ad : Nat → Nat} {fu : Nat} {S : Hp} {o : Nat} (K : Kx E cX8_image RX8 (rmd 0 0 0)) (X : Bx E l yX8_image 2 (some .int) 0 0 ad (QI res)) (h : F_X8_image fu S o = some res) : J E 0 0 0 [(0, vR (some o))] [] S ad := by
  refine j_aload_n K dX8_image_0 rfl 0 rfl ?_
  refine j_iconst (v := (1 : Int32)) K dX8_image_1 (by decide) ?_
  obtain ⟨S2, e2, h⟩ := bd h
  refine fpX8_272 K dX8_image_2 rfl rfl e2 ?_
  refine j_iconst (v := (0 : Int32)) K dX8_image_5 (by decide) ?_
  refine j_istore_n (lv' := [(1, vI (0 : Int32)), (0, vR (some o))]) K dX8_image_6 rfl X.2.2.1 (by decide) rfl ?_
  exact j_sub [1, 0] rfl (w_X8_image_7 K X _ _ _ h)
theorem c_X8_image {l : Launch} {fu : Nat} {S : Hp} {o : Nat} {res : Int32 × Hp} (h : F_X8_image fu S o = some res) : Ct l yX8_image cX8_image 2 (some .int) (rmd 0 0 0) 0 0 [vR (some o)] S (QI res) :=
  z_entry (by decide +kernel) (Nat.le_of_ble_eq_true rfl) (fun E ad K X => w_X8_image K X h)

theorem dX8_back_0 : decode cX8_back 0 = .ok (.aload_n 0, 1) ∧ 0 + 1 = 1 := ⟨by decide +kernel, rfl⟩
theorem dX8_back_1 : decode cX8_back 1 = .ok (.getfield 272, 3) ∧ 1 + 3 = 4 := ⟨by decide +kernel, rfl⟩
theorem dX8_back_4 : decode cX8_back 4 = .ok (.ifCond .ne 6, 3) ∧ 4 + 3 = 7 ∧ ((4 : Nat) : Int) + (6) = ((10 : Nat) : Int) := ⟨by decide +kernel, rfl, by decide⟩
theorem dX8_back_7 : decode cX8_back 7 = .ok (.bipush (-3), 2) ∧ 7 + 2 = 9 := ⟨by decide +kernel, rfl⟩
theorem dX8_back_9 : decode cX8_back 9 = .ok (.ireturn, 1) := by decide +kernel
theorem dX8_back_10 : decode cX8_back 10 = .ok (.iconst 0, 1) ∧ 10 + 1 = 11 := ⟨by decide +kernel, rfl⟩
theorem dX8_back_11 : decode cX8_back 11 = .ok (.istore_n 1, 1) ∧ 11 + 1 = 12 := ⟨by decide +kernel, rfl⟩
theorem dX8_back_12 : decode cX8_back 12 = .ok (.iload_n 1, 1) ∧ 12 + 1 = 13 := ⟨by decide +kernel, rfl⟩
theorem dX8_back_13 : decode cX8_back 13 = .ok (.bipush 10, 2) ∧ 13 + 2 = 15 := ⟨by decide +kernel, rfl⟩
theorem dX8_back_15 : decode cX8_back 15 = .ok (.if_icmp .ge 51, 3) ∧ 15 + 3 = 18 ∧ ((15 : Nat) : Int) + (51) = ((66 : Nat) : Int) := ⟨by decide +kernel, rfl, by decide⟩
theorem dX8_back_18 : decode cX8_back 18 = .ok (.aload_n 0, 1) ∧ 18 + 1 = 19 := ⟨by decide +kernel, rfl⟩
theorem dX8_back_19 : decode cX8_back 19 = .ok (.getfield 19, 3) ∧ 19 + 3 = 22 := ⟨by decide +kernel, rfl⟩
theorem dX8_back_22 : decode cX8_back 22 = .ok (.iload_n 1, 1) ∧ 22 + 1 = 23 := ⟨by decide +kernel, rfl⟩
theorem dX8_back_23 : decode cX8_back 23 = .ok (.aload_n 0, 1) ∧ 23 + 1 = 24 := ⟨by decide +kernel, rfl⟩
theorem dX8_back_24 : decode cX8_back 24 = .ok (.getfield 37, 3) ∧ 24 + 3 = 27 := ⟨by decide +kernel, rfl⟩
theorem dX8_back_27 : decode cX8_back 27 = .ok (.iload_n 1, 1) ∧ 27 + 1 = 28 := ⟨by decide +kernel, rfl⟩
theorem dX8_back_28 : decode cX8_back 28 = .ok (.iaload, 1) ∧ 28 + 1 = 29 := ⟨by decide +kernel, rfl⟩
theorem dX8_back_29 : decode cX8_back 29 = .ok (.iastore, 1) ∧ 29 + 1 = 30 := ⟨by decide +kernel, rfl⟩
theorem dX8_back_30 : decode cX8_back 30 = .ok (.aload_n 0, 1) ∧ 30 + 1 = 31 := ⟨by decide +kernel, rfl⟩
theorem dX8_back_31 : decode cX8_back 31 = .ok (.getfield 22, 3) ∧ 31 + 3 = 34 := ⟨by decide +kernel, rfl⟩
theorem dX8_back_34 : decode cX8_back 34 = .ok (.iload_n 1, 1) ∧ 34 + 1 = 35 := ⟨by decide +kernel, rfl⟩
theorem dX8_back_35 : decode cX8_back 35 = .ok (.aload_n 0, 1) ∧ 35 + 1 = 36 := ⟨by decide +kernel, rfl⟩
theorem dX8_back_36 : decode cX8_back 36 = .ok (.getfield 37, 3) ∧ 36 + 3 = 39 := ⟨by decide +kernel, rfl⟩
theorem dX8_back_39 : decode cX8_back 39 = .ok (.bipush 10, 2) ∧ 39 + 2 = 41 := ⟨by decide +kernel, rfl⟩
theorem dX8_back_41 : decode cX8_back 41 = .ok (.iload_n 1, 1) ∧ 41 + 1 = 42 := ⟨by decide +kernel, rfl⟩
theorem dX8_back_42 : decode cX8_back 42 = .ok (.iadd, 1) ∧ 42 + 1 = 43 := ⟨by decide +kernel, rfl⟩
theorem dX8_back_43 : decode cX8_back 43 = .ok (.iaload, 1) ∧ 43 + 1 = 44 := ⟨by decide +kernel, rfl⟩
theorem dX8_back_44 : decode cX8_back 44 = .ok (.iastore, 1) ∧ 44 + 1 = 45 := ⟨by decide +kernel, rfl⟩
theorem dX8_back_45 : decode cX8_back 45 = .ok (.aload_n 0, 1) ∧ 45 + 1 = 46 := ⟨by decide +kernel, rfl⟩
theorem dX8_back_46 : decode cX8_back 46 = .ok (.getfield 25, 3) ∧ 46 + 3 = 49 := ⟨by decide +kernel, rfl⟩
theorem dX8_back_49 : decode cX8_back 49 = .ok (.iload_n 1, 1) ∧ 49 + 1 = 50 := ⟨by decide +kernel, rfl⟩
theorem dX8_back_50 : decode cX8_back 50 = .ok (.aload_n 0, 1) ∧ 50 + 1 = 51 := ⟨by decide +kernel, rfl⟩
theorem dX8_back_51 : decode cX8_back 51 = .ok (.getfield 37, 3) ∧ 51 + 3 = 54 := ⟨by decide +kernel, rfl⟩
theorem dX8_back_54 : decode cX8_back 54 = .ok (.bipush 20, 2) ∧ 54 + 2 = 56 := ⟨by decide +kernel, rfl⟩
theorem dX8_back_56 : decode cX8_back 56 = .ok (.iload_n 1, 1) ∧ 56 + 1 = 57 := ⟨by decide +kernel, rfl⟩
theorem dX8_back_57 : decode cX8_back 57 = .ok (.iadd, 1) ∧ 57 + 1 = 58 := ⟨by decide +kernel, rfl⟩
theorem dX8_back_58 : decode cX8_back 58 = .ok (.iaload, 1) ∧ 58 + 1 = 59 := ⟨by decide +kernel, rfl⟩
theorem dX8_back_59 : decode cX8_back 59 = .ok (.iastore, 1) ∧ 59 + 1 = 60 := ⟨by decide +kernel, rfl⟩
theorem dX8_back_60 : decode cX8_back 60 = .ok (.iinc 1 1, 3) ∧ 60 + 3 = 63 := ⟨by decide +kernel, rfl⟩
theorem dX8_back_63 : decode cX8_back 63 = .ok (.goto (-51), 3) ∧ ((63 : Nat) : Int) + (-51) = ((12 : Nat) : Int) := ⟨by decide +kernel, by decide⟩
theorem dX8_back_66 : decode cX8_back 66 = .ok (.iconst 0, 1) ∧ 66 + 1 = 67 := ⟨by decide +kernel, rfl⟩
theorem dX8_back_67 : decode cX8_back 67 = .ok (.istore_n 1, 1) ∧ 67 + 1 = 68 := ⟨by decide +kernel, rfl⟩
theorem dX8_back_68 : decode cX8_back 68 = .ok (.iload_n 1, 1) ∧ 68 + 1 = 69 := ⟨by decide +kernel, rfl⟩
theorem dX8_back_69 : decode cX8_back 69 = .ok (.bipush 12, 2) ∧ 69 + 2 = 71 := ⟨by decide +kernel, rfl⟩
theorem dX8_back_71 : decode cX8_back 71 = .ok (.if_icmp .ge 24, 3) ∧ 71 + 3 = 74 ∧ ((71 : Nat) : Int) + (24) = ((95 : Nat) : Int) := ⟨by decide +kernel, rfl, by decide⟩
theorem dX8_back_74 : decode cX8_back 74 = .ok (.aload_n 0, 1) ∧ 74 + 1 = 75 := ⟨by decide +kernel, rfl⟩
theorem dX8_back_75 : decode cX8_back 75 = .ok (.getfield 16, 3) ∧ 75 + 3 = 78 := ⟨by decide +kernel, rfl⟩
theorem dX8_back_78 : decode cX8_back 78 = .ok (.iload_n 1, 1) ∧ 78 + 1 = 79 := ⟨by decide +kernel, rfl⟩
theorem dX8_back_79 : decode cX8_back 79 = .ok (.aload_n 0, 1) ∧ 79 + 1 = 80 := ⟨by decide +kernel, rfl⟩
theorem dX8_back_80 : decode cX8_back 80 = .ok (.getfield 37, 3) ∧ 80 + 3 = 83 := ⟨by decide +kernel, rfl⟩
theorem dX8_back_83 : decode cX8_back 83 = .ok (.bipush 30, 2) ∧ 83 + 2 = 85 := ⟨by decide +kernel, rfl⟩
theorem dX8_back_85 : decode cX8_back 85 = .ok (.iload_n 1, 1) ∧ 85 + 1 = 86 := ⟨by decide +kernel, rfl⟩
theorem dX8_back_86 : decode cX8_back 86 = .ok (.iadd, 1) ∧ 86 + 1 = 87 := ⟨by decide +kernel, rfl⟩
theorem dX8_back_87 : decode cX8_back 87 = .ok (.iaload, 1) ∧ 87 + 1 = 88 := ⟨by decide +kernel, rfl⟩
theorem dX8_back_88 : decode cX8_back 88 = .ok (.iastore, 1) ∧ 88 + 1 = 89 := ⟨by decide +kernel, rfl⟩
theorem dX8_back_89 : decode cX8_back 89 = .ok (.iinc 1 1, 3) ∧ 89 + 3 = 92 := ⟨by decide +kernel, rfl⟩
theorem dX8_back_92 : decode cX8_back 92 = .ok (.goto (-24), 3) ∧ ((92 : Nat) : Int) + (-24) = ((68 : Nat) : Int) := ⟨by decide +kernel, by decide⟩
theorem dX8_back_95 : decode cX8_back 95 = .ok (.aload_n 0, 1) ∧ 95 + 1 = 96 := ⟨by decide +kernel, rfl⟩
theorem dX8_back_96 : decode cX8_back 96 = .ok (.aload_n 0, 1) ∧ 96 + 1 = 97 := ⟨by decide +kernel, rfl⟩
theorem dX8_back_97 : decode cX8_back 97 = .ok (.getfield 40, 3) ∧ 97 + 3 = 100 := ⟨by decide +kernel, rfl⟩
theorem dX8_back_100 : decode cX8_back 100 = .ok (.iconst 0, 1) ∧ 100 + 1 = 101 := ⟨by decide +kernel, rfl⟩
theorem dX8_back_101 : decode cX8_back 101 = .ok (.iaload, 1) ∧ 101 + 1 = 102 := ⟨by decide +kernel, rfl⟩
theorem dX8_back_102 : decode cX8_back 102 = .ok (.putfield 84, 3) ∧ 102 + 3 = 105 := ⟨by decide +kernel, rfl⟩
theorem dX8_back_105 : decode cX8_back 105 = .ok (.aload_n 0, 1) ∧ 105 + 1 = 106 := ⟨by decide +kernel, rfl⟩
theorem dX8_back_106 : decode cX8_back 106 = .ok (.aload_n 0, 1) ∧ 106 + 1 = 107 := ⟨by decide +kernel, rfl⟩
theorem dX8_back_107 : decode cX8_back 107 = .ok (.getfield 40, 3) ∧ 107 + 3 = 110 := ⟨by decide +kernel, rfl⟩
theorem dX8_back_110 : decode cX8_back 110 = .ok (.iconst 1, 1) ∧ 110 + 1 = 111 := ⟨by decide +kernel, rfl⟩
theorem dX8_back_111 : decode cX8_back 111 = .ok (.iaload, 1) ∧ 111 + 1 = 112 := ⟨by decide +kernel, rfl⟩
theorem dX8_back_112 : decode cX8_back 112 = .ok (.putfield 91, 3) ∧ 112 + 3 = 115 := ⟨by decide +kernel, rfl⟩
theorem dX8_back_115 : decode cX8_back 115 = .ok (.aload_n 0, 1) ∧ 115 + 1 = 116 := ⟨by decide +kernel, rfl⟩
theorem dX8_back_116 : decode cX8_back 116 = .ok (.aload_n 0, 1) ∧ 116 + 1 = 117 := ⟨by decide +kernel, rfl⟩
theorem dX8_back_117 : decode cX8_back 117 = .ok (.getfield 40, 3) ∧ 117 + 3 = 120 := ⟨by decide +kernel, rfl⟩
theorem dX8_back_120 : decode cX8_back 120 = .ok (.iconst 2, 1) ∧ 120 + 1 = 121 := ⟨by decide +kernel, rfl⟩
theorem dX8_back_121 : decode cX8_back 121 = .ok (.iaload, 1) ∧ 121 + 1 = 122 := ⟨by decide +kernel, rfl⟩
theorem dX8_back_122 : decode cX8_back 122 = .ok (.putfield 94, 3) ∧ 122 + 3 = 125 := ⟨by decide +kernel, rfl⟩
theorem dX8_back_125 : decode cX8_back 125 = .ok (.aload_n 0, 1) ∧ 125 + 1 = 126 := ⟨by decide +kernel, rfl⟩
theorem dX8_back_126 : decode cX8_back 126 = .ok (.aload_n 0, 1) ∧ 126 + 1 = 127 := ⟨by decide +kernel, rfl⟩
theorem dX8_back_127 : decode cX8_back 127 = .ok (.getfield 40, 3) ∧ 127 + 3 = 130 := ⟨by decide +kernel, rfl⟩
theorem dX8_back_130 : decode cX8_back 130 = .ok (.iconst 3, 1) ∧ 130 + 1 = 131 := ⟨by decide +kernel, rfl⟩
theorem dX8_back_131 : decode cX8_back 131 = .ok (.iaload, 1) ∧ 131 + 1 = 132 := ⟨by decide +kernel, rfl⟩
theorem dX8_back_132 : decode cX8_back 132 = .ok (.putfield 100, 3) ∧ 132 + 3 = 135 := ⟨by decide +kernel, rfl⟩
theorem dX8_back_135 : decode cX8_back 135 = .ok (.aload_n 0, 1) ∧ 135 + 1 = 136 := ⟨by decide +kernel, rfl⟩
theorem dX8_back_136 : decode cX8_back 136 = .ok (.getfield 84, 3) ∧ 136 + 3 = 139 := ⟨by decide +kernel, rfl⟩
theorem dX8_back_139 : decode cX8_back 139 = .ok (.ireturn, 1) := by decide +kernel
def L_X8_back_68 (k68 : Hp → Int32 → Option (Int32 × Hp)) (fu : Nat) (o : Nat) (S : Hp) (x1 : Int32) : Option (Int32 × Hp) :=
  if (12 : Int32) ≤ x1 then
    (gR S (some o) 6 17).bind fun v97 =>
    (aG S v97 (0 : Int32)).bind fun v101 =>
    (pI S (some o) 6 0 v101).bind fun S102 =>
    (gR S102 (some o) 6 17).bind fun v107 =>
    (aG S102 v107 (1 : Int32)).bind fun v111 =>
    (pI S102 (some o) 6 7 v111).bind fun S112 =>
    (gR S112 (some o) 6 17).bind fun v117 =>
    (aG S112 v117 (2 : Int32)).bind fun v121 =>
    (pI S112 (some o) 6 8 v121).bind fun S122 =>
    (gR S122 (some o) 6 17).bind fun v127 =>
    (aG S122 v127 (3 : Int32)).bind fun v131 =>
    (pI S122 (some o) 6 14 v131).bind fun S132 =>
    (gI S132 (some o) 6 0).bind fun v136 =>
    some (v136, S132)
  else
    (gR S (some o) 6 3).bind fun v75 =>
    (gR S (some o) 6 16).bind fun v80 =>
    (aG S v80 ((30 : Int32) + x1)).bind fun v87 =>
    (aP S v75 x1 v87).bind fun S88 =>
    k68 S88 (x1 + (1 : Int32))
set_option maxRecDepth 100000 in
set_option maxHeartbeats 4000000 in
theorem wl_X8_back_68 {E : Cx} {l : Launch} {res : Int32 × Hp} {ad : Nat → Nat} {k68 : Hp → Int32 → Option (Int32 × Hp)} {fu : Nat} {o : Nat} {S : Hp} {x1 : Int32} (K : Kx E cX8_back RX8 (rmd 0 0 0)) (X : Bx E l yX8_back 2 (some .int) 0 0 ad (QI res)) (hk68 : ∀ (S : Hp) (x1 : Int32), k68 S x1 = some res → J E 0 0 68 [(0, vR (some o)), (1, vI x1)] [] S ad) (h : L_X8_back_68 k68 fu o S x1 = some res) : J E 0 0 68 [(0, vR (some o)), (1, vI x1)] [] S ad := by
  refine j_iload_n K dX8_back_68 rfl 1 rfl ?_
  refine j_bipush (v := (12 : Int32)) K dX8_back_69 (by decide) ?_
  refine j_icmp_ge K dX8_back_71 (fun c71 => ?_) (fun c71 => ?_)
  · replace h := it c71 h
    refine j_aload_n K dX8_back_95 rfl 0 rfl ?_
    refine j_aload_n K dX8_back_96 rfl 0 rfl ?_
    obtain ⟨v97, e97, h⟩ := bd h
    refine fgX8_40 K dX8_back_97 e97 ?_
    refine j_iconst (v := (0 : Int32)) K dX8_back_100 (by decide) ?_
    obtain ⟨v101, e101, h⟩ := bd h
    refine j_aG K dX8_back_101 e101 ?_
    obtain ⟨S102, e102, h⟩ := bd h
    refine fpX8_84 K dX8_back_102 e102 ?_
    refine j_aload_n K dX8_back_105 rfl 0 rfl ?_
    refine j_aload_n K dX8_back_106 rfl 0 rfl ?_
    obtain ⟨v107, e107, h⟩ := bd h
    refine fgX8_40 K dX8_back_107 e107 ?_
    refine j_iconst (v := (1 : Int32)) K dX8_back_110 (by decide) ?_
    obtain ⟨v111, e111, h⟩ := bd h
    refine j_aG K dX8_back_111 e111 ?_
    obtain ⟨S112, e112, h⟩ := bd h
    refine fpX8_91 K dX8_back_112 e112 ?_
    refine j_aload_n K dX8_back_115 rfl 0 rfl ?_
    refine j_aload_n K dX8_back_116 rfl 0 rfl ?_
    obtain ⟨v117, e117, h⟩ := bd h
    refine fgX8_40 K dX8_back_117 e117 ?_
    refine j_iconst (v := (2 : Int32)) K dX8_back_120 (by decide) ?_
    obtain ⟨v121, e121, h⟩ := bd h
    refine j_aG K dX8_back_121 e121 ?_
    obtain ⟨S122, e122, h⟩ := bd h
    refine fpX8_94 K dX8_back_122 e122 ?_
    refine j_aload_n K dX8_back_125 rfl 0 rfl ?_
    refine j_aload_n K dX8_back_126 rfl 0 rfl ?_
    obtain ⟨v127, e127, h⟩ := bd h
    refine fgX8_40 K dX8_back_127 e127 ?_
    refine j_iconst (v := (3 : Int32)) K dX8_back_130 (by decide) ?_
    obtain ⟨v131, e131, h⟩ := bd h
    refine j_aG K dX8_back_131 e131 ?_
    obtain ⟨S132, e132, h⟩ := bd h
    refine fpX8_100 K dX8_back_132 e132 ?_
    refine j_aload_n K dX8_back_135 rfl 0 rfl ?_
    obtain ⟨v136, e136, h⟩ := bd h
    refine fgX8_84 K dX8_back_136 e136 ?_
    exact j_iret K X dX8_back_139 h
  · replace h := ie c71 h
    refine j_aload_n K dX8_back_74 rfl 0 rfl ?_
    obtain ⟨v75, e75, h⟩ := bd h
    refine fgX8_16 K dX8_back_75 e75 ?_
    refine j_iload_n K dX8_back_78 rfl 1 rfl ?_
    refine j_aload_n K dX8_back_79 rfl 0 rfl ?_
    obtain ⟨v80, e80, h⟩ := bd h
    refine fgX8_37 K dX8_back_80 e80 ?_
    refine j_bipush (v := (30 : Int32)) K dX8_back_83 (by decide) ?_
    refine j_iload_n K dX8_back_85 rfl 1 rfl ?_
    refine j_iadd K dX8_back_86 ?_
    obtain ⟨v87, e87, h⟩ := bd h
    refine j_aG K dX8_back_87 e87 ?_
    obtain ⟨S88, e88, h⟩ := bd h
    refine j_aP K dX8_back_88 e88 ?_
    refine j_iinc (q := 1) (v := (x1 + (1 : Int32))) (lv' := [(1, vI (x1 + (1 : Int32))), (0, vR (some o))]) K dX8_back_89 rfl rfl X.2.2.1 (by decide) rfl ?_
    refine j_goto K dX8_back_92 ?_
    exact j_sub [1, 0] rfl (hk68 _ _ h)
def B_X8_back_68 (fu : Nat) (o : Nat) : Nat → Hp → Int32 → Option (Int32 × Hp)
  | 0 => fun _ _ => none
  | n + 1 => L_X8_back_68 (B_X8_back_68 fu o n) fu o
theorem w_X8_back_68 {E : Cx} {l : Launch} {res : Int32 × Hp} {ad : Nat → Nat} {fu : Nat} {o : Nat} (K : Kx E cX8_back RX8 (rmd 0 0 0)) (X : Bx E l yX8_back 2 (some .int) 0 0 ad (QI res)) : ∀ (n : Nat) (S : Hp) (x1 : Int32), B_X8_back_68 fu o n S x1 = some res → J E 0 0 68 [(0, vR (some o)), (1, vI x1)] [] S ad := by
  intro n
  induction n with
  | zero =>
    intro S x1 h
    cases h
  | succ n ih =>
    intro S x1 h
    exact wl_X8_back_68 K X ih h
def L_X8_back_12 (k12 : Hp → Int32 → Option (Int32 × Hp)) (fu : Nat) (o : Nat) (S : Hp) (x1 : Int32) : Option (Int32 × Hp) :=
  if (10 : Int32) ≤ x1 then
    B_X8_back_68 fu o fu S (0 : Int32)
  else
    (gR S (some o) 6 4).bind fun v19 =>
    (gR S (some o) 6 16).bind fun v24 =>
    (aG S v24 x1).bind fun v28 =>
    (aP S v19 x1 v28).bind fun S29 =>
    (gR S29 (some o) 6 5).bind fun v31 =>
    (gR S29 (some o) 6 16).bind fun v36 =>
    (aG S29 v36 ((10 : Int32) + x1)).bind fun v43 =>
    (aP S29 v31 x1 v43).bind fun S44 =>
    (gR S44 (some o) 6 6).bind fun v46 =>
    (gR S44 (some o) 6 16).bind fun v51 =>
    (aG S44 v51 ((20 : Int32) + x1)).bind fun v58 =>
    (aP S44 v46 x1 v58).bind fun S59 =>
    k12 S59 (x1 + (1 : Int32))
set_option maxRecDepth 100000 in
set_option maxHeartbeats 4000000 in
theorem wl_X8_back_12 {E : Cx} {l : Launch} {res : Int32 × Hp} {ad : Nat → Nat} {k12 : Hp → Int32 → Option (Int32 × Hp)} {fu : Nat} {o : Nat} {S : Hp} {x1 : Int32} (K : Kx E cX8_back RX8 (rmd 0 0 0)) (X : Bx E l yX8_back 2 (some .int) 0 0 ad (QI res)) (hk12 : ∀ (S : Hp) (x1 : Int32), k12 S x1 = some res → J E 0 0 12 [(0, vR (some o)), (1, vI x1)] [] S ad) (h : L_X8_back_12 k12 fu o S x1 = some res) : J E 0 0 12 [(0, vR (some o)), (1, vI x1)] [] S ad := by
  refine j_iload_n K dX8_back_12 rfl 1 rfl ?_
  refine j_bipush (v := (10 : Int32)) K dX8_back_13 (by decide) ?_
  refine j_icmp_ge K dX8_back_15 (fun c15 => ?_) (fun c15 => ?_)
  · replace h := it c15 h
    refine j_iconst (v := (0 : Int32)) K dX8_back_66 (by decide) ?_
    refine j_istore_n (lv' := [(1, vI (0 : Int32)), (0, vR (some o))]) K dX8_back_67 rfl X.2.2.1 (by decide) rfl ?_
    exact j_sub [1, 0] rfl (w_X8_back_68 K X _ _ _ h)
  · replace h := ie c15 h
    refine j_aload_n K dX8_back_18 rfl 0 rfl ?_
    obtain ⟨v19, e19, h⟩ := bd h
    refine fgX8_19 K dX8_back_19 e19 ?_
    refine j_iload_n K dX8_back_22 rfl 1 rfl ?_
    refine j_aload_n K dX8_back_23 rfl 0 rfl ?_
    obtain ⟨v24, e24, h⟩ := bd h
    refine fgX8_37 K dX8_back_24 e24 ?_
    refine j_iload_n K dX8_back_27 rfl 1 rfl ?_
    obtain ⟨v28, e28, h⟩ := bd h
    refine j_aG K dX8_back_28 e28 ?_
    obtain ⟨S29, e29, h⟩ := bd h
    refine j_aP K dX8_back_29 e29 ?_
    refine j_aload_n K dX8_back_30 rfl 0 rfl ?_
    obtain ⟨v31, e31, h⟩ := bd h
    refine fgX8_22 K dX8_back_31 e31 ?_
    refine j_iload_n K dX8_back_34 rfl 1 rfl ?_
    refine j_aload_n K dX8_back_35 rfl 0 rfl ?_
    obtain ⟨v36, e36, h⟩ := bd h
    refine fgX8_37 K dX8_back_36 e36 ?_
    refine j_bipush (v := (10 : Int32)) K dX8_back_39 (by decide) ?_
    refine j_iload_n K dX8_back_41 rfl 1 rfl ?_
    refine j_iadd K dX8_back_42 ?_
    obtain ⟨v43, e43, h⟩ := bd h
    refine j_aG K dX8_back_43 e43 ?_
    obtain ⟨S44, e44, h⟩ := bd h
    refine j_aP K dX8_back_44 e44 ?_
    refine j_aload_n K dX8_back_45 rfl 0 rfl ?_
    obtain ⟨v46, e46, h⟩ := bd h
    refine fgX8_25 K dX8_back_46 e46 ?_
    refine j_iload_n K dX8_back_49 rfl 1 rfl ?_
    refine j_aload_n K dX8_back_50 rfl 0 rfl ?_
    obtain ⟨v51, e51, h⟩ := bd h
    refine fgX8_37 K dX8_back_51 e51 ?_
    refine j_bipush (v := (20 : Int32)) K dX8_back_54 (by decide) ?_
    refine j_iload_n K dX8_back_56 rfl 1 rfl ?_
    refine j_iadd K dX8_back_57 ?_
    obtain ⟨v58, e58, h⟩ := bd h
    refine j_aG K dX8_back_58 e58 ?_
    obtain ⟨S59, e59, h⟩ := bd h
    refine j_aP K dX8_back_59 e59 ?_
    refine j_iinc (q := 1) (v := (x1 + (1 : Int32))) (lv' := [(1, vI (x1 + (1 : Int32))), (0, vR (some o))]) K dX8_back_60 rfl rfl X.2.2.1 (by decide) rfl ?_
    refine j_goto K dX8_back_63 ?_
    exact j_sub [1, 0] rfl (hk12 _ _ h)
def B_X8_back_12 (fu : Nat) (o : Nat) : Nat → Hp → Int32 → Option (Int32 × Hp)
  | 0 => fun _ _ => none
  | n + 1 => L_X8_back_12 (B_X8_back_12 fu o n) fu o
theorem w_X8_back_12 {E : Cx} {l : Launch} {res : Int32 × Hp} {ad : Nat → Nat} {fu : Nat} {o : Nat} (K : Kx E cX8_back RX8 (rmd 0 0 0)) (X : Bx E l yX8_back 2 (some .int) 0 0 ad (QI res)) : ∀ (n : Nat) (S : Hp) (x1 : Int32), B_X8_back_12 fu o n S x1 = some res → J E 0 0 12 [(0, vR (some o)), (1, vI x1)] [] S ad := by
  intro n
  induction n with
  | zero =>
    intro S x1 h
    cases h
  | succ n ih =>
    intro S x1 h
    exact wl_X8_back_12 K X ih h
def F_X8_back (fu : Nat) (S : Hp) (o : Nat) : Option (Int32 × Hp) :=
  (gI S (some o) 6 15).bind fun v1 =>
  if v1 = 0 then
    some ((-3 : Int32), S)
  else
    B_X8_back_12 fu o fu S (0 : Int32)
set_option maxRecDepth 100000 in
set_option maxHeartbeats 4000000 in
theorem w_X8_back {E : Cx} {l : Launch} {res : Int32 × Hp} {ad : Nat → Nat} {fu : Nat} {S : Hp} {o : Nat} (K : Kx E cX8_back RX8 (rmd 0 0 0)) (X : Bx E l yX8_back 2 (some .int) 0 0 ad (QI res)) (h : F_X8_back fu S o = some res) : J E 0 0 0 [(0, vR (some o))] [] S ad := by
  refine j_aload_n K dX8_back_0 rfl 0 rfl ?_
  obtain ⟨v1, e1, h⟩ := bd h
  refine fgX8_272 K dX8_back_1 e1 ?_
  refine j_if_ne K dX8_back_4 (fun c4 => ?_) (fun c4 => ?_)
  · replace h := ie c4 h
    refine j_iconst (v := (0 : Int32)) K dX8_back_10 (by decide) ?_
    refine j_istore_n (lv' := [(1, vI (0 : Int32)), (0, vR (some o))]) K dX8_back_11 rfl X.2.2.1 (by decide) rfl ?_
    exact j_sub [1, 0] rfl (w_X8_back_12 K X _ _ _ h)
  · replace h := it c4 h
    refine j_bipush (v := (-3 : Int32)) K dX8_back_7 (by decide) ?_
    exact j_iret K X dX8_back_9 h
theorem c_X8_back {l : Launch} {fu : Nat} {S : Hp} {o : Nat} {res : Int32 × Hp} (h : F_X8_back fu S o = some res) : Ct l yX8_back cX8_back 2 (some .int) (rmd 0 0 0) 0 0 [vR (some o)] S (QI res) :=
  z_entry (by decide +kernel) (Nat.le_of_ble_eq_true rfl) (fun E ad K X => w_X8_back K X h)

theorem dX8_sheet_0 : decode cX8_sheet 0 = .ok (.iload_n 1, 1) ∧ 0 + 1 = 1 := ⟨by decide +kernel, rfl⟩
theorem dX8_sheet_1 : decode cX8_sheet 1 = .ok (.iconst 0, 1) ∧ 1 + 1 = 2 := ⟨by decide +kernel, rfl⟩
theorem dX8_sheet_2 : decode cX8_sheet 2 = .ok (.iconst 3, 1) ∧ 2 + 1 = 3 := ⟨by decide +kernel, rfl⟩
theorem dX8_sheet_3 : decode cX8_sheet 3 = .ok (.invokestatic 87, 3) := by decide +kernel
theorem dX8_sheet_6 : decode cX8_sheet 6 = .ok (.ifCond .eq 23, 3) ∧ 6 + 3 = 9 ∧ ((6 : Nat) : Int) + (23) = ((29 : Nat) : Int) := ⟨by decide +kernel, rfl, by decide⟩
theorem dX8_sheet_9 : decode cX8_sheet 9 = .ok (.iload_n 2, 1) ∧ 9 + 1 = 10 := ⟨by decide +kernel, rfl⟩
theorem dX8_sheet_10 : decode cX8_sheet 10 = .ok (.iconst (-1), 1) ∧ 10 + 1 = 11 := ⟨by decide +kernel, rfl⟩
theorem dX8_sheet_11 : decode cX8_sheet 11 = .ok (.iconst 2, 1) ∧ 11 + 1 = 12 := ⟨by decide +kernel, rfl⟩
theorem dX8_sheet_12 : decode cX8_sheet 12 = .ok (.invokestatic 87, 3) := by decide +kernel
theorem dX8_sheet_15 : decode cX8_sheet 15 = .ok (.ifCond .eq 14, 3) ∧ 15 + 3 = 18 ∧ ((15 : Nat) : Int) + (14) = ((29 : Nat) : Int) := ⟨by decide +kernel, rfl, by decide⟩
theorem dX8_sheet_18 : decode cX8_sheet 18 = .ok (.iload_n 2, 1) ∧ 18 + 1 = 19 := ⟨by decide +kernel, rfl⟩
theorem dX8_sheet_19 : decode cX8_sheet 19 = .ok (.iconst (-1), 1) ∧ 19 + 1 = 20 := ⟨by decide +kernel, rfl⟩
theorem dX8_sheet_20 : decode cX8_sheet 20 = .ok (.if_icmp .eq 12, 3) ∧ 20 + 3 = 23 ∧ ((20 : Nat) : Int) + (12) = ((32 : Nat) : Int) := ⟨by decide +kernel, rfl, by decide⟩
theorem dX8_sheet_23 : decode cX8_sheet 23 = .ok (.iload_n 3, 1) ∧ 23 + 1 = 24 := ⟨by decide +kernel, rfl⟩
theorem dX8_sheet_24 : decode cX8_sheet 24 = .ok (.bipush 40, 2) ∧ 24 + 2 = 26 := ⟨by decide +kernel, rfl⟩
theorem dX8_sheet_26 : decode cX8_sheet 26 = .ok (.if_icmp .le 6, 3) ∧ 26 + 3 = 29 ∧ ((26 : Nat) : Int) + (6) = ((32 : Nat) : Int) := ⟨by decide +kernel, rfl, by decide⟩
theorem dX8_sheet_29 : decode cX8_sheet 29 = .ok (.bipush (-2), 2) ∧ 29 + 2 = 31 := ⟨by decide +kernel, rfl⟩
theorem dX8_sheet_31 : decode cX8_sheet 31 = .ok (.ireturn, 1) := by decide +kernel
theorem dX8_sheet_32 : decode cX8_sheet 32 = .ok (.iload_n 2, 1) ∧ 32 + 1 = 33 := ⟨by decide +kernel, rfl⟩
theorem dX8_sheet_33 : decode cX8_sheet 33 = .ok (.iconst (-1), 1) ∧ 33 + 1 = 34 := ⟨by decide +kernel, rfl⟩
theorem dX8_sheet_34 : decode cX8_sheet 34 = .ok (.if_icmp .eq 10, 3) ∧ 34 + 3 = 37 ∧ ((34 : Nat) : Int) + (10) = ((44 : Nat) : Int) := ⟨by decide +kernel, rfl, by decide⟩
theorem dX8_sheet_37 : decode cX8_sheet 37 = .ok (.iload_n 3, 1) ∧ 37 + 1 = 38 := ⟨by decide +kernel, rfl⟩
theorem dX8_sheet_38 : decode cX8_sheet 38 = .ok (.ifCond .ge 6, 3) ∧ 38 + 3 = 41 ∧ ((38 : Nat) : Int) + (6) = ((44 : Nat) : Int) := ⟨by decide +kernel, rfl, by decide⟩
theorem dX8_sheet_41 : decode cX8_sheet 41 = .ok (.bipush (-14), 2) ∧ 41 + 2 = 43 := ⟨by decide +kernel, rfl⟩
theorem dX8_sheet_43 : decode cX8_sheet 43 = .ok (.ireturn, 1) := by decide +kernel
theorem dX8_sheet_44 : decode cX8_sheet 44 = .ok (.aload_n 0, 1) ∧ 44 + 1 = 45 := ⟨by decide +kernel, rfl⟩
theorem dX8_sheet_45 : decode cX8_sheet 45 = .ok (.getfield 43, 3) ∧ 45 + 3 = 48 := ⟨by decide +kernel, rfl⟩
theorem dX8_sheet_48 : decode cX8_sheet 48 = .ok (.iload_n 1, 1) ∧ 48 + 1 = 49 := ⟨by decide +kernel, rfl⟩
theorem dX8_sheet_49 : decode cX8_sheet 49 = .ok (.iload_n 2, 1) ∧ 49 + 1 = 50 := ⟨by decide +kernel, rfl⟩
theorem dX8_sheet_50 : decode cX8_sheet 50 = .ok (.iastore, 1) ∧ 50 + 1 = 51 := ⟨by decide +kernel, rfl⟩
theorem dX8_sheet_51 : decode cX8_sheet 51 = .ok (.aload_n 0, 1) ∧ 51 + 1 = 52 := ⟨by decide +kernel, rfl⟩
theorem dX8_sheet_52 : decode cX8_sheet 52 = .ok (.getfield 46, 3) ∧ 52 + 3 = 55 := ⟨by decide +kernel, rfl⟩
theorem dX8_sheet_55 : decode cX8_sheet 55 = .ok (.iload_n 1, 1) ∧ 55 + 1 = 56 := ⟨by decide +kernel, rfl⟩
theorem dX8_sheet_56 : decode cX8_sheet 56 = .ok (.iload_n 2, 1) ∧ 56 + 1 = 57 := ⟨by decide +kernel, rfl⟩
theorem dX8_sheet_57 : decode cX8_sheet 57 = .ok (.iconst (-1), 1) ∧ 57 + 1 = 58 := ⟨by decide +kernel, rfl⟩
theorem dX8_sheet_58 : decode cX8_sheet 58 = .ok (.if_icmp .ne 7, 3) ∧ 58 + 3 = 61 ∧ ((58 : Nat) : Int) + (7) = ((65 : Nat) : Int) := ⟨by decide +kernel, rfl, by decide⟩
theorem dX8_sheet_61 : decode cX8_sheet 61 = .ok (.iconst 0, 1) ∧ 61 + 1 = 62 := ⟨by decide +kernel, rfl⟩
theorem dX8_sheet_62 : decode cX8_sheet 62 = .ok (.goto 4, 3) ∧ ((62 : Nat) : Int) + (4) = ((66 : Nat) : Int) := ⟨by decide +kernel, by decide⟩
theorem dX8_sheet_65 : decode cX8_sheet 65 = .ok (.iload_n 3, 1) ∧ 65 + 1 = 66 := ⟨by decide +kernel, rfl⟩
theorem dX8_sheet_66 : decode cX8_sheet 66 = .ok (.iastore, 1) ∧ 66 + 1 = 67 := ⟨by decide +kernel, rfl⟩
theorem dX8_sheet_67 : decode cX8_sheet 67 = .ok (.iconst 0, 1) ∧ 67 + 1 = 68 := ⟨by decide +kernel, rfl⟩
theorem dX8_sheet_68 : decode cX8_sheet 68 = .ok (.istore 4, 2) ∧ 68 + 2 = 70 := ⟨by decide +kernel, rfl⟩
theorem dX8_sheet_70 : decode cX8_sheet 70 = .ok (.iload 4, 2) ∧ 70 + 2 = 72 := ⟨by decide +kernel, rfl⟩
theorem dX8_sheet_72 : decode cX8_sheet 72 = .ok (.bipush 40, 2) ∧ 72 + 2 = 74 := ⟨by decide +kernel, rfl⟩
theorem dX8_sheet_74 : decode cX8_sheet 74 = .ok (.if_icmp .ge 22, 3) ∧ 74 + 3 = 77 ∧ ((74 : Nat) : Int) + (22) = ((96 : Nat) : Int) := ⟨by decide +kernel, rfl, by decide⟩
theorem dX8_sheet_77 : decode cX8_sheet 77 = .ok (.aload_n 0, 1) ∧ 77 + 1 = 78 := ⟨by decide +kernel, rfl⟩
theorem dX8_sheet_78 : decode cX8_sheet 78 = .ok (.getfield 49, 3) ∧ 78 + 3 = 81 := ⟨by decide +kernel, rfl⟩
theorem dX8_sheet_81 : decode cX8_sheet 81 = .ok (.bipush 40, 2) ∧ 81 + 2 = 83 := ⟨by decide +kernel, rfl⟩
theorem dX8_sheet_83 : decode cX8_sheet 83 = .ok (.iload_n 1, 1) ∧ 83 + 1 = 84 := ⟨by decide +kernel, rfl⟩
theorem dX8_sheet_84 : decode cX8_sheet 84 = .ok (.imul, 1) ∧ 84 + 1 = 85 := ⟨by decide +kernel, rfl⟩
theorem dX8_sheet_85 : decode cX8_sheet 85 = .ok (.iload 4, 2) ∧ 85 + 2 = 87 := ⟨by decide +kernel, rfl⟩
theorem dX8_sheet_87 : decode cX8_sheet 87 = .ok (.iadd, 1) ∧ 87 + 1 = 88 := ⟨by decide +kernel, rfl⟩
theorem dX8_sheet_88 : decode cX8_sheet 88 = .ok (.iconst 0, 1) ∧ 88 + 1 = 89 := ⟨by decide +kernel, rfl⟩
theorem dX8_sheet_89 : decode cX8_sheet 89 = .ok (.iastore, 1) ∧ 89 + 1 = 90 := ⟨by decide +kernel, rfl⟩
theorem dX8_sheet_90 : decode cX8_sheet 90 = .ok (.iinc 4 1, 3) ∧ 90 + 3 = 93 := ⟨by decide +kernel, rfl⟩
theorem dX8_sheet_93 : decode cX8_sheet 93 = .ok (.goto (-23), 3) ∧ ((93 : Nat) : Int) + (-23) = ((70 : Nat) : Int) := ⟨by decide +kernel, by decide⟩
theorem dX8_sheet_96 : decode cX8_sheet 96 = .ok (.iconst 1, 1) ∧ 96 + 1 = 97 := ⟨by decide +kernel, rfl⟩
theorem dX8_sheet_97 : decode cX8_sheet 97 = .ok (.ireturn, 1) := by decide +kernel
def B_X8_sheet_29 (fu : Nat) (o : Nat) (S : Hp) : Option (Int32 × Hp) :=
  some ((-2 : Int32), S)
set_option maxRecDepth 100000 in
set_option maxHeartbeats 4000000 in
theorem w_X8_sheet_29 {E : Cx} {l : Launch} {res : Int32 × Hp} {ad : Nat → Nat} {fu : Nat} {o : Nat} {S : Hp} (K : Kx E cX8_sheet RX8 (rmd 1 0 0)) (X : Bx E l yX8_sheet 5 (some .int) 0 0 ad (QI res)) (h : B_X8_sheet_29 fu o S = some res) : J E 0 0 29 [] [] S ad := by
  refine j_bipush (v := (-2 : Int32)) K dX8_sheet_29 (by decide) ?_
  exact j_iret K X dX8_sheet_31 h
def L_X8_sheet_70 (k70 : Hp → Int32 → Option (Int32 × Hp)) (fu : Nat) (o : Nat) (x1 : Int32) (S : Hp) (x4 : Int32) : Option (Int32 × Hp) :=
  if (40 : Int32) ≤ x4 then
    some ((1 : Int32), S)
  else
    (gR S (some o) 6 20).bind fun v78 =>
    (aP S v78 (((40 : Int32) * x1) + x4) (0 : Int32)).bind fun S89 =>
    k70 S89 (x4 + (1 : Int32))
set_option maxRecDepth 100000 in
set_option maxHeartbeats 4000000 in
theorem wl_X8_sheet_70 {E : Cx} {l : Launch} {res : Int32 × Hp} {ad : Nat → Nat} {k70 : Hp → Int32 → Option (Int32 × Hp)} {fu : Nat} {o : Nat} {S : Hp} {x1 : Int32} {x4 : Int32} (K : Kx E cX8_sheet RX8 (rmd 1 0 0)) (X : Bx E l yX8_sheet 5 (some .int) 0 0 ad (QI res)) (hk70 : ∀ (S : Hp) (x4 : Int32), k70 S x4 = some res → J E 0 0 70 [(0, vR (some o)), (1, vI x1), (4, vI x4)] [] S ad) (h : L_X8_sheet_70 k70 fu o x1 S x4 = some res) : J E 0 0 70 [(0, vR (some o)), (1, vI x1), (4, vI x4)] [] S ad := by
  refine j_iload K dX8_sheet_70 2 rfl ?_
  refine j_bipush (v := (40 : Int32)) K dX8_sheet_72 (by decide) ?_
  refine j_icmp_ge K dX8_sheet_74 (fun c74 => ?_) (fun c74 => ?_)
  · replace h := it c74 h
    refine j_iconst (v := (1 : Int32)) K dX8_sheet_96 (by decide) ?_
    exact j_iret K X dX8_sheet_97 h
  · replace h := ie c74 h
    refine j_aload_n K dX8_sheet_77 rfl 0 rfl ?_
    obtain ⟨v78, e78, h⟩ := bd h
    refine fgX8_49 K dX8_sheet_78 e78 ?_
    refine j_bipush (v := (40 : Int32)) K dX8_sheet_81 (by decide) ?_
    refine j_iload_n K dX8_sheet_83 rfl 1 rfl ?_
    refine j_imul K dX8_sheet_84 ?_
    refine j_iload K dX8_sheet_85 2 rfl ?_
    refine j_iadd K dX8_sheet_87 ?_
    refine j_iconst (v := (0 : Int32)) K dX8_sheet_88 (by decide) ?_
    obtain ⟨S89, e89, h⟩ := bd h
    refine j_aP K dX8_sheet_89 e89 ?_
    refine j_iinc (q := 2) (v := (x4 + (1 : Int32))) (lv' := [(4, vI (x4 + (1 : Int32))), (0, vR (some o)), (1, vI x1)]) K dX8_sheet_90 rfl rfl X.2.2.1 (by decide) rfl ?_
    refine j_goto K dX8_sheet_93 ?_
    exact j_sub [1, 2, 0] rfl (hk70 _ _ h)
def B_X8_sheet_70 (fu : Nat) (o : Nat) (x1 : Int32) : Nat → Hp → Int32 → Option (Int32 × Hp)
  | 0 => fun _ _ => none
  | n + 1 => L_X8_sheet_70 (B_X8_sheet_70 fu o x1 n) fu o x1
theorem w_X8_sheet_70 {E : Cx} {l : Launch} {res : Int32 × Hp} {ad : Nat → Nat} {fu : Nat} {o : Nat} {x1 : Int32} (K : Kx E cX8_sheet RX8 (rmd 1 0 0)) (X : Bx E l yX8_sheet 5 (some .int) 0 0 ad (QI res)) : ∀ (n : Nat) (S : Hp) (x4 : Int32), B_X8_sheet_70 fu o x1 n S x4 = some res → J E 0 0 70 [(0, vR (some o)), (1, vI x1), (4, vI x4)] [] S ad := by
  intro n
  induction n with
  | zero =>
    intro S x4 h
    cases h
  | succ n ih =>
    intro S x4 h
    exact wl_X8_sheet_70 K X ih h
def B_X8_sheet_66 (fu : Nat) (o : Nat) (S : Hp) (x1 : Int32) (s0 : Int32) (s1 : Int32) (s2 : Option Nat) : Option (Int32 × Hp) :=
  (aP S s2 s1 s0).bind fun S66 =>
  B_X8_sheet_70 fu o x1 fu S66 (0 : Int32)
set_option maxRecDepth 100000 in
set_option maxHeartbeats 4000000 in
theorem w_X8_sheet_66 {E : Cx} {l : Launch} {res : Int32 × Hp} {ad : Nat → Nat} {fu : Nat} {o : Nat} {S : Hp} {x1 : Int32} {s0 : Int32} {s1 : Int32} {s2 : Option Nat} (K : Kx E cX8_sheet RX8 (rmd 1 0 0)) (X : Bx E l yX8_sheet 5 (some .int) 0 0 ad (QI res)) (h : B_X8_sheet_66 fu o S x1 s0 s1 s2 = some res) : J E 0 0 66 [(0, vR (some o)), (1, vI x1)] [vI s0, vI s1, vR s2] S ad := by
  obtain ⟨S66, e66, h⟩ := bd h
  refine j_aP K dX8_sheet_66 e66 ?_
  refine j_iconst (v := (0 : Int32)) K dX8_sheet_67 (by decide) ?_
  refine j_istore (lv' := [(4, vI (0 : Int32)), (0, vR (some o)), (1, vI x1)]) K dX8_sheet_68 X.2.2.1 (by decide) rfl ?_
  exact j_sub [1, 2, 0] rfl (w_X8_sheet_70 K X _ _ _ h)
def B_X8_sheet_44 (fu : Nat) (o : Nat) (S : Hp) (x1 : Int32) (x2 : Int32) (x3 : Int32) : Option (Int32 × Hp) :=
  (gR S (some o) 6 18).bind fun v45 =>
  (aP S v45 x1 x2).bind fun S50 =>
  (gR S50 (some o) 6 19).bind fun v52 =>
  if x2 = (-1 : Int32) then
    B_X8_sheet_66 fu o S50 x1 (0 : Int32) x1 v52
  else
    B_X8_sheet_66 fu o S50 x1 x3 x1 v52
set_option maxRecDepth 100000 in
set_option maxHeartbeats 4000000 in
theorem w_X8_sheet_44 {E : Cx} {l : Launch} {res : Int32 × Hp} {ad : Nat → Nat} {fu : Nat} {o : Nat} {S : Hp} {x1 : Int32} {x2 : Int32} {x3 : Int32} (K : Kx E cX8_sheet RX8 (rmd 1 0 0)) (X : Bx E l yX8_sheet 5 (some .int) 0 0 ad (QI res)) (h : B_X8_sheet_44 fu o S x1 x2 x3 = some res) : J E 0 0 44 [(0, vR (some o)), (1, vI x1), (2, vI x2), (3, vI x3)] [] S ad := by
  refine j_aload_n K dX8_sheet_44 rfl 0 rfl ?_
  obtain ⟨v45, e45, h⟩ := bd h
  refine fgX8_43 K dX8_sheet_45 e45 ?_
  refine j_iload_n K dX8_sheet_48 rfl 1 rfl ?_
  refine j_iload_n K dX8_sheet_49 rfl 2 rfl ?_
  obtain ⟨S50, e50, h⟩ := bd h
  refine j_aP K dX8_sheet_50 e50 ?_
  refine j_aload_n K dX8_sheet_51 rfl 0 rfl ?_
  obtain ⟨v52, e52, h⟩ := bd h
  refine fgX8_46 K dX8_sheet_52 e52 ?_
  refine j_iload_n K dX8_sheet_55 rfl 1 rfl ?_
  refine j_iload_n K dX8_sheet_56 rfl 2 rfl ?_
  refine j_iconst (v := (-1 : Int32)) K dX8_sheet_57 (by decide) ?_
  refine j_icmp_ne K dX8_sheet_58 (fun c58 => ?_) (fun c58 => ?_)
  · replace h := ie c58 h
    refine j_iload_n K dX8_sheet_65 rfl 3 rfl ?_
    exact j_sub [0, 1] rfl (w_X8_sheet_66 K X h)
  · replace h := it c58 h
    refine j_iconst (v := (0 : Int32)) K dX8_sheet_61 (by decide) ?_
    refine j_goto K dX8_sheet_62 ?_
    exact j_sub [0, 1] rfl (w_X8_sheet_66 K X h)
def B_X8_sheet_32 (fu : Nat) (o : Nat) (S : Hp) (x1 : Int32) (x2 : Int32) (x3 : Int32) : Option (Int32 × Hp) :=
  if x2 = (-1 : Int32) then
    B_X8_sheet_44 fu o S x1 x2 x3
  else
    if 0 ≤ x3 then
      B_X8_sheet_44 fu o S x1 x2 x3
    else
      some ((-14 : Int32), S)
set_option maxRecDepth 100000 in
set_option maxHeartbeats 4000000 in
theorem w_X8_sheet_32 {E : Cx} {l : Launch} {res : Int32 × Hp} {ad : Nat → Nat} {fu : Nat} {o : Nat} {S : Hp} {x1 : Int32} {x2 : Int32} {x3 : Int32} (K : Kx E cX8_sheet RX8 (rmd 1 0 0)) (X : Bx E l yX8_sheet 5 (some .int) 0 0 ad (QI res)) (h : B_X8_sheet_32 fu o S x1 x2 x3 = some res) : J E 0 0 32 [(0, vR (some o)), (1, vI x1), (2, vI x2), (3, vI x3)] [] S ad := by
  refine j_iload_n K dX8_sheet_32 rfl 2 rfl ?_
  refine j_iconst (v := (-1 : Int32)) K dX8_sheet_33 (by decide) ?_
  refine j_icmp_eq K dX8_sheet_34 (fun c34 => ?_) (fun c34 => ?_)
  · replace h := it c34 h
    exact w_X8_sheet_44 K X h
  · replace h := ie c34 h
    refine j_iload_n K dX8_sheet_37 rfl 3 rfl ?_
    refine j_if_ge K dX8_sheet_38 (fun c38 => ?_) (fun c38 => ?_)
    · replace h := it c38 h
      exact w_X8_sheet_44 K X h
    · replace h := ie c38 h
      refine j_bipush (v := (-14 : Int32)) K dX8_sheet_41 (by decide) ?_
      exact j_iret K X dX8_sheet_43 h
def F_X8_sheet (fu : Nat) (S : Hp) (o : Nat) (x1 : Int32) (x2 : Int32) (x3 : Int32) : Option (Int32 × Hp) :=
  b2 (F_X8_in S x1 (0 : Int32) (3 : Int32)) fun v3 S3 =>
  if v3 = 0 then
    B_X8_sheet_29 fu o S3
  else
    b2 (F_X8_in S3 x2 (-1 : Int32) (2 : Int32)) fun v12 S12 =>
    if v12 = 0 then
      B_X8_sheet_29 fu o S12
    else
      if x2 = (-1 : Int32) then
        B_X8_sheet_32 fu o S12 x1 x2 x3
      else
        if x3 ≤ (40 : Int32) then
          B_X8_sheet_32 fu o S12 x1 x2 x3
        else
          B_X8_sheet_29 fu o S12
set_option maxRecDepth 100000 in
set_option maxHeartbeats 4000000 in
theorem w_X8_sheet {E : Cx} {l : Launch} {res : Int32 × Hp} {ad : Nat → Nat} {fu : Nat} {S : Hp} {o : Nat} {x1 : Int32} {x2 : Int32} {x3 : Int32} (K : Kx E cX8_sheet RX8 (rmd 1 0 0)) (X : Bx E l yX8_sheet 5 (some .int) 0 0 ad (QI res)) (h : F_X8_sheet fu S o x1 x2 x3 = some res) : J E 0 0 0 [(0, vR (some o)), (1, vI x1), (2, vI x2), (3, vI x3)] [] S ad := by
  refine j_iload_n K dX8_sheet_0 rfl 1 rfl ?_
  refine j_iconst (v := (0 : Int32)) K dX8_sheet_1 (by decide) ?_
  refine j_iconst (v := (3 : Int32)) K dX8_sheet_2 (by decide) ?_
  obtain ⟨v3, S3, e3, h⟩ := bd2 h
  refine j_cI (st := []) K (r_S (vs := [vI x1, vI (0 : Int32), vI (3 : Int32)]) (n := 3) K (c_X8_in e3) dX8_sheet_3 z812 z813 z13 z814 ⟨zd_X8_in, rfl, rfl, rfl, ⟨Nat.le_of_ble_eq_true rfl, Nat.le_of_ble_eq_true rfl⟩, Nat.le_of_ble_eq_true rfl, Nat.le_of_ble_eq_true rfl, Nat.le_of_ble_eq_true rfl⟩) rfl ?_
  refine j_if_eq K dX8_sheet_6 (fun c6 => ?_) (fun c6 => ?_)
  · replace h := it c6 h
    exact j_sub [] rfl (w_X8_sheet_29 K X h)
  · replace h := ie c6 h
    refine j_iload_n K dX8_sheet_9 rfl 2 rfl ?_
    refine j_iconst (v := (-1 : Int32)) K dX8_sheet_10 (by decide) ?_
    refine j_iconst (v := (2 : Int32)) K dX8_sheet_11 (by decide) ?_
    obtain ⟨v12, S12, e12, h⟩ := bd2 h
    refine j_cI (st := []) K (r_S (vs := [vI x2, vI (-1 : Int32), vI (2 : Int32)]) (n := 3) K (c_X8_in e12) dX8_sheet_12 z812 z813 z13 z814 ⟨zd_X8_in, rfl, rfl, rfl, ⟨Nat.le_of_ble_eq_true rfl, Nat.le_of_ble_eq_true rfl⟩, Nat.le_of_ble_eq_true rfl, Nat.le_of_ble_eq_true rfl, Nat.le_of_ble_eq_true rfl⟩) rfl ?_
    refine j_if_eq K dX8_sheet_15 (fun c15 => ?_) (fun c15 => ?_)
    · replace h := it c15 h
      exact j_sub [] rfl (w_X8_sheet_29 K X h)
    · replace h := ie c15 h
      refine j_iload_n K dX8_sheet_18 rfl 2 rfl ?_
      refine j_iconst (v := (-1 : Int32)) K dX8_sheet_19 (by decide) ?_
      refine j_icmp_eq K dX8_sheet_20 (fun c20 => ?_) (fun c20 => ?_)
      · replace h := it c20 h
        exact w_X8_sheet_32 K X h
      · replace h := ie c20 h
        refine j_iload_n K dX8_sheet_23 rfl 3 rfl ?_
        refine j_bipush (v := (40 : Int32)) K dX8_sheet_24 (by decide) ?_
        refine j_icmp_le K dX8_sheet_26 (fun c26 => ?_) (fun c26 => ?_)
        · replace h := it c26 h
          exact w_X8_sheet_32 K X h
        · replace h := ie c26 h
          exact j_sub [] rfl (w_X8_sheet_29 K X h)
theorem c_X8_sheet {l : Launch} {fu : Nat} {S : Hp} {o : Nat} {x1 : Int32} {x2 : Int32} {x3 : Int32} {res : Int32 × Hp} (h : F_X8_sheet fu S o x1 x2 x3 = some res) : Ct l yX8_sheet cX8_sheet 5 (some .int) (rmd 1 0 0) 0 0 [vR (some o), vI x1, vI x2, vI x3] S (QI res) :=
  z_entry (by decide +kernel) (Nat.le_of_ble_eq_true rfl) (fun E ad K X => w_X8_sheet K X h)

theorem dX8_cell_0 : decode cX8_cell 0 = .ok (.iload_n 1, 1) ∧ 0 + 1 = 1 := ⟨by decide +kernel, rfl⟩
theorem dX8_cell_1 : decode cX8_cell 1 = .ok (.iconst 0, 1) ∧ 1 + 1 = 2 := ⟨by decide +kernel, rfl⟩
theorem dX8_cell_2 : decode cX8_cell 2 = .ok (.iconst 3, 1) ∧ 2 + 1 = 3 := ⟨by decide +kernel, rfl⟩
theorem dX8_cell_3 : decode cX8_cell 3 = .ok (.invokestatic 87, 3) := by decide +kernel
theorem dX8_cell_6 : decode cX8_cell 6 = .ok (.ifCond .ne 6, 3) ∧ 6 + 3 = 9 ∧ ((6 : Nat) : Int) + (6) = ((12 : Nat) : Int) := ⟨by decide +kernel, rfl, by decide⟩
theorem dX8_cell_9 : decode cX8_cell 9 = .ok (.bipush (-2), 2) ∧ 9 + 2 = 11 := ⟨by decide +kernel, rfl⟩
theorem dX8_cell_11 : decode cX8_cell 11 = .ok (.ireturn, 1) := by decide +kernel
theorem dX8_cell_12 : decode cX8_cell 12 = .ok (.aload_n 0, 1) ∧ 12 + 1 = 13 := ⟨by decide +kernel, rfl⟩
theorem dX8_cell_13 : decode cX8_cell 13 = .ok (.getfield 43, 3) ∧ 13 + 3 = 16 := ⟨by decide +kernel, rfl⟩
theorem dX8_cell_16 : decode cX8_cell 16 = .ok (.iload_n 1, 1) ∧ 16 + 1 = 17 := ⟨by decide +kernel, rfl⟩
theorem dX8_cell_17 : decode cX8_cell 17 = .ok (.iaload, 1) ∧ 17 + 1 = 18 := ⟨by decide +kernel, rfl⟩
theorem dX8_cell_18 : decode cX8_cell 18 = .ok (.iconst (-1), 1) ∧ 18 + 1 = 19 := ⟨by decide +kernel, rfl⟩
theorem dX8_cell_19 : decode cX8_cell 19 = .ok (.if_icmp .ne 6, 3) ∧ 19 + 3 = 22 ∧ ((19 : Nat) : Int) + (6) = ((25 : Nat) : Int) := ⟨by decide +kernel, rfl, by decide⟩
theorem dX8_cell_22 : decode cX8_cell 22 = .ok (.bipush (-11), 2) ∧ 22 + 2 = 24 := ⟨by decide +kernel, rfl⟩
theorem dX8_cell_24 : decode cX8_cell 24 = .ok (.ireturn, 1) := by decide +kernel
theorem dX8_cell_25 : decode cX8_cell 25 = .ok (.iload_n 2, 1) ∧ 25 + 1 = 26 := ⟨by decide +kernel, rfl⟩
theorem dX8_cell_26 : decode cX8_cell 26 = .ok (.iconst 0, 1) ∧ 26 + 1 = 27 := ⟨by decide +kernel, rfl⟩
theorem dX8_cell_27 : decode cX8_cell 27 = .ok (.aload_n 0, 1) ∧ 27 + 1 = 28 := ⟨by decide +kernel, rfl⟩
theorem dX8_cell_28 : decode cX8_cell 28 = .ok (.getfield 46, 3) ∧ 28 + 3 = 31 := ⟨by decide +kernel, rfl⟩
theorem dX8_cell_31 : decode cX8_cell 31 = .ok (.iload_n 1, 1) ∧ 31 + 1 = 32 := ⟨by decide +kernel, rfl⟩
theorem dX8_cell_32 : decode cX8_cell 32 = .ok (.iaload, 1) ∧ 32 + 1 = 33 := ⟨by decide +kernel, rfl⟩
theorem dX8_cell_33 : decode cX8_cell 33 = .ok (.iconst 1, 1) ∧ 33 + 1 = 34 := ⟨by decide +kernel, rfl⟩
theorem dX8_cell_34 : decode cX8_cell 34 = .ok (.isub, 1) ∧ 34 + 1 = 35 := ⟨by decide +kernel, rfl⟩
theorem dX8_cell_35 : decode cX8_cell 35 = .ok (.invokestatic 87, 3) := by decide +kernel
theorem dX8_cell_38 : decode cX8_cell 38 = .ok (.ifCond .ne 6, 3) ∧ 38 + 3 = 41 ∧ ((38 : Nat) : Int) + (6) = ((44 : Nat) : Int) := ⟨by decide +kernel, rfl, by decide⟩
theorem dX8_cell_41 : decode cX8_cell 41 = .ok (.bipush (-12), 2) ∧ 41 + 2 = 43 := ⟨by decide +kernel, rfl⟩
theorem dX8_cell_43 : decode cX8_cell 43 = .ok (.ireturn, 1) := by decide +kernel
theorem dX8_cell_44 : decode cX8_cell 44 = .ok (.aload_n 0, 1) ∧ 44 + 1 = 45 := ⟨by decide +kernel, rfl⟩
theorem dX8_cell_45 : decode cX8_cell 45 = .ok (.getfield 49, 3) ∧ 45 + 3 = 48 := ⟨by decide +kernel, rfl⟩
theorem dX8_cell_48 : decode cX8_cell 48 = .ok (.bipush 40, 2) ∧ 48 + 2 = 50 := ⟨by decide +kernel, rfl⟩
theorem dX8_cell_50 : decode cX8_cell 50 = .ok (.iload_n 1, 1) ∧ 50 + 1 = 51 := ⟨by decide +kernel, rfl⟩
theorem dX8_cell_51 : decode cX8_cell 51 = .ok (.imul, 1) ∧ 51 + 1 = 52 := ⟨by decide +kernel, rfl⟩
theorem dX8_cell_52 : decode cX8_cell 52 = .ok (.iload_n 2, 1) ∧ 52 + 1 = 53 := ⟨by decide +kernel, rfl⟩
theorem dX8_cell_53 : decode cX8_cell 53 = .ok (.iadd, 1) ∧ 53 + 1 = 54 := ⟨by decide +kernel, rfl⟩
theorem dX8_cell_54 : decode cX8_cell 54 = .ok (.aload_n 0, 1) ∧ 54 + 1 = 55 := ⟨by decide +kernel, rfl⟩
theorem dX8_cell_55 : decode cX8_cell 55 = .ok (.getfield 43, 3) ∧ 55 + 3 = 58 := ⟨by decide +kernel, rfl⟩
theorem dX8_cell_58 : decode cX8_cell 58 = .ok (.iload_n 1, 1) ∧ 58 + 1 = 59 := ⟨by decide +kernel, rfl⟩
theorem dX8_cell_59 : decode cX8_cell 59 = .ok (.iaload, 1) ∧ 59 + 1 = 60 := ⟨by decide +kernel, rfl⟩
theorem dX8_cell_60 : decode cX8_cell 60 = .ok (.ifCond .ne 8, 3) ∧ 60 + 3 = 63 ∧ ((60 : Nat) : Int) + (8) = ((68 : Nat) : Int) := ⟨by decide +kernel, rfl, by decide⟩
theorem dX8_cell_63 : decode cX8_cell 63 = .ok (.iload_n 3, 1) ∧ 63 + 1 = 64 := ⟨by decide +kernel, rfl⟩
theorem dX8_cell_64 : decode cX8_cell 64 = .ok (.i2b, 1) ∧ 64 + 1 = 65 := ⟨by decide +kernel, rfl⟩
theorem dX8_cell_65 : decode cX8_cell 65 = .ok (.goto 19, 3) ∧ ((65 : Nat) : Int) + (19) = ((84 : Nat) : Int) := ⟨by decide +kernel, by decide⟩
theorem dX8_cell_68 : decode cX8_cell 68 = .ok (.aload_n 0, 1) ∧ 68 + 1 = 69 := ⟨by decide +kernel, rfl⟩
theorem dX8_cell_69 : decode cX8_cell 69 = .ok (.getfield 43, 3) ∧ 69 + 3 = 72 := ⟨by decide +kernel, rfl⟩
theorem dX8_cell_72 : decode cX8_cell 72 = .ok (.iload_n 1, 1) ∧ 72 + 1 = 73 := ⟨by decide +kernel, rfl⟩
theorem dX8_cell_73 : decode cX8_cell 73 = .ok (.iaload, 1) ∧ 73 + 1 = 74 := ⟨by decide +kernel, rfl⟩
theorem dX8_cell_74 : decode cX8_cell 74 = .ok (.iconst 1, 1) ∧ 74 + 1 = 75 := ⟨by decide +kernel, rfl⟩
theorem dX8_cell_75 : decode cX8_cell 75 = .ok (.if_icmp .ne 8, 3) ∧ 75 + 3 = 78 ∧ ((75 : Nat) : Int) + (8) = ((83 : Nat) : Int) := ⟨by decide +kernel, rfl, by decide⟩
theorem dX8_cell_78 : decode cX8_cell 78 = .ok (.iload_n 3, 1) ∧ 78 + 1 = 79 := ⟨by decide +kernel, rfl⟩
theorem dX8_cell_79 : decode cX8_cell 79 = .ok (.i2s, 1) ∧ 79 + 1 = 80 := ⟨by decide +kernel, rfl⟩
theorem dX8_cell_80 : decode cX8_cell 80 = .ok (.goto 4, 3) ∧ ((80 : Nat) : Int) + (4) = ((84 : Nat) : Int) := ⟨by decide +kernel, by decide⟩
theorem dX8_cell_83 : decode cX8_cell 83 = .ok (.iload_n 3, 1) ∧ 83 + 1 = 84 := ⟨by decide +kernel, rfl⟩
theorem dX8_cell_84 : decode cX8_cell 84 = .ok (.iastore, 1) ∧ 84 + 1 = 85 := ⟨by decide +kernel, rfl⟩
theorem dX8_cell_85 : decode cX8_cell 85 = .ok (.iconst 1, 1) ∧ 85 + 1 = 86 := ⟨by decide +kernel, rfl⟩
theorem dX8_cell_86 : decode cX8_cell 86 = .ok (.ireturn, 1) := by decide +kernel
def B_X8_cell_84 (o : Nat) (S : Hp) (s0 : Int32) (s1 : Int32) (s2 : Option Nat) : Option (Int32 × Hp) :=
  (aP S s2 s1 s0).bind fun S84 =>
  some ((1 : Int32), S84)
set_option maxRecDepth 100000 in
set_option maxHeartbeats 4000000 in
theorem w_X8_cell_84 {E : Cx} {l : Launch} {res : Int32 × Hp} {ad : Nat → Nat} {o : Nat} {S : Hp} {s0 : Int32} {s1 : Int32} {s2 : Option Nat} (K : Kx E cX8_cell RX8 (rmd 1 0 0)) (X : Bx E l yX8_cell 4 (some .int) 0 0 ad (QI res)) (h : B_X8_cell_84 o S s0 s1 s2 = some res) : J E 0 0 84 [] [vI s0, vI s1, vR s2] S ad := by
  obtain ⟨S84, e84, h⟩ := bd h
  refine j_aP K dX8_cell_84 e84 ?_
  refine j_iconst (v := (1 : Int32)) K dX8_cell_85 (by decide) ?_
  exact j_iret K X dX8_cell_86 h
def F_X8_cell (S : Hp) (o : Nat) (x1 : Int32) (x2 : Int32) (x3 : Int32) : Option (Int32 × Hp) :=
  b2 (F_X8_in S x1 (0 : Int32) (3 : Int32)) fun v3 S3 =>
  if v3 = 0 then
    some ((-2 : Int32), S3)
  else
    (gR S3 (some o) 6 18).bind fun v13 =>
    (aG S3 v13 x1).bind fun v17 =>
    if v17 = (-1 : Int32) then
      some ((-11 : Int32), S3)
    else
      (gR S3 (some o) 6 19).bind fun v28 =>
      (aG S3 v28 x1).bind fun v32 =>
      b2 (F_X8_in S3 x2 (0 : Int32) (v32 - (1 : Int32))) fun v35 S35 =>
      if v35 = 0 then
        some ((-12 : Int32), S35)
      else
        (gR S35 (some o) 6 20).bind fun v45 =>
        (gR S35 (some o) 6 18).bind fun v55 =>
        (aG S35 v55 x1).bind fun v59 =>
        if v59 = 0 then
          B_X8_cell_84 o S35 x3.toInt8.toInt32 (((40 : Int32) * x1) + x2) v45
        else
          (gR S35 (some o) 6 18).bind fun v69 =>
          (aG S35 v69 x1).bind fun v73 =>
          if v73 = (1 : Int32) then
            B_X8_cell_84 o S35 x3.toInt16.toInt32 (((40 : Int32) * x1) + x2) v45
          else
            B_X8_cell_84 o S35 x3 (((40 : Int32) * x1) + x2) v45
set_option maxRecDepth 100000 in
set_option maxHeartbeats 4000000 in
theorem w_X8_cell {E : Cx} {l : Launch} {res : Int32 × Hp} {ad : Nat → Nat} {S : Hp} {o : Nat} {x1 : Int32} {x2 : Int32} {x3 : Int32} (K : Kx E cX8_cell RX8 (rmd 1 0 0)) (X : Bx E l yX8_cell 4 (some .int) 0 0 ad (QI res)) (h : F_X8_cell S o x1 x2 x3 = some res) : J E 0 0 0 [(0, vR (some o)), (1, vI x1), (2, vI x2), (3, vI x3)] [] S ad := by
  refine j_iload_n K dX8_cell_0 rfl 1 rfl ?_
  refine j_iconst (v := (0 : Int32)) K dX8_cell_1 (by decide) ?_
  refine j_iconst (v := (3 : Int32)) K dX8_cell_2 (by decide) ?_
  obtain ⟨v3, S3, e3, h⟩ := bd2 h
  refine j_cI (st := []) K (r_S (vs := [vI x1, vI (0 : Int32), vI (3 : Int32)]) (n := 3) K (c_X8_in e3) dX8_cell_3 z812 z813 z13 z814 ⟨zd_X8_in, rfl, rfl, rfl, ⟨Nat.le_of_ble_eq_true rfl, Nat.le_of_ble_eq_true rfl⟩, Nat.le_of_ble_eq_true rfl, Nat.le_of_ble_eq_true rfl, Nat.le_of_ble_eq_true rfl⟩) rfl ?_
  refine j_if_ne K dX8_cell_6 (fun c6 => ?_) (fun c6 => ?_)
  · replace h := ie c6 h
    refine j_aload_n K dX8_cell_12 rfl 0 rfl ?_
    obtain ⟨v13, e13, h⟩ := bd h
    refine fgX8_43 K dX8_cell_13 e13 ?_
    refine j_iload_n K dX8_cell_16 rfl 1 rfl ?_
    obtain ⟨v17, e17, h⟩ := bd h
    refine j_aG K dX8_cell_17 e17 ?_
    refine j_iconst (v := (-1 : Int32)) K dX8_cell_18 (by decide) ?_
    refine j_icmp_ne K dX8_cell_19 (fun c19 => ?_) (fun c19 => ?_)
    · replace h := ie c19 h
      refine j_iload_n K dX8_cell_25 rfl 2 rfl ?_
      refine j_iconst (v := (0 : Int32)) K dX8_cell_26 (by decide) ?_
      refine j_aload_n K dX8_cell_27 rfl 0 rfl ?_
      obtain ⟨v28, e28, h⟩ := bd h
      refine fgX8_46 K dX8_cell_28 e28 ?_
      refine j_iload_n K dX8_cell_31 rfl 1 rfl ?_
      obtain ⟨v32, e32, h⟩ := bd h
      refine j_aG K dX8_cell_32 e32 ?_
      refine j_iconst (v := (1 : Int32)) K dX8_cell_33 (by decide) ?_
      refine j_isub K dX8_cell_34 ?_
      obtain ⟨v35, S35, e35, h⟩ := bd2 h
      refine j_cI (st := []) K (r_S (vs := [vI x2, vI (0 : Int32), vI (v32 - (1 : Int32))]) (n := 3) K (c_X8_in e35) dX8_cell_35 z812 z813 z13 z814 ⟨zd_X8_in, rfl, rfl, rfl, ⟨Nat.le_of_ble_eq_true rfl, Nat.le_of_ble_eq_true rfl⟩, Nat.le_of_ble_eq_true rfl, Nat.le_of_ble_eq_true rfl, Nat.le_of_ble_eq_true rfl⟩) rfl ?_
      refine j_if_ne K dX8_cell_38 (fun c38 => ?_) (fun c38 => ?_)
      · replace h := ie c38 h
        refine j_aload_n K dX8_cell_44 rfl 0 rfl ?_
        obtain ⟨v45, e45, h⟩ := bd h
        refine fgX8_49 K dX8_cell_45 e45 ?_
        refine j_bipush (v := (40 : Int32)) K dX8_cell_48 (by decide) ?_
        refine j_iload_n K dX8_cell_50 rfl 1 rfl ?_
        refine j_imul K dX8_cell_51 ?_
        refine j_iload_n K dX8_cell_52 rfl 2 rfl ?_
        refine j_iadd K dX8_cell_53 ?_
        refine j_aload_n K dX8_cell_54 rfl 0 rfl ?_
        obtain ⟨v55, e55, h⟩ := bd h
        refine fgX8_43 K dX8_cell_55 e55 ?_
        refine j_iload_n K dX8_cell_58 rfl 1 rfl ?_
        obtain ⟨v59, e59, h⟩ := bd h
        refine j_aG K dX8_cell_59 e59 ?_
        refine j_if_ne K dX8_cell_60 (fun c60 => ?_) (fun c60 => ?_)
        · replace h := ie c60 h
          refine j_aload_n K dX8_cell_68 rfl 0 rfl ?_
          obtain ⟨v69, e69, h⟩ := bd h
          refine fgX8_43 K dX8_cell_69 e69 ?_
          refine j_iload_n K dX8_cell_72 rfl 1 rfl ?_
          obtain ⟨v73, e73, h⟩ := bd h
          refine j_aG K dX8_cell_73 e73 ?_
          refine j_iconst (v := (1 : Int32)) K dX8_cell_74 (by decide) ?_
          refine j_icmp_ne K dX8_cell_75 (fun c75 => ?_) (fun c75 => ?_)
          · replace h := ie c75 h
            refine j_iload_n K dX8_cell_83 rfl 3 rfl ?_
            exact j_sub [] rfl (w_X8_cell_84 K X h)
          · replace h := it c75 h
            refine j_iload_n K dX8_cell_78 rfl 3 rfl ?_
            refine j_i2s K dX8_cell_79 ?_
            refine j_goto K dX8_cell_80 ?_
            exact j_sub [] rfl (w_X8_cell_84 K X h)
        · replace h := it c60 h
          refine j_iload_n K dX8_cell_63 rfl 3 rfl ?_
          refine j_i2b K dX8_cell_64 ?_
          refine j_goto K dX8_cell_65 ?_
          exact j_sub [] rfl (w_X8_cell_84 K X h)
      · replace h := it c38 h
        refine j_bipush (v := (-12 : Int32)) K dX8_cell_41 (by decide) ?_
        exact j_iret K X dX8_cell_43 h
    · replace h := it c19 h
      refine j_bipush (v := (-11 : Int32)) K dX8_cell_22 (by decide) ?_
      exact j_iret K X dX8_cell_24 h
  · replace h := it c6 h
    refine j_bipush (v := (-2 : Int32)) K dX8_cell_9 (by decide) ?_
    exact j_iret K X dX8_cell_11 h
theorem c_X8_cell {l : Launch} {S : Hp} {o : Nat} {x1 : Int32} {x2 : Int32} {x3 : Int32} {res : Int32 × Hp} (h : F_X8_cell S o x1 x2 x3 = some res) : Ct l yX8_cell cX8_cell 4 (some .int) (rmd 1 0 0) 0 0 [vR (some o), vI x1, vI x2, vI x3] S (QI res) :=
  z_entry (by decide +kernel) (Nat.le_of_ble_eq_true rfl) (fun E ad K X => w_X8_cell K X h)

theorem dX8_copy_0 : decode cX8_copy 0 = .ok (.iload_n 1, 1) ∧ 0 + 1 = 1 := ⟨by decide +kernel, rfl⟩
theorem dX8_copy_1 : decode cX8_copy 1 = .ok (.iconst 0, 1) ∧ 1 + 1 = 2 := ⟨by decide +kernel, rfl⟩
theorem dX8_copy_2 : decode cX8_copy 2 = .ok (.iconst 3, 1) ∧ 2 + 1 = 3 := ⟨by decide +kernel, rfl⟩
theorem dX8_copy_3 : decode cX8_copy 3 = .ok (.invokestatic 87, 3) := by decide +kernel
theorem dX8_copy_6 : decode cX8_copy 6 = .ok (.ifCond .eq 12, 3) ∧ 6 + 3 = 9 ∧ ((6 : Nat) : Int) + (12) = ((18 : Nat) : Int) := ⟨by decide +kernel, rfl, by decide⟩
theorem dX8_copy_9 : decode cX8_copy 9 = .ok (.iload_n 3, 1) ∧ 9 + 1 = 10 := ⟨by decide +kernel, rfl⟩
theorem dX8_copy_10 : decode cX8_copy 10 = .ok (.iconst 0, 1) ∧ 10 + 1 = 11 := ⟨by decide +kernel, rfl⟩
theorem dX8_copy_11 : decode cX8_copy 11 = .ok (.iconst 3, 1) ∧ 11 + 1 = 12 := ⟨by decide +kernel, rfl⟩
theorem dX8_copy_12 : decode cX8_copy 12 = .ok (.invokestatic 87, 3) := by decide +kernel
theorem dX8_copy_15 : decode cX8_copy 15 = .ok (.ifCond .ne 6, 3) ∧ 15 + 3 = 18 ∧ ((15 : Nat) : Int) + (6) = ((21 : Nat) : Int) := ⟨by decide +kernel, rfl, by decide⟩
theorem dX8_copy_18 : decode cX8_copy 18 = .ok (.bipush (-2), 2) ∧ 18 + 2 = 20 := ⟨by decide +kernel, rfl⟩
theorem dX8_copy_20 : decode cX8_copy 20 = .ok (.ireturn, 1) := by decide +kernel
theorem dX8_copy_21 : decode cX8_copy 21 = .ok (.aload_n 0, 1) ∧ 21 + 1 = 22 := ⟨by decide +kernel, rfl⟩
theorem dX8_copy_22 : decode cX8_copy 22 = .ok (.getfield 43, 3) ∧ 22 + 3 = 25 := ⟨by decide +kernel, rfl⟩
theorem dX8_copy_25 : decode cX8_copy 25 = .ok (.iload_n 1, 1) ∧ 25 + 1 = 26 := ⟨by decide +kernel, rfl⟩
theorem dX8_copy_26 : decode cX8_copy 26 = .ok (.iaload, 1) ∧ 26 + 1 = 27 := ⟨by decide +kernel, rfl⟩
theorem dX8_copy_27 : decode cX8_copy 27 = .ok (.iconst (-1), 1) ∧ 27 + 1 = 28 := ⟨by decide +kernel, rfl⟩
theorem dX8_copy_28 : decode cX8_copy 28 = .ok (.if_icmp .eq 13, 3) ∧ 28 + 3 = 31 ∧ ((28 : Nat) : Int) + (13) = ((41 : Nat) : Int) := ⟨by decide +kernel, rfl, by decide⟩
theorem dX8_copy_31 : decode cX8_copy 31 = .ok (.aload_n 0, 1) ∧ 31 + 1 = 32 := ⟨by decide +kernel, rfl⟩
theorem dX8_copy_32 : decode cX8_copy 32 = .ok (.getfield 43, 3) ∧ 32 + 3 = 35 := ⟨by decide +kernel, rfl⟩
theorem dX8_copy_35 : decode cX8_copy 35 = .ok (.iload_n 3, 1) ∧ 35 + 1 = 36 := ⟨by decide +kernel, rfl⟩
theorem dX8_copy_36 : decode cX8_copy 36 = .ok (.iaload, 1) ∧ 36 + 1 = 37 := ⟨by decide +kernel, rfl⟩
theorem dX8_copy_37 : decode cX8_copy 37 = .ok (.iconst (-1), 1) ∧ 37 + 1 = 38 := ⟨by decide +kernel, rfl⟩
theorem dX8_copy_38 : decode cX8_copy 38 = .ok (.if_icmp .ne 6, 3) ∧ 38 + 3 = 41 ∧ ((38 : Nat) : Int) + (6) = ((44 : Nat) : Int) := ⟨by decide +kernel, rfl, by decide⟩
theorem dX8_copy_41 : decode cX8_copy 41 = .ok (.bipush (-11), 2) ∧ 41 + 2 = 43 := ⟨by decide +kernel, rfl⟩
theorem dX8_copy_43 : decode cX8_copy 43 = .ok (.ireturn, 1) := by decide +kernel
theorem dX8_copy_44 : decode cX8_copy 44 = .ok (.aload_n 0, 1) ∧ 44 + 1 = 45 := ⟨by decide +kernel, rfl⟩
theorem dX8_copy_45 : decode cX8_copy 45 = .ok (.getfield 43, 3) ∧ 45 + 3 = 48 := ⟨by decide +kernel, rfl⟩
theorem dX8_copy_48 : decode cX8_copy 48 = .ok (.iload_n 1, 1) ∧ 48 + 1 = 49 := ⟨by decide +kernel, rfl⟩
theorem dX8_copy_49 : decode cX8_copy 49 = .ok (.iaload, 1) ∧ 49 + 1 = 50 := ⟨by decide +kernel, rfl⟩
theorem dX8_copy_50 : decode cX8_copy 50 = .ok (.aload_n 0, 1) ∧ 50 + 1 = 51 := ⟨by decide +kernel, rfl⟩
theorem dX8_copy_51 : decode cX8_copy 51 = .ok (.getfield 43, 3) ∧ 51 + 3 = 54 := ⟨by decide +kernel, rfl⟩
theorem dX8_copy_54 : decode cX8_copy 54 = .ok (.iload_n 3, 1) ∧ 54 + 1 = 55 := ⟨by decide +kernel, rfl⟩
theorem dX8_copy_55 : decode cX8_copy 55 = .ok (.iaload, 1) ∧ 55 + 1 = 56 := ⟨by decide +kernel, rfl⟩
theorem dX8_copy_56 : decode cX8_copy 56 = .ok (.if_icmp .eq 6, 3) ∧ 56 + 3 = 59 ∧ ((56 : Nat) : Int) + (6) = ((62 : Nat) : Int) := ⟨by decide +kernel, rfl, by decide⟩
theorem dX8_copy_59 : decode cX8_copy 59 = .ok (.bipush (-13), 2) ∧ 59 + 2 = 61 := ⟨by decide +kernel, rfl⟩
theorem dX8_copy_61 : decode cX8_copy 61 = .ok (.ireturn, 1) := by decide +kernel
theorem dX8_copy_62 : decode cX8_copy 62 = .ok (.iload 5, 2) ∧ 62 + 2 = 64 := ⟨by decide +kernel, rfl⟩
theorem dX8_copy_64 : decode cX8_copy 64 = .ok (.ifCond .lt 60, 3) ∧ 64 + 3 = 67 ∧ ((64 : Nat) : Int) + (60) = ((124 : Nat) : Int) := ⟨by decide +kernel, rfl, by decide⟩
theorem dX8_copy_67 : decode cX8_copy 67 = .ok (.iload_n 2, 1) ∧ 67 + 1 = 68 := ⟨by decide +kernel, rfl⟩
theorem dX8_copy_68 : decode cX8_copy 68 = .ok (.ifCond .lt 56, 3) ∧ 68 + 3 = 71 ∧ ((68 : Nat) : Int) + (56) = ((124 : Nat) : Int) := ⟨by decide +kernel, rfl, by decide⟩
theorem dX8_copy_71 : decode cX8_copy 71 = .ok (.iload 4, 2) ∧ 71 + 2 = 73 := ⟨by decide +kernel, rfl⟩
theorem dX8_copy_73 : decode cX8_copy 73 = .ok (.ifCond .lt 51, 3) ∧ 73 + 3 = 76 ∧ ((73 : Nat) : Int) + (51) = ((124 : Nat) : Int) := ⟨by decide +kernel, rfl, by decide⟩
theorem dX8_copy_76 : decode cX8_copy 76 = .ok (.iload_n 2, 1) ∧ 76 + 1 = 77 := ⟨by decide +kernel, rfl⟩
theorem dX8_copy_77 : decode cX8_copy 77 = .ok (.aload_n 0, 1) ∧ 77 + 1 = 78 := ⟨by decide +kernel, rfl⟩
theorem dX8_copy_78 : decode cX8_copy 78 = .ok (.getfield 46, 3) ∧ 78 + 3 = 81 := ⟨by decide +kernel, rfl⟩
theorem dX8_copy_81 : decode cX8_copy 81 = .ok (.iload_n 1, 1) ∧ 81 + 1 = 82 := ⟨by decide +kernel, rfl⟩
theorem dX8_copy_82 : decode cX8_copy 82 = .ok (.iaload, 1) ∧ 82 + 1 = 83 := ⟨by decide +kernel, rfl⟩
theorem dX8_copy_83 : decode cX8_copy 83 = .ok (.if_icmp .gt 41, 3) ∧ 83 + 3 = 86 ∧ ((83 : Nat) : Int) + (41) = ((124 : Nat) : Int) := ⟨by decide +kernel, rfl, by decide⟩
theorem dX8_copy_86 : decode cX8_copy 86 = .ok (.iload 4, 2) ∧ 86 + 2 = 88 := ⟨by decide +kernel, rfl⟩
theorem dX8_copy_88 : decode cX8_copy 88 = .ok (.aload_n 0, 1) ∧ 88 + 1 = 89 := ⟨by decide +kernel, rfl⟩
theorem dX8_copy_89 : decode cX8_copy 89 = .ok (.getfield 46, 3) ∧ 89 + 3 = 92 := ⟨by decide +kernel, rfl⟩
theorem dX8_copy_92 : decode cX8_copy 92 = .ok (.iload_n 3, 1) ∧ 92 + 1 = 93 := ⟨by decide +kernel, rfl⟩
theorem dX8_copy_93 : decode cX8_copy 93 = .ok (.iaload, 1) ∧ 93 + 1 = 94 := ⟨by decide +kernel, rfl⟩
theorem dX8_copy_94 : decode cX8_copy 94 = .ok (.if_icmp .gt 30, 3) ∧ 94 + 3 = 97 ∧ ((94 : Nat) : Int) + (30) = ((124 : Nat) : Int) := ⟨by decide +kernel, rfl, by decide⟩
theorem dX8_copy_97 : decode cX8_copy 97 = .ok (.iload 5, 2) ∧ 97 + 2 = 99 := ⟨by decide +kernel, rfl⟩
theorem dX8_copy_99 : decode cX8_copy 99 = .ok (.aload_n 0, 1) ∧ 99 + 1 = 100 := ⟨by decide +kernel, rfl⟩
theorem dX8_copy_100 : decode cX8_copy 100 = .ok (.getfield 46, 3) ∧ 100 + 3 = 103 := ⟨by decide +kernel, rfl⟩
theorem dX8_copy_103 : decode cX8_copy 103 = .ok (.iload_n 1, 1) ∧ 103 + 1 = 104 := ⟨by decide +kernel, rfl⟩
theorem dX8_copy_104 : decode cX8_copy 104 = .ok (.iaload, 1) ∧ 104 + 1 = 105 := ⟨by decide +kernel, rfl⟩
theorem dX8_copy_105 : decode cX8_copy 105 = .ok (.iload_n 2, 1) ∧ 105 + 1 = 106 := ⟨by decide +kernel, rfl⟩
theorem dX8_copy_106 : decode cX8_copy 106 = .ok (.isub, 1) ∧ 106 + 1 = 107 := ⟨by decide +kernel, rfl⟩
theorem dX8_copy_107 : decode cX8_copy 107 = .ok (.if_icmp .gt 17, 3) ∧ 107 + 3 = 110 ∧ ((107 : Nat) : Int) + (17) = ((124 : Nat) : Int) := ⟨by decide +kernel, rfl, by decide⟩
theorem dX8_copy_110 : decode cX8_copy 110 = .ok (.iload 5, 2) ∧ 110 + 2 = 112 := ⟨by decide +kernel, rfl⟩
theorem dX8_copy_112 : decode cX8_copy 112 = .ok (.aload_n 0, 1) ∧ 112 + 1 = 113 := ⟨by decide +kernel, rfl⟩
theorem dX8_copy_113 : decode cX8_copy 113 = .ok (.getfield 46, 3) ∧ 113 + 3 = 116 := ⟨by decide +kernel, rfl⟩
theorem dX8_copy_116 : decode cX8_copy 116 = .ok (.iload_n 3, 1) ∧ 116 + 1 = 117 := ⟨by decide +kernel, rfl⟩
theorem dX8_copy_117 : decode cX8_copy 117 = .ok (.iaload, 1) ∧ 117 + 1 = 118 := ⟨by decide +kernel, rfl⟩
theorem dX8_copy_118 : decode cX8_copy 118 = .ok (.iload 4, 2) ∧ 118 + 2 = 120 := ⟨by decide +kernel, rfl⟩
theorem dX8_copy_120 : decode cX8_copy 120 = .ok (.isub, 1) ∧ 120 + 1 = 121 := ⟨by decide +kernel, rfl⟩
theorem dX8_copy_121 : decode cX8_copy 121 = .ok (.if_icmp .le 6, 3) ∧ 121 + 3 = 124 ∧ ((121 : Nat) : Int) + (6) = ((127 : Nat) : Int) := ⟨by decide +kernel, rfl, by decide⟩
theorem dX8_copy_124 : decode cX8_copy 124 = .ok (.bipush (-12), 2) ∧ 124 + 2 = 126 := ⟨by decide +kernel, rfl⟩
theorem dX8_copy_126 : decode cX8_copy 126 = .ok (.ireturn, 1) := by decide +kernel
theorem dX8_copy_127 : decode cX8_copy 127 = .ok (.bipush 40, 2) ∧ 127 + 2 = 129 := ⟨by decide +kernel, rfl⟩
theorem dX8_copy_129 : decode cX8_copy 129 = .ok (.iload_n 1, 1) ∧ 129 + 1 = 130 := ⟨by decide +kernel, rfl⟩
theorem dX8_copy_130 : decode cX8_copy 130 = .ok (.imul, 1) ∧ 130 + 1 = 131 := ⟨by decide +kernel, rfl⟩
theorem dX8_copy_131 : decode cX8_copy 131 = .ok (.iload_n 2, 1) ∧ 131 + 1 = 132 := ⟨by decide +kernel, rfl⟩
theorem dX8_copy_132 : decode cX8_copy 132 = .ok (.iadd, 1) ∧ 132 + 1 = 133 := ⟨by decide +kernel, rfl⟩
theorem dX8_copy_133 : decode cX8_copy 133 = .ok (.istore 6, 2) ∧ 133 + 2 = 135 := ⟨by decide +kernel, rfl⟩
theorem dX8_copy_135 : decode cX8_copy 135 = .ok (.bipush 40, 2) ∧ 135 + 2 = 137 := ⟨by decide +kernel, rfl⟩
theorem dX8_copy_137 : decode cX8_copy 137 = .ok (.iload_n 3, 1) ∧ 137 + 1 = 138 := ⟨by decide +kernel, rfl⟩
theorem dX8_copy_138 : decode cX8_copy 138 = .ok (.imul, 1) ∧ 138 + 1 = 139 := ⟨by decide +kernel, rfl⟩
theorem dX8_copy_139 : decode cX8_copy 139 = .ok (.iload 4, 2) ∧ 139 + 2 = 141 := ⟨by decide +kernel, rfl⟩
theorem dX8_copy_141 : decode cX8_copy 141 = .ok (.iadd, 1) ∧ 141 + 1 = 142 := ⟨by decide +kernel, rfl⟩
theorem dX8_copy_142 : decode cX8_copy 142 = .ok (.istore 7, 2) ∧ 142 + 2 = 144 := ⟨by decide +kernel, rfl⟩
theorem dX8_copy_144 : decode cX8_copy 144 = .ok (.iconst 0, 1) ∧ 144 + 1 = 145 := ⟨by decide +kernel, rfl⟩
theorem dX8_copy_145 : decode cX8_copy 145 = .ok (.istore 8, 2) ∧ 145 + 2 = 147 := ⟨by decide +kernel, rfl⟩
theorem dX8_copy_147 : decode cX8_copy 147 = .ok (.iload 8, 2) ∧ 147 + 2 = 149 := ⟨by decide +kernel, rfl⟩
theorem dX8_copy_149 : decode cX8_copy 149 = .ok (.iload 5, 2) ∧ 149 + 2 = 151 := ⟨by decide +kernel, rfl⟩
theorem dX8_copy_151 : decode cX8_copy 151 = .ok (.if_icmp .ge 50, 3) ∧ 151 + 3 = 154 ∧ ((151 : Nat) : Int) + (50) = ((201 : Nat) : Int) := ⟨by decide +kernel, rfl, by decide⟩
theorem dX8_copy_154 : decode cX8_copy 154 = .ok (.iload 6, 2) ∧ 154 + 2 = 156 := ⟨by decide +kernel, rfl⟩
theorem dX8_copy_156 : decode cX8_copy 156 = .ok (.iload 7, 2) ∧ 156 + 2 = 158 := ⟨by decide +kernel, rfl⟩
theorem dX8_copy_158 : decode cX8_copy 158 = .ok (.if_icmp .ge 13, 3) ∧ 158 + 3 = 161 ∧ ((158 : Nat) : Int) + (13) = ((171 : Nat) : Int) := ⟨by decide +kernel, rfl, by decide⟩
theorem dX8_copy_161 : decode cX8_copy 161 = .ok (.iload 5, 2) ∧ 161 + 2 = 163 := ⟨by decide +kernel, rfl⟩
theorem dX8_copy_163 : decode cX8_copy 163 = .ok (.iconst 1, 1) ∧ 163 + 1 = 164 := ⟨by decide +kernel, rfl⟩
theorem dX8_copy_164 : decode cX8_copy 164 = .ok (.isub, 1) ∧ 164 + 1 = 165 := ⟨by decide +kernel, rfl⟩
theorem dX8_copy_165 : decode cX8_copy 165 = .ok (.iload 8, 2) ∧ 165 + 2 = 167 := ⟨by decide +kernel, rfl⟩
theorem dX8_copy_167 : decode cX8_copy 167 = .ok (.isub, 1) ∧ 167 + 1 = 168 := ⟨by decide +kernel, rfl⟩
theorem dX8_copy_168 : decode cX8_copy 168 = .ok (.goto 5, 3) ∧ ((168 : Nat) : Int) + (5) = ((173 : Nat) : Int) := ⟨by decide +kernel, by decide⟩
theorem dX8_copy_171 : decode cX8_copy 171 = .ok (.iload 8, 2) ∧ 171 + 2 = 173 := ⟨by decide +kernel, rfl⟩
theorem dX8_copy_173 : decode cX8_copy 173 = .ok (.istore 9, 2) ∧ 173 + 2 = 175 := ⟨by decide +kernel, rfl⟩
theorem dX8_copy_175 : decode cX8_copy 175 = .ok (.aload_n 0, 1) ∧ 175 + 1 = 176 := ⟨by decide +kernel, rfl⟩
theorem dX8_copy_176 : decode cX8_copy 176 = .ok (.getfield 49, 3) ∧ 176 + 3 = 179 := ⟨by decide +kernel, rfl⟩
theorem dX8_copy_179 : decode cX8_copy 179 = .ok (.iload 7, 2) ∧ 179 + 2 = 181 := ⟨by decide +kernel, rfl⟩
theorem dX8_copy_181 : decode cX8_copy 181 = .ok (.iload 9, 2) ∧ 181 + 2 = 183 := ⟨by decide +kernel, rfl⟩
theorem dX8_copy_183 : decode cX8_copy 183 = .ok (.iadd, 1) ∧ 183 + 1 = 184 := ⟨by decide +kernel, rfl⟩
theorem dX8_copy_184 : decode cX8_copy 184 = .ok (.aload_n 0, 1) ∧ 184 + 1 = 185 := ⟨by decide +kernel, rfl⟩
theorem dX8_copy_185 : decode cX8_copy 185 = .ok (.getfield 49, 3) ∧ 185 + 3 = 188 := ⟨by decide +kernel, rfl⟩
theorem dX8_copy_188 : decode cX8_copy 188 = .ok (.iload 6, 2) ∧ 188 + 2 = 190 := ⟨by decide +kernel, rfl⟩
theorem dX8_copy_190 : decode cX8_copy 190 = .ok (.iload 9, 2) ∧ 190 + 2 = 192 := ⟨by decide +kernel, rfl⟩
theorem dX8_copy_192 : decode cX8_copy 192 = .ok (.iadd, 1) ∧ 192 + 1 = 193 := ⟨by decide +kernel, rfl⟩
theorem dX8_copy_193 : decode cX8_copy 193 = .ok (.iaload, 1) ∧ 193 + 1 = 194 := ⟨by decide +kernel, rfl⟩
theorem dX8_copy_194 : decode cX8_copy 194 = .ok (.iastore, 1) ∧ 194 + 1 = 195 := ⟨by decide +kernel, rfl⟩
theorem dX8_copy_195 : decode cX8_copy 195 = .ok (.iinc 8 1, 3) ∧ 195 + 3 = 198 := ⟨by decide +kernel, rfl⟩
theorem dX8_copy_198 : decode cX8_copy 198 = .ok (.goto (-51), 3) ∧ ((198 : Nat) : Int) + (-51) = ((147 : Nat) : Int) := ⟨by decide +kernel, by decide⟩
theorem dX8_copy_201 : decode cX8_copy 201 = .ok (.iload 5, 2) ∧ 201 + 2 = 203 := ⟨by decide +kernel, rfl⟩
theorem dX8_copy_203 : decode cX8_copy 203 = .ok (.ireturn, 1) := by decide +kernel
def B_X8_copy_18 (fu : Nat) (o : Nat) (S : Hp) : Option (Int32 × Hp) :=
  some ((-2 : Int32), S)
set_option maxRecDepth 100000 in
set_option maxHeartbeats 4000000 in
theorem w_X8_copy_18 {E : Cx} {l : Launch} {res : Int32 × Hp} {ad : Nat → Nat} {fu : Nat} {o : Nat} {S : Hp} (K : Kx E cX8_copy RX8 (rmd 1 0 0)) (X : Bx E l yX8_copy 10 (some .int) 0 0 ad (QI res)) (h : B_X8_copy_18 fu o S = some res) : J E 0 0 18 [] [] S ad := by
  refine j_bipush (v := (-2 : Int32)) K dX8_copy_18 (by decide) ?_
  exact j_iret K X dX8_copy_20 h
def B_X8_copy_41 (fu : Nat) (o : Nat) (S : Hp) : Option (Int32 × Hp) :=
  some ((-11 : Int32), S)
set_option maxRecDepth 100000 in
set_option maxHeartbeats 4000000 in
theorem w_X8_copy_41 {E : Cx} {l : Launch} {res : Int32 × Hp} {ad : Nat → Nat} {fu : Nat} {o : Nat} {S : Hp} (K : Kx E cX8_copy RX8 (rmd 1 0 0)) (X : Bx E l yX8_copy 10 (some .int) 0 0 ad (QI res)) (h : B_X8_copy_41 fu o S = some res) : J E 0 0 41 [] [] S ad := by
  refine j_bipush (v := (-11 : Int32)) K dX8_copy_41 (by decide) ?_
  exact j_iret K X dX8_copy_43 h
def B_X8_copy_124 (fu : Nat) (o : Nat) (S : Hp) : Option (Int32 × Hp) :=
  some ((-12 : Int32), S)
set_option maxRecDepth 100000 in
set_option maxHeartbeats 4000000 in
theorem w_X8_copy_124 {E : Cx} {l : Launch} {res : Int32 × Hp} {ad : Nat → Nat} {fu : Nat} {o : Nat} {S : Hp} (K : Kx E cX8_copy RX8 (rmd 1 0 0)) (X : Bx E l yX8_copy 10 (some .int) 0 0 ad (QI res)) (h : B_X8_copy_124 fu o S = some res) : J E 0 0 124 [] [] S ad := by
  refine j_bipush (v := (-12 : Int32)) K dX8_copy_124 (by decide) ?_
  exact j_iret K X dX8_copy_126 h
def B_X8_copy_173 (k147 : Hp → Int32 → Option (Int32 × Hp)) (fu : Nat) (o : Nat) (S : Hp) (x5 : Int32) (x6 : Int32) (x7 : Int32) (x8 : Int32) (s0 : Int32) : Option (Int32 × Hp) :=
  (gR S (some o) 6 20).bind fun v176 =>
  (gR S (some o) 6 20).bind fun v185 =>
  (aG S v185 (x6 + s0)).bind fun v193 =>
  (aP S v176 (x7 + s0) v193).bind fun S194 =>
  k147 S194 (x8 + (1 : Int32))
set_option maxRecDepth 100000 in
set_option maxHeartbeats 4000000 in
theorem w_X8_copy_173 {E : Cx} {l : Launch} {res : Int32 × Hp} {ad : Nat → Nat} {k147 : Hp → Int32 → Option (Int32 × Hp)} {fu : Nat} {o : Nat} {S : Hp} {x5 : Int32} {x6 : Int32} {x7 : Int32} {x8 : Int32} {s0 : Int32} (K : Kx E cX8_copy RX8 (rmd 1 0 0)) (X : Bx E l yX8_copy 10 (some .int) 0 0 ad (QI res)) (hk147 : ∀ (S : Hp) (x8 : Int32), k147 S x8 = some res → J E 0 0 147 [(0, vR (some o)), (5, vI x5), (6, vI x6), (7, vI x7), (8, vI x8)] [] S ad) (h : B_X8_copy_173 k147 fu o S x5 x6 x7 x8 s0 = some res) : J E 0 0 173 [(0, vR (some o)), (5, vI x5), (6, vI x6), (7, vI x7), (8, vI x8)] [vI s0] S ad := by
  refine j_istore (lv' := [(9, vI s0), (0, vR (some o)), (5, vI x5), (6, vI x6), (7, vI x7), (8, vI x8)]) K dX8_copy_173 X.2.2.1 (by decide) rfl ?_
  refine j_aload_n K dX8_copy_175 rfl 1 rfl ?_
  obtain ⟨v176, e176, h⟩ := bd h
  refine fgX8_49 K dX8_copy_176 e176 ?_
  refine j_iload K dX8_copy_179 4 rfl ?_
  refine j_iload K dX8_copy_181 0 rfl ?_
  refine j_iadd K dX8_copy_183 ?_
  refine j_aload_n K dX8_copy_184 rfl 1 rfl ?_
  obtain ⟨v185, e185, h⟩ := bd h
  refine fgX8_49 K dX8_copy_185 e185 ?_
  refine j_iload K dX8_copy_188 3 rfl ?_
  refine j_iload K dX8_copy_190 0 rfl ?_
  refine j_iadd K dX8_copy_192 ?_
  obtain ⟨v193, e193, h⟩ := bd h
  refine j_aG K dX8_copy_193 e193 ?_
  obtain ⟨S194, e194, h⟩ := bd h
  refine j_aP K dX8_copy_194 e194 ?_
  refine j_iinc (q := 5) (v := (x8 + (1 : Int32))) (lv' := [(8, vI (x8 + (1 : Int32))), (9, vI s0), (0, vR (some o)), (5, vI x5), (6, vI x6), (7, vI x7)]) K dX8_copy_195 rfl rfl X.2.2.1 (by decide) rfl ?_
  refine j_goto K dX8_copy_198 ?_
  exact j_sub [2, 3, 4, 5, 0] rfl (hk147 _ _ h)
def L_X8_copy_147 (k147 : Hp → Int32 → Option (Int32 × Hp)) (fu : Nat) (o : Nat) (x5 : Int32) (x6 : Int32) (x7 : Int32) (S : Hp) (x8 : Int32) : Option (Int32 × Hp) :=
  if x5 ≤ x8 then
    some (x5, S)
  else
    if x7 ≤ x6 then
      B_X8_copy_173 k147 fu o S x5 x6 x7 x8 x8
    else
      B_X8_copy_173 k147 fu o S x5 x6 x7 x8 ((x5 - (1 : Int32)) - x8)
set_option maxRecDepth 100000 in
set_option maxHeartbeats 4000000 in
theorem wl_X8_copy_147 {E : Cx} {l : Launch} {res : Int32 × Hp} {ad : Nat → Nat} {k147 : Hp → Int32 → Option (Int32 × Hp)} {fu : Nat} {o : Nat} {S : Hp} {x5 : Int32} {x6 : Int32} {x7 : Int32} {x8 : Int32} (K : Kx E cX8_copy RX8 (rmd 1 0 0)) (X : Bx E l yX8_copy 10 (some .int) 0 0 ad (QI res)) (hk147 : ∀ (S : Hp) (x8 : Int32), k147 S x8 = some res → J E 0 0 147 [(0, vR (some o)), (5, vI x5), (6, vI x6), (7, vI x7), (8, vI x8)] [] S ad) (h : L_X8_copy_147 k147 fu o x5 x6 x7 S x8 = some res) : J E 0 0 147 [(0, vR (some o)), (5, vI x5), (6, vI x6), (7, vI x7), (8, vI x8)] [] S ad := by
  refine j_iload K dX8_copy_147 4 rfl ?_
  refine j_iload K dX8_copy_149 1 rfl ?_
  refine j_icmp_ge K dX8_copy_151 (fun c151 => ?_) (fun c151 => ?_)
  · replace h := it c151 h
    refine j_iload K dX8_copy_201 1 rfl ?_
    exact j_iret K X dX8_copy_203 h
  · replace h := ie c151 h
    refine j_iload K dX8_copy_154 2 rfl ?_
    refine j_iload K dX8_copy_156 3 rfl ?_
    refine j_icmp_ge K dX8_copy_158 (fun c158 => ?_) (fun c158 => ?_)
    · replace h := it c158 h
      refine j_iload K dX8_copy_171 4 rfl ?_
      exact w_X8_copy_173 K X hk147 h
    · replace h := ie c158 h
      refine j_iload K dX8_copy_161 1 rfl ?_
      refine j_iconst (v := (1 : Int32)) K dX8_copy_163 (by decide) ?_
      refine j_isub K dX8_copy_164 ?_
      refine j_iload K dX8_copy_165 4 rfl ?_
      refine j_isub K dX8_copy_167 ?_
      refine j_goto K dX8_copy_168 ?_
      exact w_X8_copy_173 K X hk147 h
def B_X8_copy_147 (fu : Nat) (o : Nat) (x5 : Int32) (x6 : Int32) (x7 : Int32) : Nat → Hp → Int32 → Option (Int32 × Hp)
  | 0 => fun _ _ => none
  | n + 1 => L_X8_copy_147 (B_X8_copy_147 fu o x5 x6 x7 n) fu o x5 x6 x7
theorem w_X8_copy_147 {E : Cx} {l : Launch} {res : Int32 × Hp} {ad : Nat → Nat} {fu : Nat} {o : Nat} {x5 : Int32} {x6 : Int32} {x7 : Int32} (K : Kx E cX8_copy RX8 (rmd 1 0 0)) (X : Bx E l yX8_copy 10 (some .int) 0 0 ad (QI res)) : ∀ (n : Nat) (S : Hp) (x8 : Int32), B_X8_copy_147 fu o x5 x6 x7 n S x8 = some res → J E 0 0 147 [(0, vR (some o)), (5, vI x5), (6, vI x6), (7, vI x7), (8, vI x8)] [] S ad := by
  intro n
  induction n with
  | zero =>
    intro S x8 h
    cases h
  | succ n ih =>
    intro S x8 h
    exact wl_X8_copy_147 K X ih h
def F_X8_copy (fu : Nat) (S : Hp) (o : Nat) (x1 : Int32) (x2 : Int32) (x3 : Int32) (x4 : Int32) (x5 : Int32) : Option (Int32 × Hp) :=
  b2 (F_X8_in S x1 (0 : Int32) (3 : Int32)) fun v3 S3 =>
  if v3 = 0 then
    B_X8_copy_18 fu o S3
  else
    b2 (F_X8_in S3 x3 (0 : Int32) (3 : Int32)) fun v12 S12 =>
    if v12 = 0 then
      B_X8_copy_18 fu o S12
    else
      (gR S12 (some o) 6 18).bind fun v22 =>
      (aG S12 v22 x1).bind fun v26 =>
      if v26 = (-1 : Int32) then
        B_X8_copy_41 fu o S12
      else
        (gR S12 (some o) 6 18).bind fun v32 =>
        (aG S12 v32 x3).bind fun v36 =>
        if v36 = (-1 : Int32) then
          B_X8_copy_41 fu o S12
        else
          (gR S12 (some o) 6 18).bind fun v45 =>
          (aG S12 v45 x1).bind fun v49 =>
          (gR S12 (some o) 6 18).bind fun v51 =>
          (aG S12 v51 x3).bind fun v55 =>
          if v49 = v55 then
            if x5 < 0 then
              B_X8_copy_124 fu o S12
            else
              if x2 < 0 then
                B_X8_copy_124 fu o S12
              else
                if x4 < 0 then
                  B_X8_copy_124 fu o S12
                else
                  (gR S12 (some o) 6 19).bind fun v78 =>
                  (aG S12 v78 x1).bind fun v82 =>
                  if v82 < x2 then
                    B_X8_copy_124 fu o S12
                  else
                    (gR S12 (some o) 6 19).bind fun v89 =>
                    (aG S12 v89 x3).bind fun v93 =>
                    if v93 < x4 then
                      B_X8_copy_124 fu o S12
                    else
                      (gR S12 (some o) 6 19).bind fun v100 =>
                      (aG S12 v100 x1).bind fun v104 =>
                      if (v104 - x2) < x5 then
                        B_X8_copy_124 fu o S12
                      else
                        (gR S12 (some o) 6 19).bind fun v113 =>
                        (aG S12 v113 x3).bind fun v117 =>
                        if x5 ≤ (v117 - x4) then
                          B_X8_copy_147 fu o x5 (((40 : Int32) * x1) + x2) (((40 : Int32) * x3) + x4) fu S12 (0 : Int32)
                        else
                          B_X8_copy_124 fu o S12
          else
            some ((-13 : Int32), S12)
set_option maxRecDepth 100000 in
set_option maxHeartbeats 4000000 in
theorem w_X8_copy {E : Cx} {l : Launch} {res : Int32 × Hp} {ad : Nat → Nat} {fu : Nat} {S : Hp} {o : Nat} {x1 : Int32} {x2 : Int32} {x3 : Int32} {x4 : Int32} {x5 : Int32} (K : Kx E cX8_copy RX8 (rmd 1 0 0)) (X : Bx E l yX8_copy 10 (some .int) 0 0 ad (QI res)) (h : F_X8_copy fu S o x1 x2 x3 x4 x5 = some res) : J E 0 0 0 [(0, vR (some o)), (1, vI x1), (2, vI x2), (3, vI x3), (4, vI x4), (5, vI x5)] [] S ad := by
  refine j_iload_n K dX8_copy_0 rfl 1 rfl ?_
  refine j_iconst (v := (0 : Int32)) K dX8_copy_1 (by decide) ?_
  refine j_iconst (v := (3 : Int32)) K dX8_copy_2 (by decide) ?_
  obtain ⟨v3, S3, e3, h⟩ := bd2 h
  refine j_cI (st := []) K (r_S (vs := [vI x1, vI (0 : Int32), vI (3 : Int32)]) (n := 3) K (c_X8_in e3) dX8_copy_3 z812 z813 z13 z814 ⟨zd_X8_in, rfl, rfl, rfl, ⟨Nat.le_of_ble_eq_true rfl, Nat.le_of_ble_eq_true rfl⟩, Nat.le_of_ble_eq_true rfl, Nat.le_of_ble_eq_true rfl, Nat.le_of_ble_eq_true rfl⟩) rfl ?_
  refine j_if_eq K dX8_copy_6 (fun c6 => ?_) (fun c6 => ?_)
  · replace h := it c6 h
    exact j_sub [] rfl (w_X8_copy_18 K X h)
  · replace h := ie c6 h
    refine j_iload_n K dX8_copy_9 rfl 3 rfl ?_
    refine j_iconst (v := (0 : Int32)) K dX8_copy_10 (by decide) ?_
    refine j_iconst (v := (3 : Int32)) K dX8_copy_11 (by decide) ?_
    obtain ⟨v12, S12, e12, h⟩ := bd2 h
    refine j_cI (st := []) K (r_S (vs := [vI x3, vI (0 : Int32), vI (3 : Int32)]) (n := 3) K (c_X8_in e12) dX8_copy_12 z812 z813 z13 z814 ⟨zd_X8_in, rfl, rfl, rfl, ⟨Nat.le_of_ble_eq_true rfl, Nat.le_of_ble_eq_true rfl⟩, Nat.le_of_ble_eq_true rfl, Nat.le_of_ble_eq_true rfl, Nat.le_of_ble_eq_true rfl⟩) rfl ?_
    refine j_if_ne K dX8_copy_15 (fun c15 => ?_) (fun c15 => ?_)
    · replace h := ie c15 h
      refine j_aload_n K dX8_copy_21 rfl 0 rfl ?_
      obtain ⟨v22, e22, h⟩ := bd h
      refine fgX8_43 K dX8_copy_22 e22 ?_
      refine j_iload_n K dX8_copy_25 rfl 1 rfl ?_
      obtain ⟨v26, e26, h⟩ := bd h
      refine j_aG K dX8_copy_26 e26 ?_
      refine j_iconst (v := (-1 : Int32)) K dX8_copy_27 (by decide) ?_
      refine j_icmp_eq K dX8_copy_28 (fun c28 => ?_) (fun c28 => ?_)
      · replace h := it c28 h
        exact j_sub [] rfl (w_X8_copy_41 K X h)
      · replace h := ie c28 h
        refine j_aload_n K dX8_copy_31 rfl 0 rfl ?_
        obtain ⟨v32, e32, h⟩ := bd h
        refine fgX8_43 K dX8_copy_32 e32 ?_
        refine j_iload_n K dX8_copy_35 rfl 3 rfl ?_
        obtain ⟨v36, e36, h⟩ := bd h
        refine j_aG K dX8_copy_36 e36 ?_
        refine j_iconst (v := (-1 : Int32)) K dX8_copy_37 (by decide) ?_
        refine j_icmp_ne K dX8_copy_38 (fun c38 => ?_) (fun c38 => ?_)
        · replace h := ie c38 h
          refine j_aload_n K dX8_copy_44 rfl 0 rfl ?_
          obtain ⟨v45, e45, h⟩ := bd h
          refine fgX8_43 K dX8_copy_45 e45 ?_
          refine j_iload_n K dX8_copy_48 rfl 1 rfl ?_
          obtain ⟨v49, e49, h⟩ := bd h
          refine j_aG K dX8_copy_49 e49 ?_
          refine j_aload_n K dX8_copy_50 rfl 0 rfl ?_
          obtain ⟨v51, e51, h⟩ := bd h
          refine fgX8_43 K dX8_copy_51 e51 ?_
          refine j_iload_n K dX8_copy_54 rfl 3 rfl ?_
          obtain ⟨v55, e55, h⟩ := bd h
          refine j_aG K dX8_copy_55 e55 ?_
          refine j_icmp_eq K dX8_copy_56 (fun c56 => ?_) (fun c56 => ?_)
          · replace h := it c56 h
            refine j_iload K dX8_copy_62 5 rfl ?_
            refine j_if_lt K dX8_copy_64 (fun c64 => ?_) (fun c64 => ?_)
            · replace h := it c64 h
              exact j_sub [] rfl (w_X8_copy_124 K X h)
            · replace h := ie c64 h
              refine j_iload_n K dX8_copy_67 rfl 2 rfl ?_
              refine j_if_lt K dX8_copy_68 (fun c68 => ?_) (fun c68 => ?_)
              · replace h := it c68 h
                exact j_sub [] rfl (w_X8_copy_124 K X h)
              · replace h := ie c68 h
                refine j_iload K dX8_copy_71 4 rfl ?_
                refine j_if_lt K dX8_copy_73 (fun c73 => ?_) (fun c73 => ?_)
                · replace h := it c73 h
                  exact j_sub [] rfl (w_X8_copy_124 K X h)
                · replace h := ie c73 h
                  refine j_iload_n K dX8_copy_76 rfl 2 rfl ?_
                  refine j_aload_n K dX8_copy_77 rfl 0 rfl ?_
                  obtain ⟨v78, e78, h⟩ := bd h
                  refine fgX8_46 K dX8_copy_78 e78 ?_
                  refine j_iload_n K dX8_copy_81 rfl 1 rfl ?_
                  obtain ⟨v82, e82, h⟩ := bd h
                  refine j_aG K dX8_copy_82 e82 ?_
                  refine j_icmp_gt K dX8_copy_83 (fun c83 => ?_) (fun c83 => ?_)
                  · replace h := it c83 h
                    exact j_sub [] rfl (w_X8_copy_124 K X h)
                  · replace h := ie c83 h
                    refine j_iload K dX8_copy_86 4 rfl ?_
                    refine j_aload_n K dX8_copy_88 rfl 0 rfl ?_
                    obtain ⟨v89, e89, h⟩ := bd h
                    refine fgX8_46 K dX8_copy_89 e89 ?_
                    refine j_iload_n K dX8_copy_92 rfl 3 rfl ?_
                    obtain ⟨v93, e93, h⟩ := bd h
                    refine j_aG K dX8_copy_93 e93 ?_
                    refine j_icmp_gt K dX8_copy_94 (fun c94 => ?_) (fun c94 => ?_)
                    · replace h := it c94 h
                      exact j_sub [] rfl (w_X8_copy_124 K X h)
                    · replace h := ie c94 h
                      refine j_iload K dX8_copy_97 5 rfl ?_
                      refine j_aload_n K dX8_copy_99 rfl 0 rfl ?_
                      obtain ⟨v100, e100, h⟩ := bd h
                      refine fgX8_46 K dX8_copy_100 e100 ?_
                      refine j_iload_n K dX8_copy_103 rfl 1 rfl ?_
                      obtain ⟨v104, e104, h⟩ := bd h
                      refine j_aG K dX8_copy_104 e104 ?_
                      refine j_iload_n K dX8_copy_105 rfl 2 rfl ?_
                      refine j_isub K dX8_copy_106 ?_
                      refine j_icmp_gt K dX8_copy_107 (fun c107 => ?_) (fun c107 => ?_)
                      · replace h := it c107 h
                        exact j_sub [] rfl (w_X8_copy_124 K X h)
                      · replace h := ie c107 h
                        refine j_iload K dX8_copy_110 5 rfl ?_
                        refine j_aload_n K dX8_copy_112 rfl 0 rfl ?_
                        obtain ⟨v113, e113, h⟩ := bd h
                        refine fgX8_46 K dX8_copy_113 e113 ?_
                        refine j_iload_n K dX8_copy_116 rfl 3 rfl ?_
                        obtain ⟨v117, e117, h⟩ := bd h
                        refine j_aG K dX8_copy_117 e117 ?_
                        refine j_iload K dX8_copy_118 4 rfl ?_
                        refine j_isub K dX8_copy_120 ?_
                        refine j_icmp_le K dX8_copy_121 (fun c121 => ?_) (fun c121 => ?_)
                        · replace h := it c121 h
                          refine j_bipush (v := (40 : Int32)) K dX8_copy_127 (by decide) ?_
                          refine j_iload_n K dX8_copy_129 rfl 1 rfl ?_
                          refine j_imul K dX8_copy_130 ?_
                          refine j_iload_n K dX8_copy_131 rfl 2 rfl ?_
                          refine j_iadd K dX8_copy_132 ?_
                          refine j_istore (lv' := [(6, vI (((40 : Int32) * x1) + x2)), (0, vR (some o)), (1, vI x1), (2, vI x2), (3, vI x3), (4, vI x4), (5, vI x5)]) K dX8_copy_133 X.2.2.1 (by decide) rfl ?_
                          refine j_bipush (v := (40 : Int32)) K dX8_copy_135 (by decide) ?_
                          refine j_iload_n K dX8_copy_137 rfl 4 rfl ?_
                          refine j_imul K dX8_copy_138 ?_
                          refine j_iload K dX8_copy_139 5 rfl ?_
                          refine j_iadd K dX8_copy_141 ?_
                          refine j_istore (lv' := [(7, vI (((40 : Int32) * x3) + x4)), (6, vI (((40 : Int32) * x1) + x2)), (0, vR (some o)), (1, vI x1), (2, vI x2), (3, vI x3), (4, vI x4), (5, vI x5)]) K dX8_copy_142 X.2.2.1 (by decide) rfl ?_
                          refine j_iconst (v := (0 : Int32)) K dX8_copy_144 (by decide) ?_
                          refine j_istore (lv' := [(8, vI (0 : Int32)), (7, vI (((40 : Int32) * x3) + x4)), (6, vI (((40 : Int32) * x1) + x2)), (0, vR (some o)), (1, vI x1), (2, vI x2), (3, vI x3), (4, vI x4), (5, vI x5)]) K dX8_copy_145 X.2.2.1 (by decide) rfl ?_
                          exact j_sub [3, 8, 2, 1, 0] rfl (w_X8_copy_147 K X _ _ _ h)
                        · replace h := ie c121 h
                          exact j_sub [] rfl (w_X8_copy_124 K X h)
          · replace h := ie c56 h
            refine j_bipush (v := (-13 : Int32)) K dX8_copy_59 (by decide) ?_
            exact j_iret K X dX8_copy_61 h
        · replace h := it c38 h
          exact j_sub [] rfl (w_X8_copy_41 K X h)
    · replace h := it c15 h
      exact j_sub [] rfl (w_X8_copy_18 K X h)
theorem c_X8_copy {l : Launch} {fu : Nat} {S : Hp} {o : Nat} {x1 : Int32} {x2 : Int32} {x3 : Int32} {x4 : Int32} {x5 : Int32} {res : Int32 × Hp} (h : F_X8_copy fu S o x1 x2 x3 x4 x5 = some res) : Ct l yX8_copy cX8_copy 10 (some .int) (rmd 1 0 0) 0 0 [vR (some o), vI x1, vI x2, vI x3, vI x4, vI x5] S (QI res) :=
  z_entry (by decide +kernel) (Nat.le_of_ble_eq_true rfl) (fun E ad K X => w_X8_copy K X h)

theorem dX8_peopleBy_0 : decode cX8_peopleBy 0 = .ok (.iload_n 1, 1) ∧ 0 + 1 = 1 := ⟨by decide +kernel, rfl⟩
theorem dX8_peopleBy_1 : decode cX8_peopleBy 1 = .ok (.iconst 0, 1) ∧ 1 + 1 = 2 := ⟨by decide +kernel, rfl⟩
theorem dX8_peopleBy_2 : decode cX8_peopleBy 2 = .ok (.iconst 3, 1) ∧ 2 + 1 = 3 := ⟨by decide +kernel, rfl⟩
theorem dX8_peopleBy_3 : decode cX8_peopleBy 3 = .ok (.invokestatic 87, 3) := by decide +kernel
theorem dX8_peopleBy_6 : decode cX8_peopleBy 6 = .ok (.ifCond .eq 23, 3) ∧ 6 + 3 = 9 ∧ ((6 : Nat) : Int) + (23) = ((29 : Nat) : Int) := ⟨by decide +kernel, rfl, by decide⟩
theorem dX8_peopleBy_9 : decode cX8_peopleBy 9 = .ok (.iload_n 2, 1) ∧ 9 + 1 = 10 := ⟨by decide +kernel, rfl⟩
theorem dX8_peopleBy_10 : decode cX8_peopleBy 10 = .ok (.iconst 0, 1) ∧ 10 + 1 = 11 := ⟨by decide +kernel, rfl⟩
theorem dX8_peopleBy_11 : decode cX8_peopleBy 11 = .ok (.iconst 2, 1) ∧ 11 + 1 = 12 := ⟨by decide +kernel, rfl⟩
theorem dX8_peopleBy_12 : decode cX8_peopleBy 12 = .ok (.invokestatic 87, 3) := by decide +kernel
theorem dX8_peopleBy_15 : decode cX8_peopleBy 15 = .ok (.ifCond .eq 14, 3) ∧ 15 + 3 = 18 ∧ ((15 : Nat) : Int) + (14) = ((29 : Nat) : Int) := ⟨by decide +kernel, rfl, by decide⟩
theorem dX8_peopleBy_18 : decode cX8_peopleBy 18 = .ok (.iload 4, 2) ∧ 18 + 2 = 20 := ⟨by decide +kernel, rfl⟩
theorem dX8_peopleBy_20 : decode cX8_peopleBy 20 = .ok (.iconst 0, 1) ∧ 20 + 1 = 21 := ⟨by decide +kernel, rfl⟩
theorem dX8_peopleBy_21 : decode cX8_peopleBy 21 = .ok (.bipush 6, 2) ∧ 21 + 2 = 23 := ⟨by decide +kernel, rfl⟩
theorem dX8_peopleBy_23 : decode cX8_peopleBy 23 = .ok (.invokestatic 87, 3) := by decide +kernel
theorem dX8_peopleBy_26 : decode cX8_peopleBy 26 = .ok (.ifCond .ne 6, 3) ∧ 26 + 3 = 29 ∧ ((26 : Nat) : Int) + (6) = ((32 : Nat) : Int) := ⟨by decide +kernel, rfl, by decide⟩
theorem dX8_peopleBy_29 : decode cX8_peopleBy 29 = .ok (.bipush (-2), 2) ∧ 29 + 2 = 31 := ⟨by decide +kernel, rfl⟩
theorem dX8_peopleBy_31 : decode cX8_peopleBy 31 = .ok (.ireturn, 1) := by decide +kernel
theorem dX8_peopleBy_32 : decode cX8_peopleBy 32 = .ok (.aload_n 0, 1) ∧ 32 + 1 = 33 := ⟨by decide +kernel, rfl⟩
theorem dX8_peopleBy_33 : decode cX8_peopleBy 33 = .ok (.getfield 43, 3) ∧ 33 + 3 = 36 := ⟨by decide +kernel, rfl⟩
theorem dX8_peopleBy_36 : decode cX8_peopleBy 36 = .ok (.iload_n 1, 1) ∧ 36 + 1 = 37 := ⟨by decide +kernel, rfl⟩
theorem dX8_peopleBy_37 : decode cX8_peopleBy 37 = .ok (.iaload, 1) ∧ 37 + 1 = 38 := ⟨by decide +kernel, rfl⟩
theorem dX8_peopleBy_38 : decode cX8_peopleBy 38 = .ok (.iconst (-1), 1) ∧ 38 + 1 = 39 := ⟨by decide +kernel, rfl⟩
theorem dX8_peopleBy_39 : decode cX8_peopleBy 39 = .ok (.if_icmp .ne 6, 3) ∧ 39 + 3 = 42 ∧ ((39 : Nat) : Int) + (6) = ((45 : Nat) : Int) := ⟨by decide +kernel, rfl, by decide⟩
theorem dX8_peopleBy_42 : decode cX8_peopleBy 42 = .ok (.bipush (-11), 2) ∧ 42 + 2 = 44 := ⟨by decide +kernel, rfl⟩
theorem dX8_peopleBy_44 : decode cX8_peopleBy 44 = .ok (.ireturn, 1) := by decide +kernel
theorem dX8_peopleBy_45 : decode cX8_peopleBy 45 = .ok (.aload_n 0, 1) ∧ 45 + 1 = 46 := ⟨by decide +kernel, rfl⟩
theorem dX8_peopleBy_46 : decode cX8_peopleBy 46 = .ok (.getfield 43, 3) ∧ 46 + 3 = 49 := ⟨by decide +kernel, rfl⟩
theorem dX8_peopleBy_49 : decode cX8_peopleBy 49 = .ok (.iload_n 1, 1) ∧ 49 + 1 = 50 := ⟨by decide +kernel, rfl⟩
theorem dX8_peopleBy_50 : decode cX8_peopleBy 50 = .ok (.iaload, 1) ∧ 50 + 1 = 51 := ⟨by decide +kernel, rfl⟩
theorem dX8_peopleBy_51 : decode cX8_peopleBy 51 = .ok (.iload_n 2, 1) ∧ 51 + 1 = 52 := ⟨by decide +kernel, rfl⟩
theorem dX8_peopleBy_52 : decode cX8_peopleBy 52 = .ok (.if_icmp .eq 6, 3) ∧ 52 + 3 = 55 ∧ ((52 : Nat) : Int) + (6) = ((58 : Nat) : Int) := ⟨by decide +kernel, rfl, by decide⟩
theorem dX8_peopleBy_55 : decode cX8_peopleBy 55 = .ok (.bipush (-13), 2) ∧ 55 + 2 = 57 := ⟨by decide +kernel, rfl⟩
theorem dX8_peopleBy_57 : decode cX8_peopleBy 57 = .ok (.ireturn, 1) := by decide +kernel
theorem dX8_peopleBy_58 : decode cX8_peopleBy 58 = .ok (.iconst 0, 1) ∧ 58 + 1 = 59 := ⟨by decide +kernel, rfl⟩
theorem dX8_peopleBy_59 : decode cX8_peopleBy 59 = .ok (.istore 5, 2) ∧ 59 + 2 = 61 := ⟨by decide +kernel, rfl⟩
theorem dX8_peopleBy_61 : decode cX8_peopleBy 61 = .ok (.iconst 0, 1) ∧ 61 + 1 = 62 := ⟨by decide +kernel, rfl⟩
theorem dX8_peopleBy_62 : decode cX8_peopleBy 62 = .ok (.istore 6, 2) ∧ 62 + 2 = 64 := ⟨by decide +kernel, rfl⟩
theorem dX8_peopleBy_64 : decode cX8_peopleBy 64 = .ok (.iload 6, 2) ∧ 64 + 2 = 66 := ⟨by decide +kernel, rfl⟩
theorem dX8_peopleBy_66 : decode cX8_peopleBy 66 = .ok (.iload 4, 2) ∧ 66 + 2 = 68 := ⟨by decide +kernel, rfl⟩
theorem dX8_peopleBy_68 : decode cX8_peopleBy 68 = .ok (.if_icmp .ge 85, 3) ∧ 68 + 3 = 71 ∧ ((68 : Nat) : Int) + (85) = ((153 : Nat) : Int) := ⟨by decide +kernel, rfl, by decide⟩
theorem dX8_peopleBy_71 : decode cX8_peopleBy 71 = .ok (.iload_n 3, 1) ∧ 71 + 1 = 72 := ⟨by decide +kernel, rfl⟩
theorem dX8_peopleBy_72 : decode cX8_peopleBy 72 = .ok (.iconst 2, 1) ∧ 72 + 1 = 73 := ⟨by decide +kernel, rfl⟩
theorem dX8_peopleBy_73 : decode cX8_peopleBy 73 = .ok (.iload 6, 2) ∧ 73 + 2 = 75 := ⟨by decide +kernel, rfl⟩
theorem dX8_peopleBy_75 : decode cX8_peopleBy 75 = .ok (.imul, 1) ∧ 75 + 1 = 76 := ⟨by decide +kernel, rfl⟩
theorem dX8_peopleBy_76 : decode cX8_peopleBy 76 = .ok (.iadd, 1) ∧ 76 + 1 = 77 := ⟨by decide +kernel, rfl⟩
theorem dX8_peopleBy_77 : decode cX8_peopleBy 77 = .ok (.istore 7, 2) ∧ 77 + 2 = 79 := ⟨by decide +kernel, rfl⟩
theorem dX8_peopleBy_79 : decode cX8_peopleBy 79 = .ok (.iload_n 3, 1) ∧ 79 + 1 = 80 := ⟨by decide +kernel, rfl⟩
theorem dX8_peopleBy_80 : decode cX8_peopleBy 80 = .ok (.ifCond .lt 22, 3) ∧ 80 + 3 = 83 ∧ ((80 : Nat) : Int) + (22) = ((102 : Nat) : Int) := ⟨by decide +kernel, rfl, by decide⟩
theorem dX8_peopleBy_83 : decode cX8_peopleBy 83 = .ok (.iload 7, 2) ∧ 83 + 2 = 85 := ⟨by decide +kernel, rfl⟩
theorem dX8_peopleBy_85 : decode cX8_peopleBy 85 = .ok (.iload_n 3, 1) ∧ 85 + 1 = 86 := ⟨by decide +kernel, rfl⟩
theorem dX8_peopleBy_86 : decode cX8_peopleBy 86 = .ok (.if_icmp .lt 16, 3) ∧ 86 + 3 = 89 ∧ ((86 : Nat) : Int) + (16) = ((102 : Nat) : Int) := ⟨by decide +kernel, rfl, by decide⟩
theorem dX8_peopleBy_89 : decode cX8_peopleBy 89 = .ok (.iload 7, 2) ∧ 89 + 2 = 91 := ⟨by decide +kernel, rfl⟩
theorem dX8_peopleBy_91 : decode cX8_peopleBy 91 = .ok (.aload_n 0, 1) ∧ 91 + 1 = 92 := ⟨by decide +kernel, rfl⟩
theorem dX8_peopleBy_92 : decode cX8_peopleBy 92 = .ok (.getfield 46, 3) ∧ 92 + 3 = 95 := ⟨by decide +kernel, rfl⟩
theorem dX8_peopleBy_95 : decode cX8_peopleBy 95 = .ok (.iload_n 1, 1) ∧ 95 + 1 = 96 := ⟨by decide +kernel, rfl⟩
theorem dX8_peopleBy_96 : decode cX8_peopleBy 96 = .ok (.iaload, 1) ∧ 96 + 1 = 97 := ⟨by decide +kernel, rfl⟩
theorem dX8_peopleBy_97 : decode cX8_peopleBy 97 = .ok (.iconst 2, 1) ∧ 97 + 1 = 98 := ⟨by decide +kernel, rfl⟩
theorem dX8_peopleBy_98 : decode cX8_peopleBy 98 = .ok (.isub, 1) ∧ 98 + 1 = 99 := ⟨by decide +kernel, rfl⟩
theorem dX8_peopleBy_99 : decode cX8_peopleBy 99 = .ok (.if_icmp .le 6, 3) ∧ 99 + 3 = 102 ∧ ((99 : Nat) : Int) + (6) = ((105 : Nat) : Int) := ⟨by decide +kernel, rfl, by decide⟩
theorem dX8_peopleBy_102 : decode cX8_peopleBy 102 = .ok (.bipush (-12), 2) ∧ 102 + 2 = 104 := ⟨by decide +kernel, rfl⟩
theorem dX8_peopleBy_104 : decode cX8_peopleBy 104 = .ok (.ireturn, 1) := by decide +kernel
theorem dX8_peopleBy_105 : decode cX8_peopleBy 105 = .ok (.bipush 40, 2) ∧ 105 + 2 = 107 := ⟨by decide +kernel, rfl⟩
theorem dX8_peopleBy_107 : decode cX8_peopleBy 107 = .ok (.iload_n 1, 1) ∧ 107 + 1 = 108 := ⟨by decide +kernel, rfl⟩
theorem dX8_peopleBy_108 : decode cX8_peopleBy 108 = .ok (.imul, 1) ∧ 108 + 1 = 109 := ⟨by decide +kernel, rfl⟩
theorem dX8_peopleBy_109 : decode cX8_peopleBy 109 = .ok (.iload 7, 2) ∧ 109 + 2 = 111 := ⟨by decide +kernel, rfl⟩
theorem dX8_peopleBy_111 : decode cX8_peopleBy 111 = .ok (.iadd, 1) ∧ 111 + 1 = 112 := ⟨by decide +kernel, rfl⟩
theorem dX8_peopleBy_112 : decode cX8_peopleBy 112 = .ok (.istore 8, 2) ∧ 112 + 2 = 114 := ⟨by decide +kernel, rfl⟩
theorem dX8_peopleBy_114 : decode cX8_peopleBy 114 = .ok (.iload 5, 2) ∧ 114 + 2 = 116 := ⟨by decide +kernel, rfl⟩
theorem dX8_peopleBy_116 : decode cX8_peopleBy 116 = .ok (.aload_n 0, 1) ∧ 116 + 1 = 117 := ⟨by decide +kernel, rfl⟩
theorem dX8_peopleBy_117 : decode cX8_peopleBy 117 = .ok (.aload_n 0, 1) ∧ 117 + 1 = 118 := ⟨by decide +kernel, rfl⟩
theorem dX8_peopleBy_118 : decode cX8_peopleBy 118 = .ok (.getfield 49, 3) ∧ 118 + 3 = 121 := ⟨by decide +kernel, rfl⟩
theorem dX8_peopleBy_121 : decode cX8_peopleBy 121 = .ok (.iload 8, 2) ∧ 121 + 2 = 123 := ⟨by decide +kernel, rfl⟩
theorem dX8_peopleBy_123 : decode cX8_peopleBy 123 = .ok (.iaload, 1) ∧ 123 + 1 = 124 := ⟨by decide +kernel, rfl⟩
theorem dX8_peopleBy_124 : decode cX8_peopleBy 124 = .ok (.aload_n 0, 1) ∧ 124 + 1 = 125 := ⟨by decide +kernel, rfl⟩
theorem dX8_peopleBy_125 : decode cX8_peopleBy 125 = .ok (.getfield 49, 3) ∧ 125 + 3 = 128 := ⟨by decide +kernel, rfl⟩
theorem dX8_peopleBy_128 : decode cX8_peopleBy 128 = .ok (.iload 8, 2) ∧ 128 + 2 = 130 := ⟨by decide +kernel, rfl⟩
theorem dX8_peopleBy_130 : decode cX8_peopleBy 130 = .ok (.iconst 1, 1) ∧ 130 + 1 = 131 := ⟨by decide +kernel, rfl⟩
theorem dX8_peopleBy_131 : decode cX8_peopleBy 131 = .ok (.iadd, 1) ∧ 131 + 1 = 132 := ⟨by decide +kernel, rfl⟩
theorem dX8_peopleBy_132 : decode cX8_peopleBy 132 = .ok (.iaload, 1) ∧ 132 + 1 = 133 := ⟨by decide +kernel, rfl⟩
theorem dX8_peopleBy_133 : decode cX8_peopleBy 133 = .ok (.invokevirtual 276, 3) := by decide +kernel
theorem dX8_peopleBy_136 : decode cX8_peopleBy 136 = .ok (.ifCond .lt 7, 3) ∧ 136 + 3 = 139 ∧ ((136 : Nat) : Int) + (7) = ((143 : Nat) : Int) := ⟨by decide +kernel, rfl, by decide⟩
theorem dX8_peopleBy_139 : decode cX8_peopleBy 139 = .ok (.iconst 1, 1) ∧ 139 + 1 = 140 := ⟨by decide +kernel, rfl⟩
theorem dX8_peopleBy_140 : decode cX8_peopleBy 140 = .ok (.goto 4, 3) ∧ ((140 : Nat) : Int) + (4) = ((144 : Nat) : Int) := ⟨by decide +kernel, by decide⟩
theorem dX8_peopleBy_143 : decode cX8_peopleBy 143 = .ok (.iconst 0, 1) ∧ 143 + 1 = 144 := ⟨by decide +kernel, rfl⟩
theorem dX8_peopleBy_144 : decode cX8_peopleBy 144 = .ok (.iadd, 1) ∧ 144 + 1 = 145 := ⟨by decide +kernel, rfl⟩
theorem dX8_peopleBy_145 : decode cX8_peopleBy 145 = .ok (.istore 5, 2) ∧ 145 + 2 = 147 := ⟨by decide +kernel, rfl⟩
theorem dX8_peopleBy_147 : decode cX8_peopleBy 147 = .ok (.iinc 6 1, 3) ∧ 147 + 3 = 150 := ⟨by decide +kernel, rfl⟩
theorem dX8_peopleBy_150 : decode cX8_peopleBy 150 = .ok (.goto (-86), 3) ∧ ((150 : Nat) : Int) + (-86) = ((64 : Nat) : Int) := ⟨by decide +kernel, by decide⟩
theorem dX8_peopleBy_153 : decode cX8_peopleBy 153 = .ok (.iload 5, 2) ∧ 153 + 2 = 155 := ⟨by decide +kernel, rfl⟩
theorem dX8_peopleBy_155 : decode cX8_peopleBy 155 = .ok (.ireturn, 1) := by decide +kernel
def B_X8_peopleBy_29 (fu : Nat) (o : Nat) (S : Hp) : Option (Int32 × Hp) :=
  some ((-2 : Int32), S)
set_option maxRecDepth 100000 in
set_option maxHeartbeats 4000000 in
theorem w_X8_peopleBy_29 {E : Cx} {l : Launch} {res : Int32 × Hp} {ad : Nat → Nat} {fu : Nat} {o : Nat} {S : Hp} (K : Kx E cX8_peopleBy RX8 (rmd 2 0 0)) (X : Bx E l yX8_peopleBy 9 (some .int) 0 0 ad (QI res)) (h : B_X8_peopleBy_29 fu o S = some res) : J E 0 0 29 [] [] S ad := by
  refine j_bipush (v := (-2 : Int32)) K dX8_peopleBy_29 (by decide) ?_
  exact j_iret K X dX8_peopleBy_31 h
def B_X8_peopleBy_102 (fu : Nat) (o : Nat) (S : Hp) : Option (Int32 × Hp) :=
  some ((-12 : Int32), S)
set_option maxRecDepth 100000 in
set_option maxHeartbeats 4000000 in
theorem w_X8_peopleBy_102 {E : Cx} {l : Launch} {res : Int32 × Hp} {ad : Nat → Nat} {fu : Nat} {o : Nat} {S : Hp} (K : Kx E cX8_peopleBy RX8 (rmd 2 0 0)) (X : Bx E l yX8_peopleBy 9 (some .int) 0 0 ad (QI res)) (h : B_X8_peopleBy_102 fu o S = some res) : J E 0 0 102 [] [] S ad := by
  refine j_bipush (v := (-12 : Int32)) K dX8_peopleBy_102 (by decide) ?_
  exact j_iret K X dX8_peopleBy_104 h
def B_X8_peopleBy_144 (k64 : Hp → Int32 → Int32 → Option (Int32 × Hp)) (fu : Nat) (o : Nat) (S : Hp) (x1 : Int32) (x3 : Int32) (x4 : Int32) (x6 : Int32) (s0 : Int32) (s1 : Int32) : Option (Int32 × Hp) :=
  k64 S (s1 + s0) (x6 + (1 : Int32))
set_option maxRecDepth 100000 in
set_option maxHeartbeats 4000000 in
theorem w_X8_peopleBy_144 {E : Cx} {l : Launch} {res : Int32 × Hp} {ad : Nat → Nat} {k64 : Hp → Int32 → Int32 → Option (Int32 × Hp)} {fu : Nat} {o : Nat} {S : Hp} {x1 : Int32} {x3 : Int32} {x4 : Int32} {x6 : Int32} {s0 : Int32} {s1 : Int32} (K : Kx E cX8_peopleBy RX8 (rmd 2 0 0)) (X : Bx E l yX8_peopleBy 9 (some .int) 0 0 ad (QI res)) (hk64 : ∀ (S : Hp) (x5 : Int32) (x6 : Int32), k64 S x5 x6 = some res → J E 0 0 64 [(0, vR (some o)), (1, vI x1), (3, vI x3), (4, vI x4), (5, vI x5), (6, vI x6)] [] S ad) (h : B_X8_peopleBy_144 k64 fu o S x1 x3 x4 x6 s0 s1 = some res) : J E 0 0 144 [(0, vR (some o)), (1, vI x1), (3, vI x3), (4, vI x4), (6, vI x6)] [vI s0, vI s1] S ad := by
  refine j_iadd K dX8_peopleBy_144 ?_
  refine j_istore (lv' := [(5, vI (s1 + s0)), (0, vR (some o)), (1, vI x1), (3, vI x3), (4, vI x4), (6, vI x6)]) K dX8_peopleBy_145 X.2.2.1 (by decide) rfl ?_
  refine j_iinc (q := 5) (v := (x6 + (1 : Int32))) (lv' := [(6, vI (x6 + (1 : Int32))), (5, vI (s1 + s0)), (0, vR (some o)), (1, vI x1), (3, vI x3), (4, vI x4)]) K dX8_peopleBy_147 rfl rfl X.2.2.1 (by decide) rfl ?_
  refine j_goto K dX8_peopleBy_150 ?_
  exact j_sub [2, 3, 4, 5, 1, 0] rfl (hk64 _ _ _ h)
def L_X8_peopleBy_64 (k64 : Hp → Int32 → Int32 → Option (Int32 × Hp)) (fu : Nat) (o : Nat) (x1 : Int32) (x3 : Int32) (x4 : Int32) (S : Hp) (x5 : Int32) (x6 : Int32) : Option (Int32 × Hp) :=
  if x4 ≤ x6 then
    some (x5, S)
  else
    if x3 < 0 then
      B_X8_peopleBy_102 fu o S
    else
      if (x3 + ((2 : Int32) * x6)) < x3 then
        B_X8_peopleBy_102 fu o S
      else
        (gR S (some o) 6 19).bind fun v92 =>
        (aG S v92 x1).bind fun v96 =>
        if (x3 + ((2 : Int32) * x6)) ≤ (v96 - (2 : Int32)) then
          (gR S (some o) 6 20).bind fun v118 =>
          (aG S v118 (((40 : Int32) * x1) + (x3 + ((2 : Int32) * x6)))).bind fun v123 =>
          (gR S (some o) 6 20).bind fun v125 =>
          (aG S v125 ((((40 : Int32) * x1) + (x3 + ((2 : Int32) * x6))) + (1 : Int32))).bind fun v132 =>
          (ob S 6 (some o)).bind fun _ =>
          b2 (F_X8_person S o v123 v132) fun v133 S133 =>
          if v133 < 0 then
            B_X8_peopleBy_144 k64 fu o S133 x1 x3 x4 x6 (0 : Int32) x5
          else
            B_X8_peopleBy_144 k64 fu o S133 x1 x3 x4 x6 (1 : Int32) x5
        else
          B_X8_peopleBy_102 fu o S
set_option maxRecDepth 100000 in
set_option maxHeartbeats 4000000 in
theorem wl_X8_peopleBy_64 {E : Cx} {l : Launch} {res : Int32 × Hp} {ad : Nat → Nat} {k64 : Hp → Int32 → Int32 → Option (Int32 × Hp)} {fu : Nat} {o : Nat} {S : Hp} {x1 : Int32} {x3 : Int32} {x4 : Int32} {x5 : Int32} {x6 : Int32} (K : Kx E cX8_peopleBy RX8 (rmd 2 0 0)) (X : Bx E l yX8_peopleBy 9 (some .int) 0 0 ad (QI res)) (hk64 : ∀ (S : Hp) (x5 : Int32) (x6 : Int32), k64 S x5 x6 = some res → J E 0 0 64 [(0, vR (some o)), (1, vI x1), (3, vI x3), (4, vI x4), (5, vI x5), (6, vI x6)] [] S ad) (h : L_X8_peopleBy_64 k64 fu o x1 x3 x4 S x5 x6 = some res) : J E 0 0 64 [(0, vR (some o)), (1, vI x1), (3, vI x3), (4, vI x4), (5, vI x5), (6, vI x6)] [] S ad := by
  refine j_iload K dX8_peopleBy_64 5 rfl ?_
  refine j_iload K dX8_peopleBy_66 3 rfl ?_
  refine j_icmp_ge K dX8_peopleBy_68 (fun c68 => ?_) (fun c68 => ?_)
  · replace h := it c68 h
    refine j_iload K dX8_peopleBy_153 4 rfl ?_
    exact j_iret K X dX8_peopleBy_155 h
  · replace h := ie c68 h
    refine j_iload_n K dX8_peopleBy_71 rfl 2 rfl ?_
    refine j_iconst (v := (2 : Int32)) K dX8_peopleBy_72 (by decide) ?_
    refine j_iload K dX8_peopleBy_73 5 rfl ?_
    refine j_imul K dX8_peopleBy_75 ?_
    refine j_iadd K dX8_peopleBy_76 ?_
    refine j_istore (lv' := [(7, vI (x3 + ((2 : Int32) * x6))), (0, vR (some o)), (1, vI x1), (3, vI x3), (4, vI x4), (5, vI x5), (6, vI x6)]) K dX8_peopleBy_77 X.2.2.1 (by decide) rfl ?_
    refine j_iload_n K dX8_peopleBy_79 rfl 3 rfl ?_
    refine j_if_lt K dX8_peopleBy_80 (fun c80 => ?_) (fun c80 => ?_)
    · replace h := it c80 h
      exact j_sub [] rfl (w_X8_peopleBy_102 K X h)
    · replace h := ie c80 h
      refine j_iload K dX8_peopleBy_83 0 rfl ?_
      refine j_iload_n K dX8_peopleBy_85 rfl 3 rfl ?_
      refine j_icmp_lt K dX8_peopleBy_86 (fun c86 => ?_) (fun c86 => ?_)
      · replace h := it c86 h
        exact j_sub [] rfl (w_X8_peopleBy_102 K X h)
      · replace h := ie c86 h
        refine j_iload K dX8_peopleBy_89 0 rfl ?_
        refine j_aload_n K dX8_peopleBy_91 rfl 1 rfl ?_
        obtain ⟨v92, e92, h⟩ := bd h
        refine fgX8_46 K dX8_peopleBy_92 e92 ?_
        refine j_iload_n K dX8_peopleBy_95 rfl 2 rfl ?_
        obtain ⟨v96, e96, h⟩ := bd h
        refine j_aG K dX8_peopleBy_96 e96 ?_
        refine j_iconst (v := (2 : Int32)) K dX8_peopleBy_97 (by decide) ?_
        refine j_isub K dX8_peopleBy_98 ?_
        refine j_icmp_le K dX8_peopleBy_99 (fun c99 => ?_) (fun c99 => ?_)
        · replace h := it c99 h
          refine j_bipush (v := (40 : Int32)) K dX8_peopleBy_105 (by decide) ?_
          refine j_iload_n K dX8_peopleBy_107 rfl 2 rfl ?_
          refine j_imul K dX8_peopleBy_108 ?_
          refine j_iload K dX8_peopleBy_109 0 rfl ?_
          refine j_iadd K dX8_peopleBy_111 ?_
          refine j_istore (lv' := [(8, vI (((40 : Int32) * x1) + (x3 + ((2 : Int32) * x6)))), (7, vI (x3 + ((2 : Int32) * x6))), (0, vR (some o)), (1, vI x1), (3, vI x3), (4, vI x4), (5, vI x5), (6, vI x6)]) K dX8_peopleBy_112 X.2.2.1 (by decide) rfl ?_
          refine j_iload K dX8_peopleBy_114 6 rfl ?_
          refine j_aload_n K dX8_peopleBy_116 rfl 2 rfl ?_
          refine j_aload_n K dX8_peopleBy_117 rfl 2 rfl ?_
          obtain ⟨v118, e118, h⟩ := bd h
          refine fgX8_49 K dX8_peopleBy_118 e118 ?_
          refine j_iload K dX8_peopleBy_121 0 rfl ?_
          obtain ⟨v123, e123, h⟩ := bd h
          refine j_aG K dX8_peopleBy_123 e123 ?_
          refine j_aload_n K dX8_peopleBy_124 rfl 2 rfl ?_
          obtain ⟨v125, e125, h⟩ := bd h
          refine fgX8_49 K dX8_peopleBy_125 e125 ?_
          refine j_iload K dX8_peopleBy_128 0 rfl ?_
          refine j_iconst (v := (1 : Int32)) K dX8_peopleBy_130 (by decide) ?_
          refine j_iadd K dX8_peopleBy_131 ?_
          obtain ⟨v132, e132, h⟩ := bd h
          refine j_aG K dX8_peopleBy_132 e132 ?_
          obtain ⟨w133, ew133, h⟩ := bd h
          have ho133 := obS ew133
          obtain ⟨v133, S133, e133, h⟩ := bd2 h
          refine j_cI (st := [vI x5]) K (r_V (vs := [vI v123, vI v132]) (n := 2) (o := o) K (c_X8_person e133) ho133 (by decide) rfl dX8_peopleBy_133 z1236 z1025 z1026 z13 z1027 ⟨zd_X8_person, rfl, rfl, rfl, ⟨Nat.le_of_ble_eq_true rfl, Nat.le_of_ble_eq_true rfl⟩, Nat.le_of_ble_eq_true rfl, Nat.le_of_ble_eq_true rfl, Nat.le_of_ble_eq_true rfl⟩) rfl ?_
          refine j_if_lt K dX8_peopleBy_136 (fun c136 => ?_) (fun c136 => ?_)
          · replace h := it c136 h
            refine j_iconst (v := (0 : Int32)) K dX8_peopleBy_143 (by decide) ?_
            exact j_sub [2, 3, 4, 5, 7] rfl (w_X8_peopleBy_144 K X hk64 h)
          · replace h := ie c136 h
            refine j_iconst (v := (1 : Int32)) K dX8_peopleBy_139 (by decide) ?_
            refine j_goto K dX8_peopleBy_140 ?_
            exact j_sub [2, 3, 4, 5, 7] rfl (w_X8_peopleBy_144 K X hk64 h)
        · replace h := ie c99 h
          exact j_sub [] rfl (w_X8_peopleBy_102 K X h)
def B_X8_peopleBy_64 (fu : Nat) (o : Nat) (x1 : Int32) (x3 : Int32) (x4 : Int32) : Nat → Hp → Int32 → Int32 → Option (Int32 × Hp)
  | 0 => fun _ _ _ => none
  | n + 1 => L_X8_peopleBy_64 (B_X8_peopleBy_64 fu o x1 x3 x4 n) fu o x1 x3 x4
theorem w_X8_peopleBy_64 {E : Cx} {l : Launch} {res : Int32 × Hp} {ad : Nat → Nat} {fu : Nat} {o : Nat} {x1 : Int32} {x3 : Int32} {x4 : Int32} (K : Kx E cX8_peopleBy RX8 (rmd 2 0 0)) (X : Bx E l yX8_peopleBy 9 (some .int) 0 0 ad (QI res)) : ∀ (n : Nat) (S : Hp) (x5 : Int32) (x6 : Int32), B_X8_peopleBy_64 fu o x1 x3 x4 n S x5 x6 = some res → J E 0 0 64 [(0, vR (some o)), (1, vI x1), (3, vI x3), (4, vI x4), (5, vI x5), (6, vI x6)] [] S ad := by
  intro n
  induction n with
  | zero =>
    intro S x5 x6 h
    cases h
  | succ n ih =>
    intro S x5 x6 h
    exact wl_X8_peopleBy_64 K X ih h
def F_X8_peopleBy (fu : Nat) (S : Hp) (o : Nat) (x1 : Int32) (x2 : Int32) (x3 : Int32) (x4 : Int32) : Option (Int32 × Hp) :=
  b2 (F_X8_in S x1 (0 : Int32) (3 : Int32)) fun v3 S3 =>
  if v3 = 0 then
    B_X8_peopleBy_29 fu o S3
  else
    b2 (F_X8_in S3 x2 (0 : Int32) (2 : Int32)) fun v12 S12 =>
    if v12 = 0 then
      B_X8_peopleBy_29 fu o S12
    else
      b2 (F_X8_in S12 x4 (0 : Int32) (6 : Int32)) fun v23 S23 =>
      if v23 = 0 then
        B_X8_peopleBy_29 fu o S23
      else
        (gR S23 (some o) 6 18).bind fun v33 =>
        (aG S23 v33 x1).bind fun v37 =>
        if v37 = (-1 : Int32) then
          some ((-11 : Int32), S23)
        else
          (gR S23 (some o) 6 18).bind fun v46 =>
          (aG S23 v46 x1).bind fun v50 =>
          if v50 = x2 then
            B_X8_peopleBy_64 fu o x1 x3 x4 fu S23 (0 : Int32) (0 : Int32)
          else
            some ((-13 : Int32), S23)
set_option maxRecDepth 100000 in
set_option maxHeartbeats 4000000 in
theorem w_X8_peopleBy {E : Cx} {l : Launch} {res : Int32 × Hp} {ad : Nat → Nat} {fu : Nat} {S : Hp} {o : Nat} {x1 : Int32} {x2 : Int32} {x3 : Int32} {x4 : Int32} (K : Kx E cX8_peopleBy RX8 (rmd 2 0 0)) (X : Bx E l yX8_peopleBy 9 (some .int) 0 0 ad (QI res)) (h : F_X8_peopleBy fu S o x1 x2 x3 x4 = some res) : J E 0 0 0 [(0, vR (some o)), (1, vI x1), (2, vI x2), (3, vI x3), (4, vI x4)] [] S ad := by
  refine j_iload_n K dX8_peopleBy_0 rfl 1 rfl ?_
  refine j_iconst (v := (0 : Int32)) K dX8_peopleBy_1 (by decide) ?_
  refine j_iconst (v := (3 : Int32)) K dX8_peopleBy_2 (by decide) ?_
  obtain ⟨v3, S3, e3, h⟩ := bd2 h
  refine j_cI (st := []) K (r_S (vs := [vI x1, vI (0 : Int32), vI (3 : Int32)]) (n := 3) K (c_X8_in e3) dX8_peopleBy_3 z812 z813 z13 z814 ⟨zd_X8_in, rfl, rfl, rfl, ⟨Nat.le_of_ble_eq_true rfl, Nat.le_of_ble_eq_true rfl⟩, Nat.le_of_ble_eq_true rfl, Nat.le_of_ble_eq_true rfl, Nat.le_of_ble_eq_true rfl⟩) rfl ?_
  refine j_if_eq K dX8_peopleBy_6 (fun c6 => ?_) (fun c6 => ?_)
  · replace h := it c6 h
    exact j_sub [] rfl (w_X8_peopleBy_29 K X h)
  · replace h := ie c6 h
    refine j_iload_n K dX8_peopleBy_9 rfl 2 rfl ?_
    refine j_iconst (v := (0 : Int32)) K dX8_peopleBy_10 (by decide) ?_
    refine j_iconst (v := (2 : Int32)) K dX8_peopleBy_11 (by decide) ?_
    obtain ⟨v12, S12, e12, h⟩ := bd2 h
    refine j_cI (st := []) K (r_S (vs := [vI x2, vI (0 : Int32), vI (2 : Int32)]) (n := 3) K (c_X8_in e12) dX8_peopleBy_12 z812 z813 z13 z814 ⟨zd_X8_in, rfl, rfl, rfl, ⟨Nat.le_of_ble_eq_true rfl, Nat.le_of_ble_eq_true rfl⟩, Nat.le_of_ble_eq_true rfl, Nat.le_of_ble_eq_true rfl, Nat.le_of_ble_eq_true rfl⟩) rfl ?_
    refine j_if_eq K dX8_peopleBy_15 (fun c15 => ?_) (fun c15 => ?_)
    · replace h := it c15 h
      exact j_sub [] rfl (w_X8_peopleBy_29 K X h)
    · replace h := ie c15 h
      refine j_iload K dX8_peopleBy_18 4 rfl ?_
      refine j_iconst (v := (0 : Int32)) K dX8_peopleBy_20 (by decide) ?_
      refine j_bipush (v := (6 : Int32)) K dX8_peopleBy_21 (by decide) ?_
      obtain ⟨v23, S23, e23, h⟩ := bd2 h
      refine j_cI (st := []) K (r_S (vs := [vI x4, vI (0 : Int32), vI (6 : Int32)]) (n := 3) K (c_X8_in e23) dX8_peopleBy_23 z812 z813 z13 z814 ⟨zd_X8_in, rfl, rfl, rfl, ⟨Nat.le_of_ble_eq_true rfl, Nat.le_of_ble_eq_true rfl⟩, Nat.le_of_ble_eq_true rfl, Nat.le_of_ble_eq_true rfl, Nat.le_of_ble_eq_true rfl⟩) rfl ?_
      refine j_if_ne K dX8_peopleBy_26 (fun c26 => ?_) (fun c26 => ?_)
      · replace h := ie c26 h
        refine j_aload_n K dX8_peopleBy_32 rfl 0 rfl ?_
        obtain ⟨v33, e33, h⟩ := bd h
        refine fgX8_43 K dX8_peopleBy_33 e33 ?_
        refine j_iload_n K dX8_peopleBy_36 rfl 1 rfl ?_
        obtain ⟨v37, e37, h⟩ := bd h
        refine j_aG K dX8_peopleBy_37 e37 ?_
        refine j_iconst (v := (-1 : Int32)) K dX8_peopleBy_38 (by decide) ?_
        refine j_icmp_ne K dX8_peopleBy_39 (fun c39 => ?_) (fun c39 => ?_)
        · replace h := ie c39 h
          refine j_aload_n K dX8_peopleBy_45 rfl 0 rfl ?_
          obtain ⟨v46, e46, h⟩ := bd h
          refine fgX8_43 K dX8_peopleBy_46 e46 ?_
          refine j_iload_n K dX8_peopleBy_49 rfl 1 rfl ?_
          obtain ⟨v50, e50, h⟩ := bd h
          refine j_aG K dX8_peopleBy_50 e50 ?_
          refine j_iload_n K dX8_peopleBy_51 rfl 2 rfl ?_
          refine j_icmp_eq K dX8_peopleBy_52 (fun c52 => ?_) (fun c52 => ?_)
          · replace h := it c52 h
            refine j_iconst (v := (0 : Int32)) K dX8_peopleBy_58 (by decide) ?_
            refine j_istore (lv' := [(5, vI (0 : Int32)), (0, vR (some o)), (1, vI x1), (2, vI x2), (3, vI x3), (4, vI x4)]) K dX8_peopleBy_59 X.2.2.1 (by decide) rfl ?_
            refine j_iconst (v := (0 : Int32)) K dX8_peopleBy_61 (by decide) ?_
            refine j_istore (lv' := [(6, vI (0 : Int32)), (5, vI (0 : Int32)), (0, vR (some o)), (1, vI x1), (2, vI x2), (3, vI x3), (4, vI x4)]) K dX8_peopleBy_62 X.2.2.1 (by decide) rfl ?_
            exact j_sub [2, 3, 5, 6, 1, 0] rfl (w_X8_peopleBy_64 K X _ _ _ _ h)
          · replace h := ie c52 h
            refine j_bipush (v := (-13 : Int32)) K dX8_peopleBy_55 (by decide) ?_
            exact j_iret K X dX8_peopleBy_57 h
        · replace h := it c39 h
          refine j_bipush (v := (-11 : Int32)) K dX8_peopleBy_42 (by decide) ?_
          exact j_iret K X dX8_peopleBy_44 h
      · replace h := it c26 h
        exact j_sub [] rfl (w_X8_peopleBy_29 K X h)
theorem c_X8_peopleBy {l : Launch} {fu : Nat} {S : Hp} {o : Nat} {x1 : Int32} {x2 : Int32} {x3 : Int32} {x4 : Int32} {res : Int32 × Hp} (h : F_X8_peopleBy fu S o x1 x2 x3 x4 = some res) : Ct l yX8_peopleBy cX8_peopleBy 9 (some .int) (rmd 2 0 0) 0 0 [vR (some o), vI x1, vI x2, vI x3, vI x4] S (QI res) :=
  z_entry (by decide +kernel) (Nat.le_of_ble_eq_true rfl) (fun E ad K X => w_X8_peopleBy K X h)

theorem dX8_isUnder_0 : decode cX8_isUnder 0 = .ok (.iload_n 1, 1) ∧ 0 + 1 = 1 := ⟨by decide +kernel, rfl⟩
theorem dX8_isUnder_1 : decode cX8_isUnder 1 = .ok (.ifCond .eq 28, 3) ∧ 1 + 3 = 4 ∧ ((1 : Nat) : Int) + (28) = ((29 : Nat) : Int) := ⟨by decide +kernel, rfl, by decide⟩
theorem dX8_isUnder_4 : decode cX8_isUnder 4 = .ok (.iload_n 0, 1) ∧ 4 + 1 = 5 := ⟨by decide +kernel, rfl⟩
theorem dX8_isUnder_5 : decode cX8_isUnder 5 = .ok (.iload_n 1, 1) ∧ 5 + 1 = 6 := ⟨by decide +kernel, rfl⟩
theorem dX8_isUnder_6 : decode cX8_isUnder 6 = .ok (.if_icmp .eq 23, 3) ∧ 6 + 3 = 9 ∧ ((6 : Nat) : Int) + (23) = ((29 : Nat) : Int) := ⟨by decide +kernel, rfl, by decide⟩
theorem dX8_isUnder_9 : decode cX8_isUnder 9 = .ok (.iload_n 1, 1) ∧ 9 + 1 = 10 := ⟨by decide +kernel, rfl⟩
theorem dX8_isUnder_10 : decode cX8_isUnder 10 = .ok (.iconst 1, 1) ∧ 10 + 1 = 11 := ⟨by decide +kernel, rfl⟩
theorem dX8_isUnder_11 : decode cX8_isUnder 11 = .ok (.if_icmp .ne 8, 3) ∧ 11 + 3 = 14 ∧ ((11 : Nat) : Int) + (8) = ((19 : Nat) : Int) := ⟨by decide +kernel, rfl, by decide⟩
theorem dX8_isUnder_14 : decode cX8_isUnder 14 = .ok (.iload_n 0, 1) ∧ 14 + 1 = 15 := ⟨by decide +kernel, rfl⟩
theorem dX8_isUnder_15 : decode cX8_isUnder 15 = .ok (.iconst 3, 1) ∧ 15 + 1 = 16 := ⟨by decide +kernel, rfl⟩
theorem dX8_isUnder_16 : decode cX8_isUnder 16 = .ok (.if_icmp .eq 13, 3) ∧ 16 + 3 = 19 ∧ ((16 : Nat) : Int) + (13) = ((29 : Nat) : Int) := ⟨by decide +kernel, rfl, by decide⟩
theorem dX8_isUnder_19 : decode cX8_isUnder 19 = .ok (.iload_n 1, 1) ∧ 19 + 1 = 20 := ⟨by decide +kernel, rfl⟩
theorem dX8_isUnder_20 : decode cX8_isUnder 20 = .ok (.iconst 2, 1) ∧ 20 + 1 = 21 := ⟨by decide +kernel, rfl⟩
theorem dX8_isUnder_21 : decode cX8_isUnder 21 = .ok (.if_icmp .ne 12, 3) ∧ 21 + 3 = 24 ∧ ((21 : Nat) : Int) + (12) = ((33 : Nat) : Int) := ⟨by decide +kernel, rfl, by decide⟩
theorem dX8_isUnder_24 : decode cX8_isUnder 24 = .ok (.iload_n 0, 1) ∧ 24 + 1 = 25 := ⟨by decide +kernel, rfl⟩
theorem dX8_isUnder_25 : decode cX8_isUnder 25 = .ok (.iconst 4, 1) ∧ 25 + 1 = 26 := ⟨by decide +kernel, rfl⟩
theorem dX8_isUnder_26 : decode cX8_isUnder 26 = .ok (.if_icmp .ne 7, 3) ∧ 26 + 3 = 29 ∧ ((26 : Nat) : Int) + (7) = ((33 : Nat) : Int) := ⟨by decide +kernel, rfl, by decide⟩
theorem dX8_isUnder_29 : decode cX8_isUnder 29 = .ok (.iconst 1, 1) ∧ 29 + 1 = 30 := ⟨by decide +kernel, rfl⟩
theorem dX8_isUnder_30 : decode cX8_isUnder 30 = .ok (.goto 4, 3) ∧ ((30 : Nat) : Int) + (4) = ((34 : Nat) : Int) := ⟨by decide +kernel, by decide⟩
theorem dX8_isUnder_33 : decode cX8_isUnder 33 = .ok (.iconst 0, 1) ∧ 33 + 1 = 34 := ⟨by decide +kernel, rfl⟩
theorem dX8_isUnder_34 : decode cX8_isUnder 34 = .ok (.ireturn, 1) := by decide +kernel
def B_X8_isUnder_34 (S : Hp) (s0 : Int32) : Option (Int32 × Hp) :=
  zb s0 S
set_option maxRecDepth 100000 in
set_option maxHeartbeats 4000000 in
theorem w_X8_isUnder_34 {E : Cx} {l : Launch} {res : Int32 × Hp} {ad : Nat → Nat} {S : Hp} {s0 : Int32} (K : Kx E cX8_isUnder RX8 (rmd 0 0 0)) (X : Bx E l yX8_isUnder 2 (some .boolean) 0 0 ad (QI res)) (h : B_X8_isUnder_34 S s0 = some res) : J E 0 0 34 [] [vI s0] S ad := by
  exact j_zret K X dX8_isUnder_34 h
def B_X8_isUnder_29 (S : Hp) : Option (Int32 × Hp) :=
  B_X8_isUnder_34 S (1 : Int32)
set_option maxRecDepth 100000 in
set_option maxHeartbeats 4000000 in
theorem w_X8_isUnder_29 {E : Cx} {l : Launch} {res : Int32 × Hp} {ad : Nat → Nat} {S : Hp} (K : Kx E cX8_isUnder RX8 (rmd 0 0 0)) (X : Bx E l yX8_isUnder 2 (some .boolean) 0 0 ad (QI res)) (h : B_X8_isUnder_29 S = some res) : J E 0 0 29 [] [] S ad := by
  refine j_iconst (v := (1 : Int32)) K dX8_isUnder_29 (by decide) ?_
  refine j_goto K dX8_isUnder_30 ?_
  exact w_X8_isUnder_34 K X h
def B_X8_isUnder_33 (S : Hp) : Option (Int32 × Hp) :=
  B_X8_isUnder_34 S (0 : Int32)
set_option maxRecDepth 100000 in
set_option maxHeartbeats 4000000 in
theorem w_X8_isUnder_33 {E : Cx} {l : Launch} {res : Int32 × Hp} {ad : Nat → Nat} {S : Hp} (K : Kx E cX8_isUnder RX8 (rmd 0 0 0)) (X : Bx E l yX8_isUnder 2 (some .boolean) 0 0 ad (QI res)) (h : B_X8_isUnder_33 S = some res) : J E 0 0 33 [] [] S ad := by
  refine j_iconst (v := (0 : Int32)) K dX8_isUnder_33 (by decide) ?_
  exact w_X8_isUnder_34 K X h
def B_X8_isUnder_19 (S : Hp) (x0 : Int32) (x1 : Int32) : Option (Int32 × Hp) :=
  if x1 = (2 : Int32) then
    if x0 = (4 : Int32) then
      B_X8_isUnder_29 S
    else
      B_X8_isUnder_33 S
  else
    B_X8_isUnder_33 S
set_option maxRecDepth 100000 in
set_option maxHeartbeats 4000000 in
theorem w_X8_isUnder_19 {E : Cx} {l : Launch} {res : Int32 × Hp} {ad : Nat → Nat} {S : Hp} {x0 : Int32} {x1 : Int32} (K : Kx E cX8_isUnder RX8 (rmd 0 0 0)) (X : Bx E l yX8_isUnder 2 (some .boolean) 0 0 ad (QI res)) (h : B_X8_isUnder_19 S x0 x1 = some res) : J E 0 0 19 [(0, vI x0), (1, vI x1)] [] S ad := by
  refine j_iload_n K dX8_isUnder_19 rfl 1 rfl ?_
  refine j_iconst (v := (2 : Int32)) K dX8_isUnder_20 (by decide) ?_
  refine j_icmp_ne K dX8_isUnder_21 (fun c21 => ?_) (fun c21 => ?_)
  · replace h := ie c21 h
    exact j_sub [] rfl (w_X8_isUnder_33 K X h)
  · replace h := it c21 h
    refine j_iload_n K dX8_isUnder_24 rfl 0 rfl ?_
    refine j_iconst (v := (4 : Int32)) K dX8_isUnder_25 (by decide) ?_
    refine j_icmp_ne K dX8_isUnder_26 (fun c26 => ?_) (fun c26 => ?_)
    · replace h := ie c26 h
      exact j_sub [] rfl (w_X8_isUnder_33 K X h)
    · replace h := it c26 h
      exact j_sub [] rfl (w_X8_isUnder_29 K X h)
def F_X8_isUnder (S : Hp) (x0 : Int32) (x1 : Int32) : Option (Int32 × Hp) :=
  if x1 = 0 then
    B_X8_isUnder_29 S
  else
    if x0 = x1 then
      B_X8_isUnder_29 S
    else
      if x1 = (1 : Int32) then
        if x0 = (3 : Int32) then
          B_X8_isUnder_29 S
        else
          B_X8_isUnder_19 S x0 x1
      else
        B_X8_isUnder_19 S x0 x1
set_option maxRecDepth 100000 in
set_option maxHeartbeats 4000000 in
theorem w_X8_isUnder {E : Cx} {l : Launch} {res : Int32 × Hp} {ad : Nat → Nat} {S : Hp} {x0 : Int32} {x1 : Int32} (K : Kx E cX8_isUnder RX8 (rmd 0 0 0)) (X : Bx E l yX8_isUnder 2 (some .boolean) 0 0 ad (QI res)) (h : F_X8_isUnder S x0 x1 = some res) : J E 0 0 0 [(0, vI x0), (1, vI x1)] [] S ad := by
  refine j_iload_n K dX8_isUnder_0 rfl 1 rfl ?_
  refine j_if_eq K dX8_isUnder_1 (fun c1 => ?_) (fun c1 => ?_)
  · replace h := it c1 h
    exact j_sub [] rfl (w_X8_isUnder_29 K X h)
  · replace h := ie c1 h
    refine j_iload_n K dX8_isUnder_4 rfl 0 rfl ?_
    refine j_iload_n K dX8_isUnder_5 rfl 1 rfl ?_
    refine j_icmp_eq K dX8_isUnder_6 (fun c6 => ?_) (fun c6 => ?_)
    · replace h := it c6 h
      exact j_sub [] rfl (w_X8_isUnder_29 K X h)
    · replace h := ie c6 h
      refine j_iload_n K dX8_isUnder_9 rfl 1 rfl ?_
      refine j_iconst (v := (1 : Int32)) K dX8_isUnder_10 (by decide) ?_
      refine j_icmp_ne K dX8_isUnder_11 (fun c11 => ?_) (fun c11 => ?_)
      · replace h := ie c11 h
        exact w_X8_isUnder_19 K X h
      · replace h := it c11 h
        refine j_iload_n K dX8_isUnder_14 rfl 0 rfl ?_
        refine j_iconst (v := (3 : Int32)) K dX8_isUnder_15 (by decide) ?_
        refine j_icmp_eq K dX8_isUnder_16 (fun c16 => ?_) (fun c16 => ?_)
        · replace h := it c16 h
          exact j_sub [] rfl (w_X8_isUnder_29 K X h)
        · replace h := ie c16 h
          exact w_X8_isUnder_19 K X h
theorem c_X8_isUnder {l : Launch} {S : Hp} {x0 : Int32} {x1 : Int32} {res : Int32 × Hp} (h : F_X8_isUnder S x0 x1 = some res) : Ct l yX8_isUnder cX8_isUnder 2 (some .boolean) (rmd 0 0 0) 0 0 [vI x0, vI x1] S (QI res) :=
  z_entry (by decide +kernel) (Nat.le_of_ble_eq_true rfl) (fun E ad K X => w_X8_isUnder K X h)

theorem dX8_taken_0 : decode cX8_taken 0 = .ok (.iload_n 2, 1) ∧ 0 + 1 = 1 := ⟨by decide +kernel, rfl⟩
theorem dX8_taken_1 : decode cX8_taken 1 = .ok (.iconst 0, 1) ∧ 1 + 1 = 2 := ⟨by decide +kernel, rfl⟩
theorem dX8_taken_2 : decode cX8_taken 2 = .ok (.bipush 6, 2) ∧ 2 + 2 = 4 := ⟨by decide +kernel, rfl⟩
theorem dX8_taken_4 : decode cX8_taken 4 = .ok (.invokestatic 87, 3) := by decide +kernel
theorem dX8_taken_7 : decode cX8_taken 7 = .ok (.ifCond .ne 6, 3) ∧ 7 + 3 = 10 ∧ ((7 : Nat) : Int) + (6) = ((13 : Nat) : Int) := ⟨by decide +kernel, rfl, by decide⟩
theorem dX8_taken_10 : decode cX8_taken 10 = .ok (.bipush (-2), 2) ∧ 10 + 2 = 12 := ⟨by decide +kernel, rfl⟩
theorem dX8_taken_12 : decode cX8_taken 12 = .ok (.ireturn, 1) := by decide +kernel
theorem dX8_taken_13 : decode cX8_taken 13 = .ok (.iload_n 1, 1) ∧ 13 + 1 = 14 := ⟨by decide +kernel, rfl⟩
theorem dX8_taken_14 : decode cX8_taken 14 = .ok (.iconst 0, 1) ∧ 14 + 1 = 15 := ⟨by decide +kernel, rfl⟩
theorem dX8_taken_15 : decode cX8_taken 15 = .ok (.bipush 15, 2) ∧ 15 + 2 = 17 := ⟨by decide +kernel, rfl⟩
theorem dX8_taken_17 : decode cX8_taken 17 = .ok (.invokestatic 87, 3) := by decide +kernel
theorem dX8_taken_20 : decode cX8_taken 20 = .ok (.ifCond .ne 6, 3) ∧ 20 + 3 = 23 ∧ ((20 : Nat) : Int) + (6) = ((26 : Nat) : Int) := ⟨by decide +kernel, rfl, by decide⟩
theorem dX8_taken_23 : decode cX8_taken 23 = .ok (.bipush (-12), 2) ∧ 23 + 2 = 25 := ⟨by decide +kernel, rfl⟩
theorem dX8_taken_25 : decode cX8_taken 25 = .ok (.ireturn, 1) := by decide +kernel
theorem dX8_taken_26 : decode cX8_taken 26 = .ok (.iload_n 1, 1) ∧ 26 + 1 = 27 := ⟨by decide +kernel, rfl⟩
theorem dX8_taken_27 : decode cX8_taken 27 = .ok (.bipush 6, 2) ∧ 27 + 2 = 29 := ⟨by decide +kernel, rfl⟩
theorem dX8_taken_29 : decode cX8_taken 29 = .ok (.if_icmp .lt 45, 3) ∧ 29 + 3 = 32 ∧ ((29 : Nat) : Int) + (45) = ((74 : Nat) : Int) := ⟨by decide +kernel, rfl, by decide⟩
theorem dX8_taken_32 : decode cX8_taken 32 = .ok (.iload_n 1, 1) ∧ 32 + 1 = 33 := ⟨by decide +kernel, rfl⟩
theorem dX8_taken_33 : decode cX8_taken 33 = .ok (.bipush 6, 2) ∧ 33 + 2 = 35 := ⟨by decide +kernel, rfl⟩
theorem dX8_taken_35 : decode cX8_taken 35 = .ok (.isub, 1) ∧ 35 + 1 = 36 := ⟨by decide +kernel, rfl⟩
theorem dX8_taken_36 : decode cX8_taken 36 = .ok (.istore_n 3, 1) ∧ 36 + 1 = 37 := ⟨by decide +kernel, rfl⟩
theorem dX8_taken_37 : decode cX8_taken 37 = .ok (.iload_n 3, 1) ∧ 37 + 1 = 38 := ⟨by decide +kernel, rfl⟩
theorem dX8_taken_38 : decode cX8_taken 38 = .ok (.aload_n 0, 1) ∧ 38 + 1 = 39 := ⟨by decide +kernel, rfl⟩
theorem dX8_taken_39 : decode cX8_taken 39 = .ok (.getfield 91, 3) ∧ 39 + 3 = 42 := ⟨by decide +kernel, rfl⟩
theorem dX8_taken_42 : decode cX8_taken 42 = .ok (.if_icmp .lt 8, 3) ∧ 42 + 3 = 45 ∧ ((42 : Nat) : Int) + (8) = ((50 : Nat) : Int) := ⟨by decide +kernel, rfl, by decide⟩
theorem dX8_taken_45 : decode cX8_taken 45 = .ok (.bipush (-11), 2) ∧ 45 + 2 = 47 := ⟨by decide +kernel, rfl⟩
theorem dX8_taken_47 : decode cX8_taken 47 = .ok (.goto 26, 3) ∧ ((47 : Nat) : Int) + (26) = ((73 : Nat) : Int) := ⟨by decide +kernel, by decide⟩
theorem dX8_taken_50 : decode cX8_taken 50 = .ok (.iload_n 2, 1) ∧ 50 + 1 = 51 := ⟨by decide +kernel, rfl⟩
theorem dX8_taken_51 : decode cX8_taken 51 = .ok (.bipush 6, 2) ∧ 51 + 2 = 53 := ⟨by decide +kernel, rfl⟩
theorem dX8_taken_53 : decode cX8_taken 53 = .ok (.if_icmp .ne 18, 3) ∧ 53 + 3 = 56 ∧ ((53 : Nat) : Int) + (18) = ((71 : Nat) : Int) := ⟨by decide +kernel, rfl, by decide⟩
theorem dX8_taken_56 : decode cX8_taken 56 = .ok (.aload_n 0, 1) ∧ 56 + 1 = 57 := ⟨by decide +kernel, rfl⟩
theorem dX8_taken_57 : decode cX8_taken 57 = .ok (.getfield 22, 3) ∧ 57 + 3 = 60 := ⟨by decide +kernel, rfl⟩
theorem dX8_taken_60 : decode cX8_taken 60 = .ok (.iload_n 3, 1) ∧ 60 + 1 = 61 := ⟨by decide +kernel, rfl⟩
theorem dX8_taken_61 : decode cX8_taken 61 = .ok (.iconst 0, 1) ∧ 61 + 1 = 62 := ⟨by decide +kernel, rfl⟩
theorem dX8_taken_62 : decode cX8_taken 62 = .ok (.bipush 9, 2) ∧ 62 + 2 = 64 := ⟨by decide +kernel, rfl⟩
theorem dX8_taken_64 : decode cX8_taken 64 = .ok (.invokestatic 179, 3) := by decide +kernel
theorem dX8_taken_67 : decode cX8_taken 67 = .ok (.iaload, 1) ∧ 67 + 1 = 68 := ⟨by decide +kernel, rfl⟩
theorem dX8_taken_68 : decode cX8_taken 68 = .ok (.goto 5, 3) ∧ ((68 : Nat) : Int) + (5) = ((73 : Nat) : Int) := ⟨by decide +kernel, by decide⟩
theorem dX8_taken_71 : decode cX8_taken 71 = .ok (.bipush (-13), 2) ∧ 71 + 2 = 73 := ⟨by decide +kernel, rfl⟩
theorem dX8_taken_73 : decode cX8_taken 73 = .ok (.ireturn, 1) := by decide +kernel
theorem dX8_taken_74 : decode cX8_taken 74 = .ok (.iload_n 1, 1) ∧ 74 + 1 = 75 := ⟨by decide +kernel, rfl⟩
theorem dX8_taken_75 : decode cX8_taken 75 = .ok (.aload_n 0, 1) ∧ 75 + 1 = 76 := ⟨by decide +kernel, rfl⟩
theorem dX8_taken_76 : decode cX8_taken 76 = .ok (.getfield 84, 3) ∧ 76 + 3 = 79 := ⟨by decide +kernel, rfl⟩
theorem dX8_taken_79 : decode cX8_taken 79 = .ok (.if_icmp .lt 8, 3) ∧ 79 + 3 = 82 ∧ ((79 : Nat) : Int) + (8) = ((87 : Nat) : Int) := ⟨by decide +kernel, rfl, by decide⟩
theorem dX8_taken_82 : decode cX8_taken 82 = .ok (.bipush (-11), 2) ∧ 82 + 2 = 84 := ⟨by decide +kernel, rfl⟩
theorem dX8_taken_84 : decode cX8_taken 84 = .ok (.goto 28, 3) ∧ ((84 : Nat) : Int) + (28) = ((112 : Nat) : Int) := ⟨by decide +kernel, by decide⟩
theorem dX8_taken_87 : decode cX8_taken 87 = .ok (.iload_n 2, 1) ∧ 87 + 1 = 88 := ⟨by decide +kernel, rfl⟩
theorem dX8_taken_88 : decode cX8_taken 88 = .ok (.bipush 6, 2) ∧ 88 + 2 = 90 := ⟨by decide +kernel, rfl⟩
theorem dX8_taken_90 : decode cX8_taken 90 = .ok (.if_icmp .ge 20, 3) ∧ 90 + 3 = 93 ∧ ((90 : Nat) : Int) + (20) = ((110 : Nat) : Int) := ⟨by decide +kernel, rfl, by decide⟩
theorem dX8_taken_93 : decode cX8_taken 93 = .ok (.aload_n 0, 1) ∧ 93 + 1 = 94 := ⟨by decide +kernel, rfl⟩
theorem dX8_taken_94 : decode cX8_taken 94 = .ok (.getfield 7, 3) ∧ 94 + 3 = 97 := ⟨by decide +kernel, rfl⟩
theorem dX8_taken_97 : decode cX8_taken 97 = .ok (.iload_n 1, 1) ∧ 97 + 1 = 98 := ⟨by decide +kernel, rfl⟩
theorem dX8_taken_98 : decode cX8_taken 98 = .ok (.iaload, 1) ∧ 98 + 1 = 99 := ⟨by decide +kernel, rfl⟩
theorem dX8_taken_99 : decode cX8_taken 99 = .ok (.iload_n 2, 1) ∧ 99 + 1 = 100 := ⟨by decide +kernel, rfl⟩
theorem dX8_taken_100 : decode cX8_taken 100 = .ok (.invokestatic 279, 3) := by decide +kernel
theorem dX8_taken_103 : decode cX8_taken 103 = .ok (.ifCond .eq 7, 3) ∧ 103 + 3 = 106 ∧ ((103 : Nat) : Int) + (7) = ((110 : Nat) : Int) := ⟨by decide +kernel, rfl, by decide⟩
theorem dX8_taken_106 : decode cX8_taken 106 = .ok (.iload_n 1, 1) ∧ 106 + 1 = 107 := ⟨by decide +kernel, rfl⟩
theorem dX8_taken_107 : decode cX8_taken 107 = .ok (.goto 5, 3) ∧ ((107 : Nat) : Int) + (5) = ((112 : Nat) : Int) := ⟨by decide +kernel, by decide⟩
theorem dX8_taken_110 : decode cX8_taken 110 = .ok (.bipush (-13), 2) ∧ 110 + 2 = 112 := ⟨by decide +kernel, rfl⟩
theorem dX8_taken_112 : decode cX8_taken 112 = .ok (.ireturn, 1) := by decide +kernel
def B_X8_taken_73 (o : Nat) (S : Hp) (s0 : Int32) : Option (Int32 × Hp) :=
  some (s0, S)
set_option maxRecDepth 100000 in
set_option maxHeartbeats 4000000 in
theorem w_X8_taken_73 {E : Cx} {l : Launch} {res : Int32 × Hp} {ad : Nat → Nat} {o : Nat} {S : Hp} {s0 : Int32} (K : Kx E cX8_taken RX8 (rmd 1 0 0)) (X : Bx E l yX8_taken 4 (some .int) 0 0 ad (QI res)) (h : B_X8_taken_73 o S s0 = some res) : J E 0 0 73 [] [vI s0] S ad := by
  exact j_iret K X dX8_taken_73 h
def B_X8_taken_112 (o : Nat) (S : Hp) (s0 : Int32) : Option (Int32 × Hp) :=
  some (s0, S)
set_option maxRecDepth 100000 in
set_option maxHeartbeats 4000000 in
theorem w_X8_taken_112 {E : Cx} {l : Launch} {res : Int32 × Hp} {ad : Nat → Nat} {o : Nat} {S : Hp} {s0 : Int32} (K : Kx E cX8_taken RX8 (rmd 1 0 0)) (X : Bx E l yX8_taken 4 (some .int) 0 0 ad (QI res)) (h : B_X8_taken_112 o S s0 = some res) : J E 0 0 112 [] [vI s0] S ad := by
  exact j_iret K X dX8_taken_112 h
def B_X8_taken_110 (o : Nat) (S : Hp) : Option (Int32 × Hp) :=
  B_X8_taken_112 o S (-13 : Int32)
set_option maxRecDepth 100000 in
set_option maxHeartbeats 4000000 in
theorem w_X8_taken_110 {E : Cx} {l : Launch} {res : Int32 × Hp} {ad : Nat → Nat} {o : Nat} {S : Hp} (K : Kx E cX8_taken RX8 (rmd 1 0 0)) (X : Bx E l yX8_taken 4 (some .int) 0 0 ad (QI res)) (h : B_X8_taken_110 o S = some res) : J E 0 0 110 [] [] S ad := by
  refine j_bipush (v := (-13 : Int32)) K dX8_taken_110 (by decide) ?_
  exact w_X8_taken_112 K X h
def F_X8_taken (S : Hp) (o : Nat) (x1 : Int32) (x2 : Int32) : Option (Int32 × Hp) :=
  b2 (F_X8_in S x2 (0 : Int32) (6 : Int32)) fun v4 S4 =>
  if v4 = 0 then
    some ((-2 : Int32), S4)
  else
    b2 (F_X8_in S4 x1 (0 : Int32) (15 : Int32)) fun v17 S17 =>
    if v17 = 0 then
      some ((-12 : Int32), S17)
    else
      if x1 < (6 : Int32) then
        (gI S17 (some o) 6 0).bind fun v76 =>
        if x1 < v76 then
          if (6 : Int32) ≤ x2 then
            B_X8_taken_110 o S17
          else
            (gR S17 (some o) 6 1).bind fun v94 =>
            (aG S17 v94 x1).bind fun v98 =>
            b2 (F_X8_isUnder S17 v98 x2) fun v100 S100 =>
            if v100 = 0 then
              B_X8_taken_110 o S100
            else
              B_X8_taken_112 o S100 x1
        else
          B_X8_taken_112 o S17 (-11 : Int32)
      else
        (gI S17 (some o) 6 7).bind fun v39 =>
        if (x1 - (6 : Int32)) < v39 then
          if x2 = (6 : Int32) then
            (gR S17 (some o) 6 5).bind fun v57 =>
            b2 (F_X8_within S17 (x1 - (6 : Int32)) (0 : Int32) (9 : Int32)) fun v64 S64 =>
            (aG S64 v57 v64).bind fun v67 =>
            B_X8_taken_73 o S64 v67
          else
            B_X8_taken_73 o S17 (-13 : Int32)
        else
          B_X8_taken_73 o S17 (-11 : Int32)
set_option maxRecDepth 100000 in
set_option maxHeartbeats 4000000 in
theorem w_X8_taken {E : Cx} {l : Launch} {res : Int32 × Hp} {ad : Nat → Nat} {S : Hp} {o : Nat} {x1 : Int32} {x2 : Int32} (K : Kx E cX8_taken RX8 (rmd 1 0 0)) (X : Bx E l yX8_taken 4 (some .int) 0 0 ad (QI res)) (h : F_X8_taken S o x1 x2 = some res) : J E 0 0 0 [(0, vR (some o)), (1, vI x1), (2, vI x2)] [] S ad := by
  refine j_iload_n K dX8_taken_0 rfl 2 rfl ?_
  refine j_iconst (v := (0 : Int32)) K dX8_taken_1 (by decide) ?_
  refine j_bipush (v := (6 : Int32)) K dX8_taken_2 (by decide) ?_
  obtain ⟨v4, S4, e4, h⟩ := bd2 h
  refine j_cI (st := []) K (r_S (vs := [vI x2, vI (0 : Int32), vI (6 : Int32)]) (n := 3) K (c_X8_in e4) dX8_taken_4 z812 z813 z13 z814 ⟨zd_X8_in, rfl, rfl, rfl, ⟨Nat.le_of_ble_eq_true rfl, Nat.le_of_ble_eq_true rfl⟩, Nat.le_of_ble_eq_true rfl, Nat.le_of_ble_eq_true rfl, Nat.le_of_ble_eq_true rfl⟩) rfl ?_
  refine j_if_ne K dX8_taken_7 (fun c7 => ?_) (fun c7 => ?_)
  · replace h := ie c7 h
    refine j_iload_n K dX8_taken_13 rfl 1 rfl ?_
    refine j_iconst (v := (0 : Int32)) K dX8_taken_14 (by decide) ?_
    refine j_bipush (v := (15 : Int32)) K dX8_taken_15 (by decide) ?_
    obtain ⟨v17, S17, e17, h⟩ := bd2 h
    refine j_cI (st := []) K (r_S (vs := [vI x1, vI (0 : Int32), vI (15 : Int32)]) (n := 3) K (c_X8_in e17) dX8_taken_17 z812 z813 z13 z814 ⟨zd_X8_in, rfl, rfl, rfl, ⟨Nat.le_of_ble_eq_true rfl, Nat.le_of_ble_eq_true rfl⟩, Nat.le_of_ble_eq_true rfl, Nat.le_of_ble_eq_true rfl, Nat.le_of_ble_eq_true rfl⟩) rfl ?_
    refine j_if_ne K dX8_taken_20 (fun c20 => ?_) (fun c20 => ?_)
    · replace h := ie c20 h
      refine j_iload_n K dX8_taken_26 rfl 1 rfl ?_
      refine j_bipush (v := (6 : Int32)) K dX8_taken_27 (by decide) ?_
      refine j_icmp_lt K dX8_taken_29 (fun c29 => ?_) (fun c29 => ?_)
      · replace h := it c29 h
        refine j_iload_n K dX8_taken_74 rfl 1 rfl ?_
        refine j_aload_n K dX8_taken_75 rfl 0 rfl ?_
        obtain ⟨v76, e76, h⟩ := bd h
        refine fgX8_84 K dX8_taken_76 e76 ?_
        refine j_icmp_lt K dX8_taken_79 (fun c79 => ?_) (fun c79 => ?_)
        · replace h := it c79 h
          refine j_iload_n K dX8_taken_87 rfl 2 rfl ?_
          refine j_bipush (v := (6 : Int32)) K dX8_taken_88 (by decide) ?_
          refine j_icmp_ge K dX8_taken_90 (fun c90 => ?_) (fun c90 => ?_)
          · replace h := it c90 h
            exact j_sub [] rfl (w_X8_taken_110 K X h)
          · replace h := ie c90 h
            refine j_aload_n K dX8_taken_93 rfl 0 rfl ?_
            obtain ⟨v94, e94, h⟩ := bd h
            refine fgX8_7 K dX8_taken_94 e94 ?_
            refine j_iload_n K dX8_taken_97 rfl 1 rfl ?_
            obtain ⟨v98, e98, h⟩ := bd h
            refine j_aG K dX8_taken_98 e98 ?_
            refine j_iload_n K dX8_taken_99 rfl 2 rfl ?_
            obtain ⟨v100, S100, e100, h⟩ := bd2 h
            refine j_cI (st := []) K (r_S (vs := [vI v98, vI x2]) (n := 2) K (c_X8_isUnder e100) dX8_taken_100 z1241 z1242 z13 z1243 ⟨zd_X8_isUnder, rfl, rfl, rfl, ⟨Nat.le_of_ble_eq_true rfl, Nat.le_of_ble_eq_true rfl⟩, Nat.le_of_ble_eq_true rfl, Nat.le_of_ble_eq_true rfl, Nat.le_of_ble_eq_true rfl⟩) rfl ?_
            refine j_if_eq K dX8_taken_103 (fun c103 => ?_) (fun c103 => ?_)
            · replace h := it c103 h
              exact j_sub [] rfl (w_X8_taken_110 K X h)
            · replace h := ie c103 h
              refine j_iload_n K dX8_taken_106 rfl 1 rfl ?_
              refine j_goto K dX8_taken_107 ?_
              exact j_sub [] rfl (w_X8_taken_112 K X h)
        · replace h := ie c79 h
          refine j_bipush (v := (-11 : Int32)) K dX8_taken_82 (by decide) ?_
          refine j_goto K dX8_taken_84 ?_
          exact j_sub [] rfl (w_X8_taken_112 K X h)
      · replace h := ie c29 h
        refine j_iload_n K dX8_taken_32 rfl 1 rfl ?_
        refine j_bipush (v := (6 : Int32)) K dX8_taken_33 (by decide) ?_
        refine j_isub K dX8_taken_35 ?_
        refine j_istore_n (lv' := [(3, vI (x1 - (6 : Int32))), (0, vR (some o)), (1, vI x1), (2, vI x2)]) K dX8_taken_36 rfl X.2.2.1 (by decide) rfl ?_
        refine j_iload_n K dX8_taken_37 rfl 0 rfl ?_
        refine j_aload_n K dX8_taken_38 rfl 1 rfl ?_
        obtain ⟨v39, e39, h⟩ := bd h
        refine fgX8_91 K dX8_taken_39 e39 ?_
        refine j_icmp_lt K dX8_taken_42 (fun c42 => ?_) (fun c42 => ?_)
        · replace h := it c42 h
          refine j_iload_n K dX8_taken_50 rfl 3 rfl ?_
          refine j_bipush (v := (6 : Int32)) K dX8_taken_51 (by decide) ?_
          refine j_icmp_ne K dX8_taken_53 (fun c53 => ?_) (fun c53 => ?_)
          · replace h := ie c53 h
            refine j_bipush (v := (-13 : Int32)) K dX8_taken_71 (by decide) ?_
            exact j_sub [] rfl (w_X8_taken_73 K X h)
          · replace h := it c53 h
            refine j_aload_n K dX8_taken_56 rfl 1 rfl ?_
            obtain ⟨v57, e57, h⟩ := bd h
            refine fgX8_22 K dX8_taken_57 e57 ?_
            refine j_iload_n K dX8_taken_60 rfl 0 rfl ?_
            refine j_iconst (v := (0 : Int32)) K dX8_taken_61 (by decide) ?_
            refine j_bipush (v := (9 : Int32)) K dX8_taken_62 (by decide) ?_
            obtain ⟨v64, S64, e64, h⟩ := bd2 h
            refine j_cI (st := [vR v57]) K (r_S (vs := [vI (x1 - (6 : Int32)), vI (0 : Int32), vI (9 : Int32)]) (n := 3) K (c_X8_within e64) dX8_taken_64 z1021 z1022 z13 z1023 ⟨zd_X8_within, rfl, rfl, rfl, ⟨Nat.le_of_ble_eq_true rfl, Nat.le_of_ble_eq_true rfl⟩, Nat.le_of_ble_eq_true rfl, Nat.le_of_ble_eq_true rfl, Nat.le_of_ble_eq_true rfl⟩) rfl ?_
            obtain ⟨v67, e67, h⟩ := bd h
            refine j_aG K dX8_taken_67 e67 ?_
            refine j_goto K dX8_taken_68 ?_
            exact j_sub [] rfl (w_X8_taken_73 K X h)
        · replace h := ie c42 h
          refine j_bipush (v := (-11 : Int32)) K dX8_taken_45 (by decide) ?_
          refine j_goto K dX8_taken_47 ?_
          exact j_sub [] rfl (w_X8_taken_73 K X h)
    · replace h := it c20 h
      refine j_bipush (v := (-12 : Int32)) K dX8_taken_23 (by decide) ?_
      exact j_iret K X dX8_taken_25 h
  · replace h := it c7 h
    refine j_bipush (v := (-2 : Int32)) K dX8_taken_10 (by decide) ?_
    exact j_iret K X dX8_taken_12 h
theorem c_X8_taken {l : Launch} {S : Hp} {o : Nat} {x1 : Int32} {x2 : Int32} {res : Int32 × Hp} (h : F_X8_taken S o x1 x2 = some res) : Ct l yX8_taken cX8_taken 4 (some .int) (rmd 1 0 0) 0 0 [vR (some o), vI x1, vI x2] S (QI res) :=
  z_entry (by decide +kernel) (Nat.le_of_ble_eq_true rfl) (fun E ad K X => w_X8_taken K X h)
