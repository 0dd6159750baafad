theorem dX7_init_0 : decode cX7_init 0 = .ok (.aload_n 0, 1) ∧ 0 + 1 = 1 := ⟨by decide +kernel, rfl⟩
theorem dX7_init_1 : decode cX7_init 1 = .ok (.invokespecial 1, 3) ∧ 1 + 3 = 4 := ⟨by decide +kernel, rfl⟩
theorem dX7_init_4 : decode cX7_init 4 = .ok (.aload_n 0, 1) ∧ 4 + 1 = 5 := ⟨by decide +kernel, rfl⟩
theorem dX7_init_5 : decode cX7_init 5 = .ok (.sipush 159, 3) ∧ 5 + 3 = 8 := ⟨by decide +kernel, rfl⟩
theorem dX7_init_8 : decode cX7_init 8 = .ok (.newarray .int, 2) ∧ 8 + 2 = 10 := ⟨by decide +kernel, rfl⟩
theorem dX7_init_10 : decode cX7_init 10 = .ok (.putfield 7, 3) ∧ 10 + 3 = 13 := ⟨by decide +kernel, rfl⟩
theorem dX7_init_13 : decode cX7_init 13 = .ok (.aload_n 0, 1) ∧ 13 + 1 = 14 := ⟨by decide +kernel, rfl⟩
theorem dX7_init_14 : decode cX7_init 14 = .ok (.sipush 3816, 3) ∧ 14 + 3 = 17 := ⟨by decide +kernel, rfl⟩
theorem dX7_init_17 : decode cX7_init 17 = .ok (.newarray .int, 2) ∧ 17 + 2 = 19 := ⟨by decide +kernel, rfl⟩
theorem dX7_init_19 : decode cX7_init 19 = .ok (.putfield 13, 3) ∧ 19 + 3 = 22 := ⟨by decide +kernel, rfl⟩
theorem dX7_init_22 : decode cX7_init 22 = .ok (.aload_n 0, 1) ∧ 22 + 1 = 23 := ⟨by decide +kernel, rfl⟩
theorem dX7_init_23 : decode cX7_init 23 = .ok (.bipush 16, 2) ∧ 23 + 2 = 25 := ⟨by decide +kernel, rfl⟩
theorem dX7_init_25 : decode cX7_init 25 = .ok (.newarray .int, 2) ∧ 25 + 2 = 27 := ⟨by decide +kernel, rfl⟩
theorem dX7_init_27 : decode cX7_init 27 = .ok (.putfield 16, 3) ∧ 27 + 3 = 30 := ⟨by decide +kernel, rfl⟩
theorem dX7_init_30 : decode cX7_init 30 = .ok (.aload_n 0, 1) ∧ 30 + 1 = 31 := ⟨by decide +kernel, rfl⟩
theorem dX7_init_31 : decode cX7_init 31 = .ok (.iconst 4, 1) ∧ 31 + 1 = 32 := ⟨by decide +kernel, rfl⟩
theorem dX7_init_32 : decode cX7_init 32 = .ok (.newarray .int, 2) ∧ 32 + 2 = 34 := ⟨by decide +kernel, rfl⟩
theorem dX7_init_34 : decode cX7_init 34 = .ok (.putfield 19, 3) ∧ 34 + 3 = 37 := ⟨by decide +kernel, rfl⟩
theorem dX7_init_37 : decode cX7_init 37 = .ok (.aload_n 0, 1) ∧ 37 + 1 = 38 := ⟨by decide +kernel, rfl⟩
theorem dX7_init_38 : decode cX7_init 38 = .ok (.bipush 16, 2) ∧ 38 + 2 = 40 := ⟨by decide +kernel, rfl⟩
theorem dX7_init_40 : decode cX7_init 40 = .ok (.newarray .int, 2) ∧ 40 + 2 = 42 := ⟨by decide +kernel, rfl⟩
theorem dX7_init_42 : decode cX7_init 42 = .ok (.putfield 22, 3) ∧ 42 + 3 = 45 := ⟨by decide +kernel, rfl⟩
theorem dX7_init_45 : decode cX7_init 45 = .ok (.aload_n 0, 1) ∧ 45 + 1 = 46 := ⟨by decide +kernel, rfl⟩
theorem dX7_init_46 : decode cX7_init 46 = .ok (.iconst 4, 1) ∧ 46 + 1 = 47 := ⟨by decide +kernel, rfl⟩
theorem dX7_init_47 : decode cX7_init 47 = .ok (.newarray .int, 2) ∧ 47 + 2 = 49 := ⟨by decide +kernel, rfl⟩
theorem dX7_init_49 : decode cX7_init 49 = .ok (.putfield 25, 3) ∧ 49 + 3 = 52 := ⟨by decide +kernel, rfl⟩
theorem dX7_init_52 : decode cX7_init 52 = .ok (.aload_n 0, 1) ∧ 52 + 1 = 53 := ⟨by decide +kernel, rfl⟩
theorem dX7_init_53 : decode cX7_init 53 = .ok (.iconst 4, 1) ∧ 53 + 1 = 54 := ⟨by decide +kernel, rfl⟩
theorem dX7_init_54 : decode cX7_init 54 = .ok (.newarray .int, 2) ∧ 54 + 2 = 56 := ⟨by decide +kernel, rfl⟩
theorem dX7_init_56 : decode cX7_init 56 = .ok (.putfield 28, 3) ∧ 56 + 3 = 59 := ⟨by decide +kernel, rfl⟩
theorem dX7_init_59 : decode cX7_init 59 = .ok (.aload_n 0, 1) ∧ 59 + 1 = 60 := ⟨by decide +kernel, rfl⟩
theorem dX7_init_60 : decode cX7_init 60 = .ok (.bipush 16, 2) ∧ 60 + 2 = 62 := ⟨by decide +kernel, rfl⟩
theorem dX7_init_62 : decode cX7_init 62 = .ok (.newarray .int, 2) ∧ 62 + 2 = 64 := ⟨by decide +kernel, rfl⟩
theorem dX7_init_64 : decode cX7_init 64 = .ok (.putfield 31, 3) ∧ 64 + 3 = 67 := ⟨by decide +kernel, rfl⟩
theorem dX7_init_67 : decode cX7_init 67 = .ok (.aload_n 0, 1) ∧ 67 + 1 = 68 := ⟨by decide +kernel, rfl⟩
theorem dX7_init_68 : decode cX7_init 68 = .ok (.bipush 16, 2) ∧ 68 + 2 = 70 := ⟨by decide +kernel, rfl⟩
theorem dX7_init_70 : decode cX7_init 70 = .ok (.newarray .int, 2) ∧ 70 + 2 = 72 := ⟨by decide +kernel, rfl⟩
theorem dX7_init_72 : decode cX7_init 72 = .ok (.putfield 34, 3) ∧ 72 + 3 = 75 := ⟨by decide +kernel, rfl⟩
theorem dX7_init_75 : decode cX7_init 75 = .ok (.aload_n 0, 1) ∧ 75 + 1 = 76 := ⟨by decide +kernel, rfl⟩
theorem dX7_init_76 : decode cX7_init 76 = .ok (.bipush 16, 2) ∧ 76 + 2 = 78 := ⟨by decide +kernel, rfl⟩
theorem dX7_init_78 : decode cX7_init 78 = .ok (.newarray .boolean, 2) ∧ 78 + 2 = 80 := ⟨by decide +kernel, rfl⟩
theorem dX7_init_80 : decode cX7_init 80 = .ok (.putfield 37, 3) ∧ 80 + 3 = 83 := ⟨by decide +kernel, rfl⟩
theorem dX7_init_83 : decode cX7_init 83 = .ok (.aload_n 0, 1) ∧ 83 + 1 = 84 := ⟨by decide +kernel, rfl⟩
theorem dX7_init_84 : decode cX7_init 84 = .ok (.bipush 16, 2) ∧ 84 + 2 = 86 := ⟨by decide +kernel, rfl⟩
theorem dX7_init_86 : decode cX7_init 86 = .ok (.newarray .int, 2) ∧ 86 + 2 = 88 := ⟨by decide +kernel, rfl⟩
theorem dX7_init_88 : decode cX7_init 88 = .ok (.putfield 41, 3) ∧ 88 + 3 = 91 := ⟨by decide +kernel, rfl⟩
theorem dX7_init_91 : decode cX7_init 91 = .ok (.aload_n 0, 1) ∧ 91 + 1 = 92 := ⟨by decide +kernel, rfl⟩
theorem dX7_init_92 : decode cX7_init 92 = .ok (.bipush 16, 2) ∧ 92 + 2 = 94 := ⟨by decide +kernel, rfl⟩
theorem dX7_init_94 : decode cX7_init 94 = .ok (.newarray .boolean, 2) ∧ 94 + 2 = 96 := ⟨by decide +kernel, rfl⟩
theorem dX7_init_96 : decode cX7_init 96 = .ok (.putfield 44, 3) ∧ 96 + 3 = 99 := ⟨by decide +kernel, rfl⟩
theorem dX7_init_99 : decode cX7_init 99 = .ok (.aload_n 0, 1) ∧ 99 + 1 = 100 := ⟨by decide +kernel, rfl⟩
theorem dX7_init_100 : decode cX7_init 100 = .ok (.bipush 16, 2) ∧ 100 + 2 = 102 := ⟨by decide +kernel, rfl⟩
theorem dX7_init_102 : decode cX7_init 102 = .ok (.newarray .int, 2) ∧ 102 + 2 = 104 := ⟨by decide +kernel, rfl⟩
theorem dX7_init_104 : decode cX7_init 104 = .ok (.putfield 47, 3) ∧ 104 + 3 = 107 := ⟨by decide +kernel, rfl⟩
theorem dX7_init_107 : decode cX7_init 107 = .ok (.aload_n 0, 1) ∧ 107 + 1 = 108 := ⟨by decide +kernel, rfl⟩
theorem dX7_init_108 : decode cX7_init 108 = .ok (.bipush 16, 2) ∧ 108 + 2 = 110 := ⟨by decide +kernel, rfl⟩
theorem dX7_init_110 : decode cX7_init 110 = .ok (.newarray .int, 2) ∧ 110 + 2 = 112 := ⟨by decide +kernel, rfl⟩
theorem dX7_init_112 : decode cX7_init 112 = .ok (.putfield 50, 3) ∧ 112 + 3 = 115 := ⟨by decide +kernel, rfl⟩
theorem dX7_init_115 : decode cX7_init 115 = .ok (.aload_n 0, 1) ∧ 115 + 1 = 116 := ⟨by decide +kernel, rfl⟩
theorem dX7_init_116 : decode cX7_init 116 = .ok (.sipush 272, 3) ∧ 116 + 3 = 119 := ⟨by decide +kernel, rfl⟩
theorem dX7_init_119 : decode cX7_init 119 = .ok (.newarray .int, 2) ∧ 119 + 2 = 121 := ⟨by decide +kernel, rfl⟩
theorem dX7_init_121 : decode cX7_init 121 = .ok (.putfield 53, 3) ∧ 121 + 3 = 124 := ⟨by decide +kernel, rfl⟩
theorem dX7_init_124 : decode cX7_init 124 = .ok (.aload_n 0, 1) ∧ 124 + 1 = 125 := ⟨by decide +kernel, rfl⟩
theorem dX7_init_125 : decode cX7_init 125 = .ok (.iconst 4, 1) ∧ 125 + 1 = 126 := ⟨by decide +kernel, rfl⟩
theorem dX7_init_126 : decode cX7_init 126 = .ok (.newarray .int, 2) ∧ 126 + 2 = 128 := ⟨by decide +kernel, rfl⟩
theorem dX7_init_128 : decode cX7_init 128 = .ok (.putfield 56, 3) ∧ 128 + 3 = 131 := ⟨by decide +kernel, rfl⟩
theorem dX7_init_131 : decode cX7_init 131 = .ok (.aload_n 0, 1) ∧ 131 + 1 = 132 := ⟨by decide +kernel, rfl⟩
theorem dX7_init_132 : decode cX7_init 132 = .ok (.sipush 1296, 3) ∧ 132 + 3 = 135 := ⟨by decide +kernel, rfl⟩
theorem dX7_init_135 : decode cX7_init 135 = .ok (.newarray .long, 2) ∧ 135 + 2 = 137 := ⟨by decide +kernel, rfl⟩
theorem dX7_init_137 : decode cX7_init 137 = .ok (.putfield 59, 3) ∧ 137 + 3 = 140 := ⟨by decide +kernel, rfl⟩
theorem dX7_init_140 : decode cX7_init 140 = .ok (.aload_n 0, 1) ∧ 140 + 1 = 141 := ⟨by decide +kernel, rfl⟩
theorem dX7_init_141 : decode cX7_init 141 = .ok (.bipush 16, 2) ∧ 141 + 2 = 143 := ⟨by decide +kernel, rfl⟩
theorem dX7_init_143 : decode cX7_init 143 = .ok (.newarray .int, 2) ∧ 143 + 2 = 145 := ⟨by decide +kernel, rfl⟩
theorem dX7_init_145 : decode cX7_init 145 = .ok (.putfield 63, 3) ∧ 145 + 3 = 148 := ⟨by decide +kernel, rfl⟩
theorem dX7_init_148 : decode cX7_init 148 = .ok (.iconst 0, 1) ∧ 148 + 1 = 149 := ⟨by decide +kernel, rfl⟩
theorem dX7_init_149 : decode cX7_init 149 = .ok (.istore_n 1, 1) ∧ 149 + 1 = 150 := ⟨by decide +kernel, rfl⟩
theorem dX7_init_150 : decode cX7_init 150 = .ok (.iload_n 1, 1) ∧ 150 + 1 = 151 := ⟨by decide +kernel, rfl⟩
theorem dX7_init_151 : decode cX7_init 151 = .ok (.iconst 4, 1) ∧ 151 + 1 = 152 := ⟨by decide +kernel, rfl⟩
theorem dX7_init_152 : decode cX7_init 152 = .ok (.if_icmp .ge 32, 3) ∧ 152 + 3 = 155 ∧ ((152 : Nat) : Int) + 32 = ((184 : Nat) : Int) := ⟨by decide +kernel, rfl, rfl⟩
theorem dX7_init_155 : decode cX7_init 155 = .ok (.aload_n 0, 1) ∧ 155 + 1 = 156 := ⟨by decide +kernel, rfl⟩
theorem dX7_init_156 : decode cX7_init 156 = .ok (.getfield 7, 3) ∧ 156 + 3 = 159 := ⟨by decide +kernel, rfl⟩
theorem dX7_init_159 : decode cX7_init 159 = .ok (.sipush 148, 3) ∧ 159 + 3 = 162 := ⟨by decide +kernel, rfl⟩
theorem dX7_init_162 : decode cX7_init 162 = .ok (.iload_n 1, 1) ∧ 162 + 1 = 163 := ⟨by decide +kernel, rfl⟩
theorem dX7_init_163 : decode cX7_init 163 = .ok (.iadd, 1) ∧ 163 + 1 = 164 := ⟨by decide +kernel, rfl⟩
theorem dX7_init_164 : decode cX7_init 164 = .ok (.bipush (-9), 2) ∧ 164 + 2 = 166 := ⟨by decide +kernel, rfl⟩
theorem dX7_init_166 : decode cX7_init 166 = .ok (.iastore, 1) ∧ 166 + 1 = 167 := ⟨by decide +kernel, rfl⟩
theorem dX7_init_167 : decode cX7_init 167 = .ok (.aload_n 0, 1) ∧ 167 + 1 = 168 := ⟨by decide +kernel, rfl⟩
theorem dX7_init_168 : decode cX7_init 168 = .ok (.getfield 7, 3) ∧ 168 + 3 = 171 := ⟨by decide +kernel, rfl⟩
theorem dX7_init_171 : decode cX7_init 171 = .ok (.sipush 152, 3) ∧ 171 + 3 = 174 := ⟨by decide +kernel, rfl⟩
theorem dX7_init_174 : decode cX7_init 174 = .ok (.iload_n 1, 1) ∧ 174 + 1 = 175 := ⟨by decide +kernel, rfl⟩
theorem dX7_init_175 : decode cX7_init 175 = .ok (.iadd, 1) ∧ 175 + 1 = 176 := ⟨by decide +kernel, rfl⟩
theorem dX7_init_176 : decode cX7_init 176 = .ok (.iload_n 1, 1) ∧ 176 + 1 = 177 := ⟨by decide +kernel, rfl⟩
theorem dX7_init_177 : decode cX7_init 177 = .ok (.iastore, 1) ∧ 177 + 1 = 178 := ⟨by decide +kernel, rfl⟩
theorem dX7_init_178 : decode cX7_init 178 = .ok (.iinc 1 1, 3) ∧ 178 + 3 = 181 := ⟨by decide +kernel, rfl⟩
theorem dX7_init_181 : decode cX7_init 181 = .ok (.goto (-31), 3) ∧ ((181 : Nat) : Int) + (-31) = ((150 : Nat) : Int) := ⟨by decide +kernel, rfl⟩
theorem dX7_init_184 : decode cX7_init 184 = .ok (.return_, 1) ∧ 184 + 1 = 185 := ⟨by decide +kernel, rfl⟩
theorem dX7_within_0 : decode cX7_within 0 = .ok (.iload_n 0, 1) ∧ 0 + 1 = 1 := ⟨by decide +kernel, rfl⟩
theorem dX7_within_1 : decode cX7_within 1 = .ok (.iload_n 1, 1) ∧ 1 + 1 = 2 := ⟨by decide +kernel, rfl⟩
theorem dX7_within_2 : decode cX7_within 2 = .ok (.if_icmp .lt 12, 3) ∧ 2 + 3 = 5 ∧ ((2 : Nat) : Int) + 12 = ((14 : Nat) : Int) := ⟨by decide +kernel, rfl, rfl⟩
theorem dX7_within_5 : decode cX7_within 5 = .ok (.iload_n 0, 1) ∧ 5 + 1 = 6 := ⟨by decide +kernel, rfl⟩
theorem dX7_within_6 : decode cX7_within 6 = .ok (.iload_n 2, 1) ∧ 6 + 1 = 7 := ⟨by decide +kernel, rfl⟩
theorem dX7_within_7 : decode cX7_within 7 = .ok (.if_icmp .gt 7, 3) ∧ 7 + 3 = 10 ∧ ((7 : Nat) : Int) + 7 = ((14 : Nat) : Int) := ⟨by decide +kernel, rfl, rfl⟩
theorem dX7_within_10 : decode cX7_within 10 = .ok (.iconst 1, 1) ∧ 10 + 1 = 11 := ⟨by decide +kernel, rfl⟩
theorem dX7_within_11 : decode cX7_within 11 = .ok (.goto 4, 3) ∧ ((11 : Nat) : Int) + 4 = ((15 : Nat) : Int) := ⟨by decide +kernel, rfl⟩
theorem dX7_within_14 : decode cX7_within 14 = .ok (.iconst 0, 1) ∧ 14 + 1 = 15 := ⟨by decide +kernel, rfl⟩
theorem dX7_within_15 : decode cX7_within 15 = .ok (.ireturn, 1) ∧ 15 + 1 = 16 := ⟨by decide +kernel, rfl⟩
theorem dX7_isPerson_0 : decode cX7_isPerson 0 = .ok (.iload_n 1, 1) ∧ 0 + 1 = 1 := ⟨by decide +kernel, rfl⟩
theorem dX7_isPerson_1 : decode cX7_isPerson 1 = .ok (.iconst 0, 1) ∧ 1 + 1 = 2 := ⟨by decide +kernel, rfl⟩
theorem dX7_isPerson_2 : decode cX7_isPerson 2 = .ok (.aload_n 0, 1) ∧ 2 + 1 = 3 := ⟨by decide +kernel, rfl⟩
theorem dX7_isPerson_3 : decode cX7_isPerson 3 = .ok (.getfield 7, 3) ∧ 3 + 3 = 6 := ⟨by decide +kernel, rfl⟩
theorem dX7_isPerson_6 : decode cX7_isPerson 6 = .ok (.sipush 157, 3) ∧ 6 + 3 = 9 := ⟨by decide +kernel, rfl⟩
theorem dX7_isPerson_9 : decode cX7_isPerson 9 = .ok (.iaload, 1) ∧ 9 + 1 = 10 := ⟨by decide +kernel, rfl⟩
theorem dX7_isPerson_10 : decode cX7_isPerson 10 = .ok (.iconst 1, 1) ∧ 10 + 1 = 11 := ⟨by decide +kernel, rfl⟩
theorem dX7_isPerson_11 : decode cX7_isPerson 11 = .ok (.isub, 1) ∧ 11 + 1 = 12 := ⟨by decide +kernel, rfl⟩
theorem dX7_isPerson_12 : decode cX7_isPerson 12 = .ok (.invokestatic 66, 3) ∧ 12 + 3 = 15 := ⟨by decide +kernel, rfl⟩
theorem dX7_isPerson_15 : decode cX7_isPerson 15 = .ok (.ireturn, 1) ∧ 15 + 1 = 16 := ⟨by decide +kernel, rfl⟩
theorem dX7_isKind_0 : decode cX7_isKind 0 = .ok (.iload_n 0, 1) ∧ 0 + 1 = 1 := ⟨by decide +kernel, rfl⟩
theorem dX7_isKind_1 : decode cX7_isKind 1 = .ok (.iconst 0, 1) ∧ 1 + 1 = 2 := ⟨by decide +kernel, rfl⟩
theorem dX7_isKind_2 : decode cX7_isKind 2 = .ok (.iconst 3, 1) ∧ 2 + 1 = 3 := ⟨by decide +kernel, rfl⟩
theorem dX7_isKind_3 : decode cX7_isKind 3 = .ok (.invokestatic 66, 3) ∧ 3 + 3 = 6 := ⟨by decide +kernel, rfl⟩
theorem dX7_isKind_6 : decode cX7_isKind 6 = .ok (.ireturn, 1) ∧ 6 + 1 = 7 := ⟨by decide +kernel, rfl⟩
theorem dX7_of_0 : decode cX7_of 0 = .ok (.aload_n 0, 1) ∧ 0 + 1 = 1 := ⟨by decide +kernel, rfl⟩
theorem dX7_of_1 : decode cX7_of 1 = .ok (.getfield 7, 3) ∧ 1 + 3 = 4 := ⟨by decide +kernel, rfl⟩
theorem dX7_of_4 : decode cX7_of 4 = .ok (.bipush 8, 2) ∧ 4 + 2 = 6 := ⟨by decide +kernel, rfl⟩
theorem dX7_of_6 : decode cX7_of 6 = .ok (.iload_n 1, 1) ∧ 6 + 1 = 7 := ⟨by decide +kernel, rfl⟩
theorem dX7_of_7 : decode cX7_of 7 = .ok (.imul, 1) ∧ 7 + 1 = 8 := ⟨by decide +kernel, rfl⟩
theorem dX7_of_8 : decode cX7_of 8 = .ok (.iload_n 2, 1) ∧ 8 + 1 = 9 := ⟨by decide +kernel, rfl⟩
theorem dX7_of_9 : decode cX7_of 9 = .ok (.iadd, 1) ∧ 9 + 1 = 10 := ⟨by decide +kernel, rfl⟩
theorem dX7_of_10 : decode cX7_of 10 = .ok (.iaload, 1) ∧ 10 + 1 = 11 := ⟨by decide +kernel, rfl⟩
theorem dX7_of_11 : decode cX7_of 11 = .ok (.ireturn, 1) ∧ 11 + 1 = 12 := ⟨by decide +kernel, rfl⟩
theorem dX7_become_0 : decode cX7_become 0 = .ok (.aload_n 0, 1) ∧ 0 + 1 = 1 := ⟨by decide +kernel, rfl⟩
theorem dX7_become_1 : decode cX7_become 1 = .ok (.getfield 7, 3) ∧ 1 + 3 = 4 := ⟨by decide +kernel, rfl⟩
theorem dX7_become_4 : decode cX7_become 4 = .ok (.bipush 8, 2) ∧ 4 + 2 = 6 := ⟨by decide +kernel, rfl⟩
theorem dX7_become_6 : decode cX7_become 6 = .ok (.iload_n 1, 1) ∧ 6 + 1 = 7 := ⟨by decide +kernel, rfl⟩
theorem dX7_become_7 : decode cX7_become 7 = .ok (.imul, 1) ∧ 7 + 1 = 8 := ⟨by decide +kernel, rfl⟩
theorem dX7_become_8 : decode cX7_become 8 = .ok (.iload_n 2, 1) ∧ 8 + 1 = 9 := ⟨by decide +kernel, rfl⟩
theorem dX7_become_9 : decode cX7_become 9 = .ok (.iadd, 1) ∧ 9 + 1 = 10 := ⟨by decide +kernel, rfl⟩
theorem dX7_become_10 : decode cX7_become 10 = .ok (.iload_n 3, 1) ∧ 10 + 1 = 11 := ⟨by decide +kernel, rfl⟩
theorem dX7_become_11 : decode cX7_become 11 = .ok (.iastore, 1) ∧ 11 + 1 = 12 := ⟨by decide +kernel, rfl⟩
theorem dX7_become_12 : decode cX7_become 12 = .ok (.return_, 1) ∧ 12 + 1 = 13 := ⟨by decide +kernel, rfl⟩
theorem dX7_sizeOf_0 : decode cX7_sizeOf 0 = .ok (.iconst 0, 1) ∧ 0 + 1 = 1 := ⟨by decide +kernel, rfl⟩
theorem dX7_sizeOf_1 : decode cX7_sizeOf 1 = .ok (.istore_n 1, 1) ∧ 1 + 1 = 2 := ⟨by decide +kernel, rfl⟩
theorem dX7_sizeOf_2 : decode cX7_sizeOf 2 = .ok (.iconst 0, 1) ∧ 2 + 1 = 3 := ⟨by decide +kernel, rfl⟩
theorem dX7_sizeOf_3 : decode cX7_sizeOf 3 = .ok (.istore_n 2, 1) ∧ 3 + 1 = 4 := ⟨by decide +kernel, rfl⟩
theorem dX7_sizeOf_4 : decode cX7_sizeOf 4 = .ok (.iload_n 2, 1) ∧ 4 + 1 = 5 := ⟨by decide +kernel, rfl⟩
theorem dX7_sizeOf_5 : decode cX7_sizeOf 5 = .ok (.bipush 16, 2) ∧ 5 + 2 = 7 := ⟨by decide +kernel, rfl⟩
theorem dX7_sizeOf_7 : decode cX7_sizeOf 7 = .ok (.if_icmp .ge 17, 3) ∧ 7 + 3 = 10 ∧ ((7 : Nat) : Int) + 17 = ((24 : Nat) : Int) := ⟨by decide +kernel, rfl, rfl⟩
theorem dX7_sizeOf_10 : decode cX7_sizeOf 10 = .ok (.iload_n 1, 1) ∧ 10 + 1 = 11 := ⟨by decide +kernel, rfl⟩
theorem dX7_sizeOf_11 : decode cX7_sizeOf 11 = .ok (.iload_n 0, 1) ∧ 11 + 1 = 12 := ⟨by decide +kernel, rfl⟩
theorem dX7_sizeOf_12 : decode cX7_sizeOf 12 = .ok (.iload_n 2, 1) ∧ 12 + 1 = 13 := ⟨by decide +kernel, rfl⟩
theorem dX7_sizeOf_13 : decode cX7_sizeOf 13 = .ok (.ishr, 1) ∧ 13 + 1 = 14 := ⟨by decide +kernel, rfl⟩
theorem dX7_sizeOf_14 : decode cX7_sizeOf 14 = .ok (.iconst 1, 1) ∧ 14 + 1 = 15 := ⟨by decide +kernel, rfl⟩
theorem dX7_sizeOf_15 : decode cX7_sizeOf 15 = .ok (.iand, 1) ∧ 15 + 1 = 16 := ⟨by decide +kernel, rfl⟩
theorem dX7_sizeOf_16 : decode cX7_sizeOf 16 = .ok (.iadd, 1) ∧ 16 + 1 = 17 := ⟨by decide +kernel, rfl⟩
theorem dX7_sizeOf_17 : decode cX7_sizeOf 17 = .ok (.istore_n 1, 1) ∧ 17 + 1 = 18 := ⟨by decide +kernel, rfl⟩
theorem dX7_sizeOf_18 : decode cX7_sizeOf 18 = .ok (.iinc 2 1, 3) ∧ 18 + 3 = 21 := ⟨by decide +kernel, rfl⟩
theorem dX7_sizeOf_21 : decode cX7_sizeOf 21 = .ok (.goto (-17), 3) ∧ ((21 : Nat) : Int) + (-17) = ((4 : Nat) : Int) := ⟨by decide +kernel, rfl⟩
theorem dX7_sizeOf_24 : decode cX7_sizeOf 24 = .ok (.iload_n 1, 1) ∧ 24 + 1 = 25 := ⟨by decide +kernel, rfl⟩
theorem dX7_sizeOf_25 : decode cX7_sizeOf 25 = .ok (.ireturn, 1) ∧ 25 + 1 = 26 := ⟨by decide +kernel, rfl⟩
theorem dX7_keep_0 : decode cX7_keep 0 = .ok (.iconst 0, 1) ∧ 0 + 1 = 1 := ⟨by decide +kernel, rfl⟩
theorem dX7_keep_1 : decode cX7_keep 1 = .ok (.istore_n 1, 1) ∧ 1 + 1 = 2 := ⟨by decide +kernel, rfl⟩
theorem dX7_keep_2 : decode cX7_keep 2 = .ok (.iload_n 1, 1) ∧ 2 + 1 = 3 := ⟨by decide +kernel, rfl⟩
theorem dX7_keep_3 : decode cX7_keep 3 = .ok (.sipush 159, 3) ∧ 3 + 3 = 6 := ⟨by decide +kernel, rfl⟩
theorem dX7_keep_6 : decode cX7_keep 6 = .ok (.if_icmp .ge 30, 3) ∧ 6 + 3 = 9 ∧ ((6 : Nat) : Int) + 30 = ((36 : Nat) : Int) := ⟨by decide +kernel, rfl, rfl⟩
theorem dX7_keep_9 : decode cX7_keep 9 = .ok (.aload_n 0, 1) ∧ 9 + 1 = 10 := ⟨by decide +kernel, rfl⟩
theorem dX7_keep_10 : decode cX7_keep 10 = .ok (.getfield 13, 3) ∧ 10 + 3 = 13 := ⟨by decide +kernel, rfl⟩
theorem dX7_keep_13 : decode cX7_keep 13 = .ok (.sipush 159, 3) ∧ 13 + 3 = 16 := ⟨by decide +kernel, rfl⟩
theorem dX7_keep_16 : decode cX7_keep 16 = .ok (.aload_n 0, 1) ∧ 16 + 1 = 17 := ⟨by decide +kernel, rfl⟩
theorem dX7_keep_17 : decode cX7_keep 17 = .ok (.getfield 70, 3) ∧ 17 + 3 = 20 := ⟨by decide +kernel, rfl⟩
theorem dX7_keep_20 : decode cX7_keep 20 = .ok (.imul, 1) ∧ 20 + 1 = 21 := ⟨by decide +kernel, rfl⟩
theorem dX7_keep_21 : decode cX7_keep 21 = .ok (.iload_n 1, 1) ∧ 21 + 1 = 22 := ⟨by decide +kernel, rfl⟩
theorem dX7_keep_22 : decode cX7_keep 22 = .ok (.iadd, 1) ∧ 22 + 1 = 23 := ⟨by decide +kernel, rfl⟩
theorem dX7_keep_23 : decode cX7_keep 23 = .ok (.aload_n 0, 1) ∧ 23 + 1 = 24 := ⟨by decide +kernel, rfl⟩
theorem dX7_keep_24 : decode cX7_keep 24 = .ok (.getfield 7, 3) ∧ 24 + 3 = 27 := ⟨by decide +kernel, rfl⟩
theorem dX7_keep_27 : decode cX7_keep 27 = .ok (.iload_n 1, 1) ∧ 27 + 1 = 28 := ⟨by decide +kernel, rfl⟩
theorem dX7_keep_28 : decode cX7_keep 28 = .ok (.iaload, 1) ∧ 28 + 1 = 29 := ⟨by decide +kernel, rfl⟩
theorem dX7_keep_29 : decode cX7_keep 29 = .ok (.iastore, 1) ∧ 29 + 1 = 30 := ⟨by decide +kernel, rfl⟩
theorem dX7_keep_30 : decode cX7_keep 30 = .ok (.iinc 1 1, 3) ∧ 30 + 3 = 33 := ⟨by decide +kernel, rfl⟩
theorem dX7_keep_33 : decode cX7_keep 33 = .ok (.goto (-31), 3) ∧ ((33 : Nat) : Int) + (-31) = ((2 : Nat) : Int) := ⟨by decide +kernel, rfl⟩
theorem dX7_keep_36 : decode cX7_keep 36 = .ok (.aload_n 0, 1) ∧ 36 + 1 = 37 := ⟨by decide +kernel, rfl⟩
theorem dX7_keep_37 : decode cX7_keep 37 = .ok (.aload_n 0, 1) ∧ 37 + 1 = 38 := ⟨by decide +kernel, rfl⟩
theorem dX7_keep_38 : decode cX7_keep 38 = .ok (.getfield 70, 3) ∧ 38 + 3 = 41 := ⟨by decide +kernel, rfl⟩
theorem dX7_keep_41 : decode cX7_keep 41 = .ok (.iconst 1, 1) ∧ 41 + 1 = 42 := ⟨by decide +kernel, rfl⟩
theorem dX7_keep_42 : decode cX7_keep 42 = .ok (.iadd, 1) ∧ 42 + 1 = 43 := ⟨by decide +kernel, rfl⟩
theorem dX7_keep_43 : decode cX7_keep 43 = .ok (.bipush 24, 2) ∧ 43 + 2 = 45 := ⟨by decide +kernel, rfl⟩
theorem dX7_keep_45 : decode cX7_keep 45 = .ok (.irem, 1) ∧ 45 + 1 = 46 := ⟨by decide +kernel, rfl⟩
theorem dX7_keep_46 : decode cX7_keep 46 = .ok (.putfield 70, 3) ∧ 46 + 3 = 49 := ⟨by decide +kernel, rfl⟩
theorem dX7_keep_49 : decode cX7_keep 49 = .ok (.aload_n 0, 1) ∧ 49 + 1 = 50 := ⟨by decide +kernel, rfl⟩
theorem dX7_keep_50 : decode cX7_keep 50 = .ok (.aload_n 0, 1) ∧ 50 + 1 = 51 := ⟨by decide +kernel, rfl⟩
theorem dX7_keep_51 : decode cX7_keep 51 = .ok (.getfield 74, 3) ∧ 51 + 3 = 54 := ⟨by decide +kernel, rfl⟩
theorem dX7_keep_54 : decode cX7_keep 54 = .ok (.bipush 24, 2) ∧ 54 + 2 = 56 := ⟨by decide +kernel, rfl⟩
theorem dX7_keep_56 : decode cX7_keep 56 = .ok (.if_icmp .ge 12, 3) ∧ 56 + 3 = 59 ∧ ((56 : Nat) : Int) + 12 = ((68 : Nat) : Int) := ⟨by decide +kernel, rfl, rfl⟩
theorem dX7_keep_59 : decode cX7_keep 59 = .ok (.aload_n 0, 1) ∧ 59 + 1 = 60 := ⟨by decide +kernel, rfl⟩
theorem dX7_keep_60 : decode cX7_keep 60 = .ok (.getfield 74, 3) ∧ 60 + 3 = 63 := ⟨by decide +kernel, rfl⟩
theorem dX7_keep_63 : decode cX7_keep 63 = .ok (.iconst 1, 1) ∧ 63 + 1 = 64 := ⟨by decide +kernel, rfl⟩
theorem dX7_keep_64 : decode cX7_keep 64 = .ok (.iadd, 1) ∧ 64 + 1 = 65 := ⟨by decide +kernel, rfl⟩
theorem dX7_keep_65 : decode cX7_keep 65 = .ok (.goto 5, 3) ∧ ((65 : Nat) : Int) + 5 = ((70 : Nat) : Int) := ⟨by decide +kernel, rfl⟩
theorem dX7_keep_68 : decode cX7_keep 68 = .ok (.bipush 24, 2) ∧ 68 + 2 = 70 := ⟨by decide +kernel, rfl⟩
theorem dX7_keep_70 : decode cX7_keep 70 = .ok (.putfield 74, 3) ∧ 70 + 3 = 73 := ⟨by decide +kernel, rfl⟩
theorem dX7_keep_73 : decode cX7_keep 73 = .ok (.return_, 1) ∧ 73 + 1 = 74 := ⟨by decide +kernel, rfl⟩
theorem dX7_back_0 : decode cX7_back 0 = .ok (.iload_n 1, 1) ∧ 0 + 1 = 1 := ⟨by decide +kernel, rfl⟩
theorem dX7_back_1 : decode cX7_back 1 = .ok (.iconst 0, 1) ∧ 1 + 1 = 2 := ⟨by decide +kernel, rfl⟩
theorem dX7_back_2 : decode cX7_back 2 = .ok (.aload_n 0, 1) ∧ 2 + 1 = 3 := ⟨by decide +kernel, rfl⟩
theorem dX7_back_3 : decode cX7_back 3 = .ok (.getfield 74, 3) ∧ 3 + 3 = 6 := ⟨by decide +kernel, rfl⟩
theorem dX7_back_6 : decode cX7_back 6 = .ok (.invokestatic 66, 3) ∧ 6 + 3 = 9 := ⟨by decide +kernel, rfl⟩
theorem dX7_back_9 : decode cX7_back 9 = .ok (.ifCond .ne 6, 3) ∧ 9 + 3 = 12 ∧ ((9 : Nat) : Int) + 6 = ((15 : Nat) : Int) := ⟨by decide +kernel, rfl, rfl⟩
theorem dX7_back_12 : decode cX7_back 12 = .ok (.bipush (-2), 2) ∧ 12 + 2 = 14 := ⟨by decide +kernel, rfl⟩
theorem dX7_back_14 : decode cX7_back 14 = .ok (.ireturn, 1) ∧ 14 + 1 = 15 := ⟨by decide +kernel, rfl⟩
theorem dX7_back_15 : decode cX7_back 15 = .ok (.iload_n 1, 1) ∧ 15 + 1 = 16 := ⟨by decide +kernel, rfl⟩
theorem dX7_back_16 : decode cX7_back 16 = .ok (.ifCond .le 65, 3) ∧ 16 + 3 = 19 ∧ ((16 : Nat) : Int) + 65 = ((81 : Nat) : Int) := ⟨by decide +kernel, rfl, rfl⟩
theorem dX7_back_19 : decode cX7_back 19 = .ok (.aload_n 0, 1) ∧ 19 + 1 = 20 := ⟨by decide +kernel, rfl⟩
theorem dX7_back_20 : decode cX7_back 20 = .ok (.aload_n 0, 1) ∧ 20 + 1 = 21 := ⟨by decide +kernel, rfl⟩
theorem dX7_back_21 : decode cX7_back 21 = .ok (.getfield 70, 3) ∧ 21 + 3 = 24 := ⟨by decide +kernel, rfl⟩
theorem dX7_back_24 : decode cX7_back 24 = .ok (.iload_n 1, 1) ∧ 24 + 1 = 25 := ⟨by decide +kernel, rfl⟩
theorem dX7_back_25 : decode cX7_back 25 = .ok (.isub, 1) ∧ 25 + 1 = 26 := ⟨by decide +kernel, rfl⟩
theorem dX7_back_26 : decode cX7_back 26 = .ok (.bipush 24, 2) ∧ 26 + 2 = 28 := ⟨by decide +kernel, rfl⟩
theorem dX7_back_28 : decode cX7_back 28 = .ok (.iadd, 1) ∧ 28 + 1 = 29 := ⟨by decide +kernel, rfl⟩
theorem dX7_back_29 : decode cX7_back 29 = .ok (.bipush 24, 2) ∧ 29 + 2 = 31 := ⟨by decide +kernel, rfl⟩
theorem dX7_back_31 : decode cX7_back 31 = .ok (.irem, 1) ∧ 31 + 1 = 32 := ⟨by decide +kernel, rfl⟩
theorem dX7_back_32 : decode cX7_back 32 = .ok (.putfield 70, 3) ∧ 32 + 3 = 35 := ⟨by decide +kernel, rfl⟩
theorem dX7_back_35 : decode cX7_back 35 = .ok (.aload_n 0, 1) ∧ 35 + 1 = 36 := ⟨by decide +kernel, rfl⟩
theorem dX7_back_36 : decode cX7_back 36 = .ok (.dup, 1) ∧ 36 + 1 = 37 := ⟨by decide +kernel, rfl⟩
theorem dX7_back_37 : decode cX7_back 37 = .ok (.getfield 74, 3) ∧ 37 + 3 = 40 := ⟨by decide +kernel, rfl⟩
theorem dX7_back_40 : decode cX7_back 40 = .ok (.iload_n 1, 1) ∧ 40 + 1 = 41 := ⟨by decide +kernel, rfl⟩
theorem dX7_back_41 : decode cX7_back 41 = .ok (.isub, 1) ∧ 41 + 1 = 42 := ⟨by decide +kernel, rfl⟩
theorem dX7_back_42 : decode cX7_back 42 = .ok (.putfield 74, 3) ∧ 42 + 3 = 45 := ⟨by decide +kernel, rfl⟩
theorem dX7_back_45 : decode cX7_back 45 = .ok (.iconst 0, 1) ∧ 45 + 1 = 46 := ⟨by decide +kernel, rfl⟩
theorem dX7_back_46 : decode cX7_back 46 = .ok (.istore_n 2, 1) ∧ 46 + 1 = 47 := ⟨by decide +kernel, rfl⟩
theorem dX7_back_47 : decode cX7_back 47 = .ok (.iload_n 2, 1) ∧ 47 + 1 = 48 := ⟨by decide +kernel, rfl⟩
theorem dX7_back_48 : decode cX7_back 48 = .ok (.sipush 159, 3) ∧ 48 + 3 = 51 := ⟨by decide +kernel, rfl⟩
theorem dX7_back_51 : decode cX7_back 51 = .ok (.if_icmp .ge 30, 3) ∧ 51 + 3 = 54 ∧ ((51 : Nat) : Int) + 30 = ((81 : Nat) : Int) := ⟨by decide +kernel, rfl, rfl⟩
theorem dX7_back_54 : decode cX7_back 54 = .ok (.aload_n 0, 1) ∧ 54 + 1 = 55 := ⟨by decide +kernel, rfl⟩
theorem dX7_back_55 : decode cX7_back 55 = .ok (.getfield 7, 3) ∧ 55 + 3 = 58 := ⟨by decide +kernel, rfl⟩
theorem dX7_back_58 : decode cX7_back 58 = .ok (.iload_n 2, 1) ∧ 58 + 1 = 59 := ⟨by decide +kernel, rfl⟩
theorem dX7_back_59 : decode cX7_back 59 = .ok (.aload_n 0, 1) ∧ 59 + 1 = 60 := ⟨by decide +kernel, rfl⟩
theorem dX7_back_60 : decode cX7_back 60 = .ok (.getfield 13, 3) ∧ 60 + 3 = 63 := ⟨by decide +kernel, rfl⟩
theorem dX7_back_63 : decode cX7_back 63 = .ok (.sipush 159, 3) ∧ 63 + 3 = 66 := ⟨by decide +kernel, rfl⟩
theorem dX7_back_66 : decode cX7_back 66 = .ok (.aload_n 0, 1) ∧ 66 + 1 = 67 := ⟨by decide +kernel, rfl⟩
theorem dX7_back_67 : decode cX7_back 67 = .ok (.getfield 70, 3) ∧ 67 + 3 = 70 := ⟨by decide +kernel, rfl⟩
theorem dX7_back_70 : decode cX7_back 70 = .ok (.imul, 1) ∧ 70 + 1 = 71 := ⟨by decide +kernel, rfl⟩
theorem dX7_back_71 : decode cX7_back 71 = .ok (.iload_n 2, 1) ∧ 71 + 1 = 72 := ⟨by decide +kernel, rfl⟩
theorem dX7_back_72 : decode cX7_back 72 = .ok (.iadd, 1) ∧ 72 + 1 = 73 := ⟨by decide +kernel, rfl⟩
theorem dX7_back_73 : decode cX7_back 73 = .ok (.iaload, 1) ∧ 73 + 1 = 74 := ⟨by decide +kernel, rfl⟩
theorem dX7_back_74 : decode cX7_back 74 = .ok (.iastore, 1) ∧ 74 + 1 = 75 := ⟨by decide +kernel, rfl⟩
theorem dX7_back_75 : decode cX7_back 75 = .ok (.iinc 2 1, 3) ∧ 75 + 3 = 78 := ⟨by decide +kernel, rfl⟩
theorem dX7_back_78 : decode cX7_back 78 = .ok (.goto (-31), 3) ∧ ((78 : Nat) : Int) + (-31) = ((47 : Nat) : Int) := ⟨by decide +kernel, rfl⟩
theorem dX7_back_81 : decode cX7_back 81 = .ok (.aload_n 0, 1) ∧ 81 + 1 = 82 := ⟨by decide +kernel, rfl⟩
theorem dX7_back_82 : decode cX7_back 82 = .ok (.getfield 74, 3) ∧ 82 + 3 = 85 := ⟨by decide +kernel, rfl⟩
theorem dX7_back_85 : decode cX7_back 85 = .ok (.ireturn, 1) ∧ 85 + 1 = 86 := ⟨by decide +kernel, rfl⟩
theorem dX7_changes_0 : decode cX7_changes 0 = .ok (.aload_n 0, 1) ∧ 0 + 1 = 1 := ⟨by decide +kernel, rfl⟩
theorem dX7_changes_1 : decode cX7_changes 1 = .ok (.invokevirtual 77, 3) ∧ 1 + 3 = 4 := ⟨by decide +kernel, rfl⟩
theorem dX7_changes_4 : decode cX7_changes 4 = .ok (.aload_n 0, 1) ∧ 4 + 1 = 5 := ⟨by decide +kernel, rfl⟩
theorem dX7_changes_5 : decode cX7_changes 5 = .ok (.getfield 7, 3) ∧ 5 + 3 = 8 := ⟨by decide +kernel, rfl⟩
theorem dX7_changes_8 : decode cX7_changes 8 = .ok (.iload_n 1, 1) ∧ 8 + 1 = 9 := ⟨by decide +kernel, rfl⟩
theorem dX7_changes_9 : decode cX7_changes 9 = .ok (.iaload, 1) ∧ 9 + 1 = 10 := ⟨by decide +kernel, rfl⟩
theorem dX7_changes_10 : decode cX7_changes 10 = .ok (.istore_n 3, 1) ∧ 10 + 1 = 11 := ⟨by decide +kernel, rfl⟩
theorem dX7_changes_11 : decode cX7_changes 11 = .ok (.aload_n 0, 1) ∧ 11 + 1 = 12 := ⟨by decide +kernel, rfl⟩
theorem dX7_changes_12 : decode cX7_changes 12 = .ok (.getfield 7, 3) ∧ 12 + 3 = 15 := ⟨by decide +kernel, rfl⟩
theorem dX7_changes_15 : decode cX7_changes 15 = .ok (.iload_n 1, 1) ∧ 15 + 1 = 16 := ⟨by decide +kernel, rfl⟩
theorem dX7_changes_16 : decode cX7_changes 16 = .ok (.iload_n 2, 1) ∧ 16 + 1 = 17 := ⟨by decide +kernel, rfl⟩
theorem dX7_changes_17 : decode cX7_changes 17 = .ok (.iastore, 1) ∧ 17 + 1 = 18 := ⟨by decide +kernel, rfl⟩
theorem dX7_changes_18 : decode cX7_changes 18 = .ok (.iload_n 3, 1) ∧ 18 + 1 = 19 := ⟨by decide +kernel, rfl⟩
theorem dX7_changes_19 : decode cX7_changes 19 = .ok (.ireturn, 1) ∧ 19 + 1 = 20 := ⟨by decide +kernel, rfl⟩
theorem dX7_enter_0 : decode cX7_enter 0 = .ok (.iload_n 1, 1) ∧ 0 + 1 = 1 := ⟨by decide +kernel, rfl⟩
theorem dX7_enter_1 : decode cX7_enter 1 = .ok (.iconst 0, 1) ∧ 1 + 1 = 2 := ⟨by decide +kernel, rfl⟩
theorem dX7_enter_2 : decode cX7_enter 2 = .ok (.bipush 99, 2) ∧ 2 + 2 = 4 := ⟨by decide +kernel, rfl⟩
theorem dX7_enter_4 : decode cX7_enter 4 = .ok (.invokestatic 66, 3) ∧ 4 + 3 = 7 := ⟨by decide +kernel, rfl⟩
theorem dX7_enter_7 : decode cX7_enter 7 = .ok (.ifCond .eq 32, 3) ∧ 7 + 3 = 10 ∧ ((7 : Nat) : Int) + 32 = ((39 : Nat) : Int) := ⟨by decide +kernel, rfl, rfl⟩
theorem dX7_enter_10 : decode cX7_enter 10 = .ok (.iload_n 2, 1) ∧ 10 + 1 = 11 := ⟨by decide +kernel, rfl⟩
theorem dX7_enter_11 : decode cX7_enter 11 = .ok (.iconst 0, 1) ∧ 11 + 1 = 12 := ⟨by decide +kernel, rfl⟩
theorem dX7_enter_12 : decode cX7_enter 12 = .ok (.sipush 999, 3) ∧ 12 + 3 = 15 := ⟨by decide +kernel, rfl⟩
theorem dX7_enter_15 : decode cX7_enter 15 = .ok (.invokestatic 66, 3) ∧ 15 + 3 = 18 := ⟨by decide +kernel, rfl⟩
theorem dX7_enter_18 : decode cX7_enter 18 = .ok (.ifCond .eq 21, 3) ∧ 18 + 3 = 21 ∧ ((18 : Nat) : Int) + 21 = ((39 : Nat) : Int) := ⟨by decide +kernel, rfl, rfl⟩
theorem dX7_enter_21 : decode cX7_enter 21 = .ok (.iload_n 3, 1) ∧ 21 + 1 = 22 := ⟨by decide +kernel, rfl⟩
theorem dX7_enter_22 : decode cX7_enter 22 = .ok (.invokestatic 80, 3) ∧ 22 + 3 = 25 := ⟨by decide +kernel, rfl⟩
theorem dX7_enter_25 : decode cX7_enter 25 = .ok (.ifCond .eq 14, 3) ∧ 25 + 3 = 28 ∧ ((25 : Nat) : Int) + 14 = ((39 : Nat) : Int) := ⟨by decide +kernel, rfl, rfl⟩
theorem dX7_enter_28 : decode cX7_enter 28 = .ok (.iload 4, 2) ∧ 28 + 2 = 30 := ⟨by decide +kernel, rfl⟩
theorem dX7_enter_30 : decode cX7_enter 30 = .ok (.iconst 0, 1) ∧ 30 + 1 = 31 := ⟨by decide +kernel, rfl⟩
theorem dX7_enter_31 : decode cX7_enter 31 = .ok (.bipush 15, 2) ∧ 31 + 2 = 33 := ⟨by decide +kernel, rfl⟩
theorem dX7_enter_33 : decode cX7_enter 33 = .ok (.invokestatic 66, 3) ∧ 33 + 3 = 36 := ⟨by decide +kernel, rfl⟩
theorem dX7_enter_36 : decode cX7_enter 36 = .ok (.ifCond .ne 6, 3) ∧ 36 + 3 = 39 ∧ ((36 : Nat) : Int) + 6 = ((42 : Nat) : Int) := ⟨by decide +kernel, rfl, rfl⟩
theorem dX7_enter_39 : decode cX7_enter 39 = .ok (.bipush (-2), 2) ∧ 39 + 2 = 41 := ⟨by decide +kernel, rfl⟩
theorem dX7_enter_41 : decode cX7_enter 41 = .ok (.ireturn, 1) ∧ 41 + 1 = 42 := ⟨by decide +kernel, rfl⟩
theorem dX7_enter_42 : decode cX7_enter 42 = .ok (.aload_n 0, 1) ∧ 42 + 1 = 43 := ⟨by decide +kernel, rfl⟩
theorem dX7_enter_43 : decode cX7_enter 43 = .ok (.getfield 7, 3) ∧ 43 + 3 = 46 := ⟨by decide +kernel, rfl⟩
theorem dX7_enter_46 : decode cX7_enter 46 = .ok (.sipush 157, 3) ∧ 46 + 3 = 49 := ⟨by decide +kernel, rfl⟩
theorem dX7_enter_49 : decode cX7_enter 49 = .ok (.iaload, 1) ∧ 49 + 1 = 50 := ⟨by decide +kernel, rfl⟩
theorem dX7_enter_50 : decode cX7_enter 50 = .ok (.bipush 16, 2) ∧ 50 + 2 = 52 := ⟨by decide +kernel, rfl⟩
theorem dX7_enter_52 : decode cX7_enter 52 = .ok (.if_icmp .ne 6, 3) ∧ 52 + 3 = 55 ∧ ((52 : Nat) : Int) + 6 = ((58 : Nat) : Int) := ⟨by decide +kernel, rfl, rfl⟩
theorem dX7_enter_55 : decode cX7_enter 55 = .ok (.bipush (-4), 2) ∧ 55 + 2 = 57 := ⟨by decide +kernel, rfl⟩
theorem dX7_enter_57 : decode cX7_enter 57 = .ok (.ireturn, 1) ∧ 57 + 1 = 58 := ⟨by decide +kernel, rfl⟩
theorem dX7_enter_58 : decode cX7_enter 58 = .ok (.aload_n 0, 1) ∧ 58 + 1 = 59 := ⟨by decide +kernel, rfl⟩
theorem dX7_enter_59 : decode cX7_enter 59 = .ok (.invokevirtual 77, 3) ∧ 59 + 3 = 62 := ⟨by decide +kernel, rfl⟩
theorem dX7_enter_62 : decode cX7_enter 62 = .ok (.aload_n 0, 1) ∧ 62 + 1 = 63 := ⟨by decide +kernel, rfl⟩
theorem dX7_enter_63 : decode cX7_enter 63 = .ok (.getfield 7, 3) ∧ 63 + 3 = 66 := ⟨by decide +kernel, rfl⟩
theorem dX7_enter_66 : decode cX7_enter 66 = .ok (.sipush 157, 3) ∧ 66 + 3 = 69 := ⟨by decide +kernel, rfl⟩
theorem dX7_enter_69 : decode cX7_enter 69 = .ok (.iaload, 1) ∧ 69 + 1 = 70 := ⟨by decide +kernel, rfl⟩
theorem dX7_enter_70 : decode cX7_enter 70 = .ok (.istore 5, 2) ∧ 70 + 2 = 72 := ⟨by decide +kernel, rfl⟩
theorem dX7_enter_72 : decode cX7_enter 72 = .ok (.aload_n 0, 1) ∧ 72 + 1 = 73 := ⟨by decide +kernel, rfl⟩
theorem dX7_enter_73 : decode cX7_enter 73 = .ok (.getfield 7, 3) ∧ 73 + 3 = 76 := ⟨by decide +kernel, rfl⟩
theorem dX7_enter_76 : decode cX7_enter 76 = .ok (.sipush 157, 3) ∧ 76 + 3 = 79 := ⟨by decide +kernel, rfl⟩
theorem dX7_enter_79 : decode cX7_enter 79 = .ok (.iload 5, 2) ∧ 79 + 2 = 81 := ⟨by decide +kernel, rfl⟩
theorem dX7_enter_81 : decode cX7_enter 81 = .ok (.iconst 1, 1) ∧ 81 + 1 = 82 := ⟨by decide +kernel, rfl⟩
theorem dX7_enter_82 : decode cX7_enter 82 = .ok (.iadd, 1) ∧ 82 + 1 = 83 := ⟨by decide +kernel, rfl⟩
theorem dX7_enter_83 : decode cX7_enter 83 = .ok (.iastore, 1) ∧ 83 + 1 = 84 := ⟨by decide +kernel, rfl⟩
theorem dX7_enter_84 : decode cX7_enter 84 = .ok (.aload_n 0, 1) ∧ 84 + 1 = 85 := ⟨by decide +kernel, rfl⟩
theorem dX7_enter_85 : decode cX7_enter 85 = .ok (.iload 5, 2) ∧ 85 + 2 = 87 := ⟨by decide +kernel, rfl⟩
theorem dX7_enter_87 : decode cX7_enter 87 = .ok (.iconst 0, 1) ∧ 87 + 1 = 88 := ⟨by decide +kernel, rfl⟩
theorem dX7_enter_88 : decode cX7_enter 88 = .ok (.iload_n 1, 1) ∧ 88 + 1 = 89 := ⟨by decide +kernel, rfl⟩
theorem dX7_enter_89 : decode cX7_enter 89 = .ok (.invokevirtual 84, 3) ∧ 89 + 3 = 92 := ⟨by decide +kernel, rfl⟩
theorem dX7_enter_92 : decode cX7_enter 92 = .ok (.aload_n 0, 1) ∧ 92 + 1 = 93 := ⟨by decide +kernel, rfl⟩
theorem dX7_enter_93 : decode cX7_enter 93 = .ok (.iload 5, 2) ∧ 93 + 2 = 95 := ⟨by decide +kernel, rfl⟩
theorem dX7_enter_95 : decode cX7_enter 95 = .ok (.iconst 1, 1) ∧ 95 + 1 = 96 := ⟨by decide +kernel, rfl⟩
theorem dX7_enter_96 : decode cX7_enter 96 = .ok (.iload_n 2, 1) ∧ 96 + 1 = 97 := ⟨by decide +kernel, rfl⟩
theorem dX7_enter_97 : decode cX7_enter 97 = .ok (.invokevirtual 84, 3) ∧ 97 + 3 = 100 := ⟨by decide +kernel, rfl⟩
theorem dX7_enter_100 : decode cX7_enter 100 = .ok (.aload_n 0, 1) ∧ 100 + 1 = 101 := ⟨by decide +kernel, rfl⟩
theorem dX7_enter_101 : decode cX7_enter 101 = .ok (.iload 5, 2) ∧ 101 + 2 = 103 := ⟨by decide +kernel, rfl⟩
theorem dX7_enter_103 : decode cX7_enter 103 = .ok (.iconst 2, 1) ∧ 103 + 1 = 104 := ⟨by decide +kernel, rfl⟩
theorem dX7_enter_104 : decode cX7_enter 104 = .ok (.iload_n 3, 1) ∧ 104 + 1 = 105 := ⟨by decide +kernel, rfl⟩
theorem dX7_enter_105 : decode cX7_enter 105 = .ok (.invokevirtual 84, 3) ∧ 105 + 3 = 108 := ⟨by decide +kernel, rfl⟩
theorem dX7_enter_108 : decode cX7_enter 108 = .ok (.aload_n 0, 1) ∧ 108 + 1 = 109 := ⟨by decide +kernel, rfl⟩
theorem dX7_enter_109 : decode cX7_enter 109 = .ok (.iload 5, 2) ∧ 109 + 2 = 111 := ⟨by decide +kernel, rfl⟩
theorem dX7_enter_111 : decode cX7_enter 111 = .ok (.iconst 3, 1) ∧ 111 + 1 = 112 := ⟨by decide +kernel, rfl⟩
theorem dX7_enter_112 : decode cX7_enter 112 = .ok (.iload 4, 2) ∧ 112 + 2 = 114 := ⟨by decide +kernel, rfl⟩
theorem dX7_enter_114 : decode cX7_enter 114 = .ok (.invokevirtual 84, 3) ∧ 114 + 3 = 117 := ⟨by decide +kernel, rfl⟩
theorem dX7_enter_117 : decode cX7_enter 117 = .ok (.aload_n 0, 1) ∧ 117 + 1 = 118 := ⟨by decide +kernel, rfl⟩
theorem dX7_enter_118 : decode cX7_enter 118 = .ok (.iload 5, 2) ∧ 118 + 2 = 120 := ⟨by decide +kernel, rfl⟩
theorem dX7_enter_120 : decode cX7_enter 120 = .ok (.iconst 4, 1) ∧ 120 + 1 = 121 := ⟨by decide +kernel, rfl⟩
theorem dX7_enter_121 : decode cX7_enter 121 = .ok (.iconst 0, 1) ∧ 121 + 1 = 122 := ⟨by decide +kernel, rfl⟩
theorem dX7_enter_122 : decode cX7_enter 122 = .ok (.invokevirtual 84, 3) ∧ 122 + 3 = 125 := ⟨by decide +kernel, rfl⟩
theorem dX7_enter_125 : decode cX7_enter 125 = .ok (.aload_n 0, 1) ∧ 125 + 1 = 126 := ⟨by decide +kernel, rfl⟩
theorem dX7_enter_126 : decode cX7_enter 126 = .ok (.iload 5, 2) ∧ 126 + 2 = 128 := ⟨by decide +kernel, rfl⟩
theorem dX7_enter_128 : decode cX7_enter 128 = .ok (.invokevirtual 88, 3) ∧ 128 + 3 = 131 := ⟨by decide +kernel, rfl⟩
theorem dX7_enter_131 : decode cX7_enter 131 = .ok (.iload 5, 2) ∧ 131 + 2 = 133 := ⟨by decide +kernel, rfl⟩
theorem dX7_enter_133 : decode cX7_enter 133 = .ok (.ireturn, 1) ∧ 133 + 1 = 134 := ⟨by decide +kernel, rfl⟩
theorem dX7_forgets_0 : decode cX7_forgets 0 = .ok (.aload_n 0, 1) ∧ 0 + 1 = 1 := ⟨by decide +kernel, rfl⟩
theorem dX7_forgets_1 : decode cX7_forgets 1 = .ok (.iload_n 1, 1) ∧ 1 + 1 = 2 := ⟨by decide +kernel, rfl⟩
theorem dX7_forgets_2 : decode cX7_forgets 2 = .ok (.iconst 5, 1) ∧ 2 + 1 = 3 := ⟨by decide +kernel, rfl⟩
theorem dX7_forgets_3 : decode cX7_forgets 3 = .ok (.bipush (-9), 2) ∧ 3 + 2 = 5 := ⟨by decide +kernel, rfl⟩
theorem dX7_forgets_5 : decode cX7_forgets 5 = .ok (.invokevirtual 84, 3) ∧ 5 + 3 = 8 := ⟨by decide +kernel, rfl⟩
theorem dX7_forgets_8 : decode cX7_forgets 8 = .ok (.aload_n 0, 1) ∧ 8 + 1 = 9 := ⟨by decide +kernel, rfl⟩
theorem dX7_forgets_9 : decode cX7_forgets 9 = .ok (.iload_n 1, 1) ∧ 9 + 1 = 10 := ⟨by decide +kernel, rfl⟩
theorem dX7_forgets_10 : decode cX7_forgets 10 = .ok (.bipush 6, 2) ∧ 10 + 2 = 12 := ⟨by decide +kernel, rfl⟩
theorem dX7_forgets_12 : decode cX7_forgets 12 = .ok (.bipush (-9), 2) ∧ 12 + 2 = 14 := ⟨by decide +kernel, rfl⟩
theorem dX7_forgets_14 : decode cX7_forgets 14 = .ok (.invokevirtual 84, 3) ∧ 14 + 3 = 17 := ⟨by decide +kernel, rfl⟩
theorem dX7_forgets_17 : decode cX7_forgets 17 = .ok (.aload_n 0, 1) ∧ 17 + 1 = 18 := ⟨by decide +kernel, rfl⟩
theorem dX7_forgets_18 : decode cX7_forgets 18 = .ok (.iload_n 1, 1) ∧ 18 + 1 = 19 := ⟨by decide +kernel, rfl⟩
theorem dX7_forgets_19 : decode cX7_forgets 19 = .ok (.bipush 7, 2) ∧ 19 + 2 = 21 := ⟨by decide +kernel, rfl⟩
theorem dX7_forgets_21 : decode cX7_forgets 21 = .ok (.bipush (-9), 2) ∧ 21 + 2 = 23 := ⟨by decide +kernel, rfl⟩
theorem dX7_forgets_23 : decode cX7_forgets 23 = .ok (.invokevirtual 84, 3) ∧ 23 + 3 = 26 := ⟨by decide +kernel, rfl⟩
theorem dX7_forgets_26 : decode cX7_forgets 26 = .ok (.return_, 1) ∧ 26 + 1 = 27 := ⟨by decide +kernel, rfl⟩
theorem dX7_personal_0 : decode cX7_personal 0 = .ok (.aload_n 0, 1) ∧ 0 + 1 = 1 := ⟨by decide +kernel, rfl⟩
theorem dX7_personal_1 : decode cX7_personal 1 = .ok (.iload_n 1, 1) ∧ 1 + 1 = 2 := ⟨by decide +kernel, rfl⟩
theorem dX7_personal_2 : decode cX7_personal 2 = .ok (.invokevirtual 92, 3) ∧ 2 + 3 = 5 := ⟨by decide +kernel, rfl⟩
theorem dX7_personal_5 : decode cX7_personal 5 = .ok (.ifCond .ne 5, 3) ∧ 5 + 3 = 8 ∧ ((5 : Nat) : Int) + 5 = ((10 : Nat) : Int) := ⟨by decide +kernel, rfl, rfl⟩
theorem dX7_personal_8 : decode cX7_personal 8 = .ok (.iconst (-1), 1) ∧ 8 + 1 = 9 := ⟨by decide +kernel, rfl⟩
theorem dX7_personal_9 : decode cX7_personal 9 = .ok (.ireturn, 1) ∧ 9 + 1 = 10 := ⟨by decide +kernel, rfl⟩
theorem dX7_personal_10 : decode cX7_personal 10 = .ok (.iload_n 3, 1) ∧ 10 + 1 = 11 := ⟨by decide +kernel, rfl⟩
theorem dX7_personal_11 : decode cX7_personal 11 = .ok (.iconst 0, 1) ∧ 11 + 1 = 12 := ⟨by decide +kernel, rfl⟩
theorem dX7_personal_12 : decode cX7_personal 12 = .ok (.iload 4, 2) ∧ 12 + 2 = 14 := ⟨by decide +kernel, rfl⟩
theorem dX7_personal_14 : decode cX7_personal 14 = .ok (.invokestatic 66, 3) ∧ 14 + 3 = 17 := ⟨by decide +kernel, rfl⟩
theorem dX7_personal_17 : decode cX7_personal 17 = .ok (.ifCond .ne 6, 3) ∧ 17 + 3 = 20 ∧ ((17 : Nat) : Int) + 6 = ((23 : Nat) : Int) := ⟨by decide +kernel, rfl, rfl⟩
theorem dX7_personal_20 : decode cX7_personal 20 = .ok (.bipush (-2), 2) ∧ 20 + 2 = 22 := ⟨by decide +kernel, rfl⟩
theorem dX7_personal_22 : decode cX7_personal 22 = .ok (.ireturn, 1) ∧ 22 + 1 = 23 := ⟨by decide +kernel, rfl⟩
theorem dX7_personal_23 : decode cX7_personal 23 = .ok (.aload_n 0, 1) ∧ 23 + 1 = 24 := ⟨by decide +kernel, rfl⟩
theorem dX7_personal_24 : decode cX7_personal 24 = .ok (.bipush 8, 2) ∧ 24 + 2 = 26 := ⟨by decide +kernel, rfl⟩
theorem dX7_personal_26 : decode cX7_personal 26 = .ok (.iload_n 1, 1) ∧ 26 + 1 = 27 := ⟨by decide +kernel, rfl⟩
theorem dX7_personal_27 : decode cX7_personal 27 = .ok (.imul, 1) ∧ 27 + 1 = 28 := ⟨by decide +kernel, rfl⟩
theorem dX7_personal_28 : decode cX7_personal 28 = .ok (.iload_n 2, 1) ∧ 28 + 1 = 29 := ⟨by decide +kernel, rfl⟩
theorem dX7_personal_29 : decode cX7_personal 29 = .ok (.iadd, 1) ∧ 29 + 1 = 30 := ⟨by decide +kernel, rfl⟩
theorem dX7_personal_30 : decode cX7_personal 30 = .ok (.iload_n 3, 1) ∧ 30 + 1 = 31 := ⟨by decide +kernel, rfl⟩
theorem dX7_personal_31 : decode cX7_personal 31 = .ok (.invokevirtual 95, 3) ∧ 31 + 3 = 34 := ⟨by decide +kernel, rfl⟩
theorem dX7_personal_34 : decode cX7_personal 34 = .ok (.ireturn, 1) ∧ 34 + 1 = 35 := ⟨by decide +kernel, rfl⟩
theorem dX7_mark_0 : decode cX7_mark 0 = .ok (.aload_n 0, 1) ∧ 0 + 1 = 1 := ⟨by decide +kernel, rfl⟩
theorem dX7_mark_1 : decode cX7_mark 1 = .ok (.iload_n 1, 1) ∧ 1 + 1 = 2 := ⟨by decide +kernel, rfl⟩
theorem dX7_mark_2 : decode cX7_mark 2 = .ok (.iconst 0, 1) ∧ 2 + 1 = 3 := ⟨by decide +kernel, rfl⟩
theorem dX7_mark_3 : decode cX7_mark 3 = .ok (.iload_n 2, 1) ∧ 3 + 1 = 4 := ⟨by decide +kernel, rfl⟩
theorem dX7_mark_4 : decode cX7_mark 4 = .ok (.bipush 99, 2) ∧ 4 + 2 = 6 := ⟨by decide +kernel, rfl⟩
theorem dX7_mark_6 : decode cX7_mark 6 = .ok (.invokevirtual 99, 3) ∧ 6 + 3 = 9 := ⟨by decide +kernel, rfl⟩
theorem dX7_mark_9 : decode cX7_mark 9 = .ok (.ireturn, 1) ∧ 9 + 1 = 10 := ⟨by decide +kernel, rfl⟩
theorem dX7_ticket_0 : decode cX7_ticket 0 = .ok (.aload_n 0, 1) ∧ 0 + 1 = 1 := ⟨by decide +kernel, rfl⟩
theorem dX7_ticket_1 : decode cX7_ticket 1 = .ok (.iload_n 1, 1) ∧ 1 + 1 = 2 := ⟨by decide +kernel, rfl⟩
theorem dX7_ticket_2 : decode cX7_ticket 2 = .ok (.iconst 1, 1) ∧ 2 + 1 = 3 := ⟨by decide +kernel, rfl⟩
theorem dX7_ticket_3 : decode cX7_ticket 3 = .ok (.iload_n 2, 1) ∧ 3 + 1 = 4 := ⟨by decide +kernel, rfl⟩
theorem dX7_ticket_4 : decode cX7_ticket 4 = .ok (.sipush 999, 3) ∧ 4 + 3 = 7 := ⟨by decide +kernel, rfl⟩
theorem dX7_ticket_7 : decode cX7_ticket 7 = .ok (.invokevirtual 99, 3) ∧ 7 + 3 = 10 := ⟨by decide +kernel, rfl⟩
theorem dX7_ticket_10 : decode cX7_ticket 10 = .ok (.ireturn, 1) ∧ 10 + 1 = 11 := ⟨by decide +kernel, rfl⟩
theorem dX7_kind_0 : decode cX7_kind 0 = .ok (.aload_n 0, 1) ∧ 0 + 1 = 1 := ⟨by decide +kernel, rfl⟩
theorem dX7_kind_1 : decode cX7_kind 1 = .ok (.iload_n 1, 1) ∧ 1 + 1 = 2 := ⟨by decide +kernel, rfl⟩
theorem dX7_kind_2 : decode cX7_kind 2 = .ok (.iconst 2, 1) ∧ 2 + 1 = 3 := ⟨by decide +kernel, rfl⟩
theorem dX7_kind_3 : decode cX7_kind 3 = .ok (.iload_n 2, 1) ∧ 3 + 1 = 4 := ⟨by decide +kernel, rfl⟩
theorem dX7_kind_4 : decode cX7_kind 4 = .ok (.iconst 3, 1) ∧ 4 + 1 = 5 := ⟨by decide +kernel, rfl⟩
theorem dX7_kind_5 : decode cX7_kind 5 = .ok (.invokevirtual 99, 3) ∧ 5 + 3 = 8 := ⟨by decide +kernel, rfl⟩
theorem dX7_kind_8 : decode cX7_kind 8 = .ok (.ireturn, 1) ∧ 8 + 1 = 9 := ⟨by decide +kernel, rfl⟩
theorem dX7_groups_0 : decode cX7_groups 0 = .ok (.aload_n 0, 1) ∧ 0 + 1 = 1 := ⟨by decide +kernel, rfl⟩
theorem dX7_groups_1 : decode cX7_groups 1 = .ok (.iload_n 1, 1) ∧ 1 + 1 = 2 := ⟨by decide +kernel, rfl⟩
theorem dX7_groups_2 : decode cX7_groups 2 = .ok (.iconst 3, 1) ∧ 2 + 1 = 3 := ⟨by decide +kernel, rfl⟩
theorem dX7_groups_3 : decode cX7_groups 3 = .ok (.iload_n 2, 1) ∧ 3 + 1 = 4 := ⟨by decide +kernel, rfl⟩
theorem dX7_groups_4 : decode cX7_groups 4 = .ok (.bipush 15, 2) ∧ 4 + 2 = 6 := ⟨by decide +kernel, rfl⟩
theorem dX7_groups_6 : decode cX7_groups 6 = .ok (.invokevirtual 99, 3) ∧ 6 + 3 = 9 := ⟨by decide +kernel, rfl⟩
theorem dX7_groups_9 : decode cX7_groups 9 = .ok (.ireturn, 1) ∧ 9 + 1 = 10 := ⟨by decide +kernel, rfl⟩
theorem dX7_isAhead_0 : decode cX7_isAhead 0 = .ok (.aload_n 0, 1) ∧ 0 + 1 = 1 := ⟨by decide +kernel, rfl⟩
theorem dX7_isAhead_1 : decode cX7_isAhead 1 = .ok (.iload_n 1, 1) ∧ 1 + 1 = 2 := ⟨by decide +kernel, rfl⟩
theorem dX7_isAhead_2 : decode cX7_isAhead 2 = .ok (.iconst 0, 1) ∧ 2 + 1 = 3 := ⟨by decide +kernel, rfl⟩
theorem dX7_isAhead_3 : decode cX7_isAhead 3 = .ok (.invokevirtual 103, 3) ∧ 3 + 3 = 6 := ⟨by decide +kernel, rfl⟩
theorem dX7_isAhead_6 : decode cX7_isAhead 6 = .ok (.aload_n 0, 1) ∧ 6 + 1 = 7 := ⟨by decide +kernel, rfl⟩
theorem dX7_isAhead_7 : decode cX7_isAhead 7 = .ok (.iload_n 2, 1) ∧ 7 + 1 = 8 := ⟨by decide +kernel, rfl⟩
theorem dX7_isAhead_8 : decode cX7_isAhead 8 = .ok (.iconst 0, 1) ∧ 8 + 1 = 9 := ⟨by decide +kernel, rfl⟩
theorem dX7_isAhead_9 : decode cX7_isAhead 9 = .ok (.invokevirtual 103, 3) ∧ 9 + 3 = 12 := ⟨by decide +kernel, rfl⟩
theorem dX7_isAhead_12 : decode cX7_isAhead 12 = .ok (.if_icmp .eq 24, 3) ∧ 12 + 3 = 15 ∧ ((12 : Nat) : Int) + 24 = ((36 : Nat) : Int) := ⟨by decide +kernel, rfl, rfl⟩
theorem dX7_isAhead_15 : decode cX7_isAhead 15 = .ok (.aload_n 0, 1) ∧ 15 + 1 = 16 := ⟨by decide +kernel, rfl⟩
theorem dX7_isAhead_16 : decode cX7_isAhead 16 = .ok (.iload_n 1, 1) ∧ 16 + 1 = 17 := ⟨by decide +kernel, rfl⟩
theorem dX7_isAhead_17 : decode cX7_isAhead 17 = .ok (.iconst 0, 1) ∧ 17 + 1 = 18 := ⟨by decide +kernel, rfl⟩
theorem dX7_isAhead_18 : decode cX7_isAhead 18 = .ok (.invokevirtual 103, 3) ∧ 18 + 3 = 21 := ⟨by decide +kernel, rfl⟩
theorem dX7_isAhead_21 : decode cX7_isAhead 21 = .ok (.aload_n 0, 1) ∧ 21 + 1 = 22 := ⟨by decide +kernel, rfl⟩
theorem dX7_isAhead_22 : decode cX7_isAhead 22 = .ok (.iload_n 2, 1) ∧ 22 + 1 = 23 := ⟨by decide +kernel, rfl⟩
theorem dX7_isAhead_23 : decode cX7_isAhead 23 = .ok (.iconst 0, 1) ∧ 23 + 1 = 24 := ⟨by decide +kernel, rfl⟩
theorem dX7_isAhead_24 : decode cX7_isAhead 24 = .ok (.invokevirtual 103, 3) ∧ 24 + 3 = 27 := ⟨by decide +kernel, rfl⟩
theorem dX7_isAhead_27 : decode cX7_isAhead 27 = .ok (.if_icmp .le 7, 3) ∧ 27 + 3 = 30 ∧ ((27 : Nat) : Int) + 7 = ((34 : Nat) : Int) := ⟨by decide +kernel, rfl, rfl⟩
theorem dX7_isAhead_30 : decode cX7_isAhead 30 = .ok (.iconst 1, 1) ∧ 30 + 1 = 31 := ⟨by decide +kernel, rfl⟩
theorem dX7_isAhead_31 : decode cX7_isAhead 31 = .ok (.goto 4, 3) ∧ ((31 : Nat) : Int) + 4 = ((35 : Nat) : Int) := ⟨by decide +kernel, rfl⟩
theorem dX7_isAhead_34 : decode cX7_isAhead 34 = .ok (.iconst 0, 1) ∧ 34 + 1 = 35 := ⟨by decide +kernel, rfl⟩
theorem dX7_isAhead_35 : decode cX7_isAhead 35 = .ok (.ireturn, 1) ∧ 35 + 1 = 36 := ⟨by decide +kernel, rfl⟩
theorem dX7_isAhead_36 : decode cX7_isAhead 36 = .ok (.aload_n 0, 1) ∧ 36 + 1 = 37 := ⟨by decide +kernel, rfl⟩
theorem dX7_isAhead_37 : decode cX7_isAhead 37 = .ok (.iload_n 1, 1) ∧ 37 + 1 = 38 := ⟨by decide +kernel, rfl⟩
theorem dX7_isAhead_38 : decode cX7_isAhead 38 = .ok (.iconst 1, 1) ∧ 38 + 1 = 39 := ⟨by decide +kernel, rfl⟩
theorem dX7_isAhead_39 : decode cX7_isAhead 39 = .ok (.invokevirtual 103, 3) ∧ 39 + 3 = 42 := ⟨by decide +kernel, rfl⟩
theorem dX7_isAhead_42 : decode cX7_isAhead 42 = .ok (.aload_n 0, 1) ∧ 42 + 1 = 43 := ⟨by decide +kernel, rfl⟩
theorem dX7_isAhead_43 : decode cX7_isAhead 43 = .ok (.iload_n 2, 1) ∧ 43 + 1 = 44 := ⟨by decide +kernel, rfl⟩
theorem dX7_isAhead_44 : decode cX7_isAhead 44 = .ok (.iconst 1, 1) ∧ 44 + 1 = 45 := ⟨by decide +kernel, rfl⟩
theorem dX7_isAhead_45 : decode cX7_isAhead 45 = .ok (.invokevirtual 103, 3) ∧ 45 + 3 = 48 := ⟨by decide +kernel, rfl⟩
theorem dX7_isAhead_48 : decode cX7_isAhead 48 = .ok (.if_icmp .eq 24, 3) ∧ 48 + 3 = 51 ∧ ((48 : Nat) : Int) + 24 = ((72 : Nat) : Int) := ⟨by decide +kernel, rfl, rfl⟩
theorem dX7_isAhead_51 : decode cX7_isAhead 51 = .ok (.aload_n 0, 1) ∧ 51 + 1 = 52 := ⟨by decide +kernel, rfl⟩
theorem dX7_isAhead_52 : decode cX7_isAhead 52 = .ok (.iload_n 1, 1) ∧ 52 + 1 = 53 := ⟨by decide +kernel, rfl⟩
theorem dX7_isAhead_53 : decode cX7_isAhead 53 = .ok (.iconst 1, 1) ∧ 53 + 1 = 54 := ⟨by decide +kernel, rfl⟩
theorem dX7_isAhead_54 : decode cX7_isAhead 54 = .ok (.invokevirtual 103, 3) ∧ 54 + 3 = 57 := ⟨by decide +kernel, rfl⟩
theorem dX7_isAhead_57 : decode cX7_isAhead 57 = .ok (.aload_n 0, 1) ∧ 57 + 1 = 58 := ⟨by decide +kernel, rfl⟩
theorem dX7_isAhead_58 : decode cX7_isAhead 58 = .ok (.iload_n 2, 1) ∧ 58 + 1 = 59 := ⟨by decide +kernel, rfl⟩
theorem dX7_isAhead_59 : decode cX7_isAhead 59 = .ok (.iconst 1, 1) ∧ 59 + 1 = 60 := ⟨by decide +kernel, rfl⟩
theorem dX7_isAhead_60 : decode cX7_isAhead 60 = .ok (.invokevirtual 103, 3) ∧ 60 + 3 = 63 := ⟨by decide +kernel, rfl⟩
theorem dX7_isAhead_63 : decode cX7_isAhead 63 = .ok (.if_icmp .ge 7, 3) ∧ 63 + 3 = 66 ∧ ((63 : Nat) : Int) + 7 = ((70 : Nat) : Int) := ⟨by decide +kernel, rfl, rfl⟩
theorem dX7_isAhead_66 : decode cX7_isAhead 66 = .ok (.iconst 1, 1) ∧ 66 + 1 = 67 := ⟨by decide +kernel, rfl⟩
theorem dX7_isAhead_67 : decode cX7_isAhead 67 = .ok (.goto 4, 3) ∧ ((67 : Nat) : Int) + 4 = ((71 : Nat) : Int) := ⟨by decide +kernel, rfl⟩
theorem dX7_isAhead_70 : decode cX7_isAhead 70 = .ok (.iconst 0, 1) ∧ 70 + 1 = 71 := ⟨by decide +kernel, rfl⟩
theorem dX7_isAhead_71 : decode cX7_isAhead 71 = .ok (.ireturn, 1) ∧ 71 + 1 = 72 := ⟨by decide +kernel, rfl⟩
theorem dX7_isAhead_72 : decode cX7_isAhead 72 = .ok (.iload_n 1, 1) ∧ 72 + 1 = 73 := ⟨by decide +kernel, rfl⟩
theorem dX7_isAhead_73 : decode cX7_isAhead 73 = .ok (.iload_n 2, 1) ∧ 73 + 1 = 74 := ⟨by decide +kernel, rfl⟩
theorem dX7_isAhead_74 : decode cX7_isAhead 74 = .ok (.if_icmp .ge 7, 3) ∧ 74 + 3 = 77 ∧ ((74 : Nat) : Int) + 7 = ((81 : Nat) : Int) := ⟨by decide +kernel, rfl, rfl⟩
theorem dX7_isAhead_77 : decode cX7_isAhead 77 = .ok (.iconst 1, 1) ∧ 77 + 1 = 78 := ⟨by decide +kernel, rfl⟩
theorem dX7_isAhead_78 : decode cX7_isAhead 78 = .ok (.goto 4, 3) ∧ ((78 : Nat) : Int) + 4 = ((82 : Nat) : Int) := ⟨by decide +kernel, rfl⟩
theorem dX7_isAhead_81 : decode cX7_isAhead 81 = .ok (.iconst 0, 1) ∧ 81 + 1 = 82 := ⟨by decide +kernel, rfl⟩
theorem dX7_isAhead_82 : decode cX7_isAhead 82 = .ok (.ireturn, 1) ∧ 82 + 1 = 83 := ⟨by decide +kernel, rfl⟩
theorem dX7_aheadOf_0 : decode cX7_aheadOf 0 = .ok (.iconst 0, 1) ∧ 0 + 1 = 1 := ⟨by decide +kernel, rfl⟩
theorem dX7_aheadOf_1 : decode cX7_aheadOf 1 = .ok (.istore_n 2, 1) ∧ 1 + 1 = 2 := ⟨by decide +kernel, rfl⟩
theorem dX7_aheadOf_2 : decode cX7_aheadOf 2 = .ok (.iconst 0, 1) ∧ 2 + 1 = 3 := ⟨by decide +kernel, rfl⟩
theorem dX7_aheadOf_3 : decode cX7_aheadOf 3 = .ok (.istore_n 3, 1) ∧ 3 + 1 = 4 := ⟨by decide +kernel, rfl⟩
theorem dX7_aheadOf_4 : decode cX7_aheadOf 4 = .ok (.iload_n 3, 1) ∧ 4 + 1 = 5 := ⟨by decide +kernel, rfl⟩
theorem dX7_aheadOf_5 : decode cX7_aheadOf 5 = .ok (.aload_n 0, 1) ∧ 5 + 1 = 6 := ⟨by decide +kernel, rfl⟩
theorem dX7_aheadOf_6 : decode cX7_aheadOf 6 = .ok (.getfield 7, 3) ∧ 6 + 3 = 9 := ⟨by decide +kernel, rfl⟩
theorem dX7_aheadOf_9 : decode cX7_aheadOf 9 = .ok (.sipush 157, 3) ∧ 9 + 3 = 12 := ⟨by decide +kernel, rfl⟩
theorem dX7_aheadOf_12 : decode cX7_aheadOf 12 = .ok (.iaload, 1) ∧ 12 + 1 = 13 := ⟨by decide +kernel, rfl⟩
theorem dX7_aheadOf_13 : decode cX7_aheadOf 13 = .ok (.if_icmp .ge 26, 3) ∧ 13 + 3 = 16 ∧ ((13 : Nat) : Int) + 26 = ((39 : Nat) : Int) := ⟨by decide +kernel, rfl, rfl⟩
theorem dX7_aheadOf_16 : decode cX7_aheadOf 16 = .ok (.iload_n 2, 1) ∧ 16 + 1 = 17 := ⟨by decide +kernel, rfl⟩
theorem dX7_aheadOf_17 : decode cX7_aheadOf 17 = .ok (.aload_n 0, 1) ∧ 17 + 1 = 18 := ⟨by decide +kernel, rfl⟩
theorem dX7_aheadOf_18 : decode cX7_aheadOf 18 = .ok (.iload_n 3, 1) ∧ 18 + 1 = 19 := ⟨by decide +kernel, rfl⟩
theorem dX7_aheadOf_19 : decode cX7_aheadOf 19 = .ok (.iload_n 1, 1) ∧ 19 + 1 = 20 := ⟨by decide +kernel, rfl⟩
theorem dX7_aheadOf_20 : decode cX7_aheadOf 20 = .ok (.invokevirtual 106, 3) ∧ 20 + 3 = 23 := ⟨by decide +kernel, rfl⟩
theorem dX7_aheadOf_23 : decode cX7_aheadOf 23 = .ok (.ifCond .eq 7, 3) ∧ 23 + 3 = 26 ∧ ((23 : Nat) : Int) + 7 = ((30 : Nat) : Int) := ⟨by decide +kernel, rfl, rfl⟩
theorem dX7_aheadOf_26 : decode cX7_aheadOf 26 = .ok (.iconst 1, 1) ∧ 26 + 1 = 27 := ⟨by decide +kernel, rfl⟩
theorem dX7_aheadOf_27 : decode cX7_aheadOf 27 = .ok (.goto 4, 3) ∧ ((27 : Nat) : Int) + 4 = ((31 : Nat) : Int) := ⟨by decide +kernel, rfl⟩
theorem dX7_aheadOf_30 : decode cX7_aheadOf 30 = .ok (.iconst 0, 1) ∧ 30 + 1 = 31 := ⟨by decide +kernel, rfl⟩
theorem dX7_aheadOf_31 : decode cX7_aheadOf 31 = .ok (.iadd, 1) ∧ 31 + 1 = 32 := ⟨by decide +kernel, rfl⟩
theorem dX7_aheadOf_32 : decode cX7_aheadOf 32 = .ok (.istore_n 2, 1) ∧ 32 + 1 = 33 := ⟨by decide +kernel, rfl⟩
theorem dX7_aheadOf_33 : decode cX7_aheadOf 33 = .ok (.iinc 3 1, 3) ∧ 33 + 3 = 36 := ⟨by decide +kernel, rfl⟩
theorem dX7_aheadOf_36 : decode cX7_aheadOf 36 = .ok (.goto (-32), 3) ∧ ((36 : Nat) : Int) + (-32) = ((4 : Nat) : Int) := ⟨by decide +kernel, rfl⟩
theorem dX7_aheadOf_39 : decode cX7_aheadOf 39 = .ok (.iload_n 2, 1) ∧ 39 + 1 = 40 := ⟨by decide +kernel, rfl⟩
theorem dX7_aheadOf_40 : decode cX7_aheadOf 40 = .ok (.ireturn, 1) ∧ 40 + 1 = 41 := ⟨by decide +kernel, rfl⟩
theorem dX7_ofPerson_0 : decode cX7_ofPerson 0 = .ok (.aload_n 0, 1) ∧ 0 + 1 = 1 := ⟨by decide +kernel, rfl⟩
theorem dX7_ofPerson_1 : decode cX7_ofPerson 1 = .ok (.iload_n 1, 1) ∧ 1 + 1 = 2 := ⟨by decide +kernel, rfl⟩
theorem dX7_ofPerson_2 : decode cX7_ofPerson 2 = .ok (.invokevirtual 92, 3) ∧ 2 + 3 = 5 := ⟨by decide +kernel, rfl⟩
theorem dX7_ofPerson_5 : decode cX7_ofPerson 5 = .ok (.ifCond .ne 5, 3) ∧ 5 + 3 = 8 ∧ ((5 : Nat) : Int) + 5 = ((10 : Nat) : Int) := ⟨by decide +kernel, rfl, rfl⟩
theorem dX7_ofPerson_8 : decode cX7_ofPerson 8 = .ok (.iconst (-1), 1) ∧ 8 + 1 = 9 := ⟨by decide +kernel, rfl⟩
theorem dX7_ofPerson_9 : decode cX7_ofPerson 9 = .ok (.ireturn, 1) ∧ 9 + 1 = 10 := ⟨by decide +kernel, rfl⟩
theorem dX7_ofPerson_10 : decode cX7_ofPerson 10 = .ok (.iload_n 2, 1) ∧ 10 + 1 = 11 := ⟨by decide +kernel, rfl⟩
theorem dX7_ofPerson_11 : decode cX7_ofPerson 11 = .ok (.iconst 0, 1) ∧ 11 + 1 = 12 := ⟨by decide +kernel, rfl⟩
theorem dX7_ofPerson_12 : decode cX7_ofPerson 12 = .ok (.iconst 5, 1) ∧ 12 + 1 = 13 := ⟨by decide +kernel, rfl⟩
theorem dX7_ofPerson_13 : decode cX7_ofPerson 13 = .ok (.invokestatic 66, 3) ∧ 13 + 3 = 16 := ⟨by decide +kernel, rfl⟩
theorem dX7_ofPerson_16 : decode cX7_ofPerson 16 = .ok (.ifCond .ne 6, 3) ∧ 16 + 3 = 19 ∧ ((16 : Nat) : Int) + 6 = ((22 : Nat) : Int) := ⟨by decide +kernel, rfl, rfl⟩
theorem dX7_ofPerson_19 : decode cX7_ofPerson 19 = .ok (.bipush (-2), 2) ∧ 19 + 2 = 21 := ⟨by decide +kernel, rfl⟩
theorem dX7_ofPerson_21 : decode cX7_ofPerson 21 = .ok (.ireturn, 1) ∧ 21 + 1 = 22 := ⟨by decide +kernel, rfl⟩
theorem dX7_ofPerson_22 : decode cX7_ofPerson 22 = .ok (.iload_n 2, 1) ∧ 22 + 1 = 23 := ⟨by decide +kernel, rfl⟩
theorem dX7_ofPerson_23 : decode cX7_ofPerson 23 = .ok (.iconst 5, 1) ∧ 23 + 1 = 24 := ⟨by decide +kernel, rfl⟩
theorem dX7_ofPerson_24 : decode cX7_ofPerson 24 = .ok (.if_icmp .ne 11, 3) ∧ 24 + 3 = 27 ∧ ((24 : Nat) : Int) + 11 = ((35 : Nat) : Int) := ⟨by decide +kernel, rfl, rfl⟩
theorem dX7_ofPerson_27 : decode cX7_ofPerson 27 = .ok (.aload_n 0, 1) ∧ 27 + 1 = 28 := ⟨by decide +kernel, rfl⟩
theorem dX7_ofPerson_28 : decode cX7_ofPerson 28 = .ok (.iload_n 1, 1) ∧ 28 + 1 = 29 := ⟨by decide +kernel, rfl⟩
theorem dX7_ofPerson_29 : decode cX7_ofPerson 29 = .ok (.invokevirtual 110, 3) ∧ 29 + 3 = 32 := ⟨by decide +kernel, rfl⟩
theorem dX7_ofPerson_32 : decode cX7_ofPerson 32 = .ok (.goto 9, 3) ∧ ((32 : Nat) : Int) + 9 = ((41 : Nat) : Int) := ⟨by decide +kernel, rfl⟩
theorem dX7_ofPerson_35 : decode cX7_ofPerson 35 = .ok (.aload_n 0, 1) ∧ 35 + 1 = 36 := ⟨by decide +kernel, rfl⟩
theorem dX7_ofPerson_36 : decode cX7_ofPerson 36 = .ok (.iload_n 1, 1) ∧ 36 + 1 = 37 := ⟨by decide +kernel, rfl⟩
theorem dX7_ofPerson_37 : decode cX7_ofPerson 37 = .ok (.iload_n 2, 1) ∧ 37 + 1 = 38 := ⟨by decide +kernel, rfl⟩
theorem dX7_ofPerson_38 : decode cX7_ofPerson 38 = .ok (.invokevirtual 103, 3) ∧ 38 + 3 = 41 := ⟨by decide +kernel, rfl⟩
theorem dX7_ofPerson_41 : decode cX7_ofPerson 41 = .ok (.ireturn, 1) ∧ 41 + 1 = 42 := ⟨by decide +kernel, rfl⟩
theorem dX7_ranked_0 : decode cX7_ranked 0 = .ok (.iload_n 1, 1) ∧ 0 + 1 = 1 := ⟨by decide +kernel, rfl⟩
theorem dX7_ranked_1 : decode cX7_ranked 1 = .ok (.iconst 0, 1) ∧ 1 + 1 = 2 := ⟨by decide +kernel, rfl⟩
theorem dX7_ranked_2 : decode cX7_ranked 2 = .ok (.bipush 15, 2) ∧ 2 + 2 = 4 := ⟨by decide +kernel, rfl⟩
theorem dX7_ranked_4 : decode cX7_ranked 4 = .ok (.invokestatic 66, 3) ∧ 4 + 3 = 7 := ⟨by decide +kernel, rfl⟩
theorem dX7_ranked_7 : decode cX7_ranked 7 = .ok (.ifCond .ne 6, 3) ∧ 7 + 3 = 10 ∧ ((7 : Nat) : Int) + 6 = ((13 : Nat) : Int) := ⟨by decide +kernel, rfl, rfl⟩
theorem dX7_ranked_10 : decode cX7_ranked 10 = .ok (.bipush (-2), 2) ∧ 10 + 2 = 12 := ⟨by decide +kernel, rfl⟩
theorem dX7_ranked_12 : decode cX7_ranked 12 = .ok (.ireturn, 1) ∧ 12 + 1 = 13 := ⟨by decide +kernel, rfl⟩
theorem dX7_ranked_13 : decode cX7_ranked 13 = .ok (.iconst 0, 1) ∧ 13 + 1 = 14 := ⟨by decide +kernel, rfl⟩
theorem dX7_ranked_14 : decode cX7_ranked 14 = .ok (.istore_n 2, 1) ∧ 14 + 1 = 15 := ⟨by decide +kernel, rfl⟩
theorem dX7_ranked_15 : decode cX7_ranked 15 = .ok (.iload_n 2, 1) ∧ 15 + 1 = 16 := ⟨by decide +kernel, rfl⟩
theorem dX7_ranked_16 : decode cX7_ranked 16 = .ok (.aload_n 0, 1) ∧ 16 + 1 = 17 := ⟨by decide +kernel, rfl⟩
theorem dX7_ranked_17 : decode cX7_ranked 17 = .ok (.getfield 7, 3) ∧ 17 + 3 = 20 := ⟨by decide +kernel, rfl⟩
theorem dX7_ranked_20 : decode cX7_ranked 20 = .ok (.sipush 157, 3) ∧ 20 + 3 = 23 := ⟨by decide +kernel, rfl⟩
theorem dX7_ranked_23 : decode cX7_ranked 23 = .ok (.iaload, 1) ∧ 23 + 1 = 24 := ⟨by decide +kernel, rfl⟩
theorem dX7_ranked_24 : decode cX7_ranked 24 = .ok (.if_icmp .ge 20, 3) ∧ 24 + 3 = 27 ∧ ((24 : Nat) : Int) + 20 = ((44 : Nat) : Int) := ⟨by decide +kernel, rfl, rfl⟩
theorem dX7_ranked_27 : decode cX7_ranked 27 = .ok (.aload_n 0, 1) ∧ 27 + 1 = 28 := ⟨by decide +kernel, rfl⟩
theorem dX7_ranked_28 : decode cX7_ranked 28 = .ok (.iload_n 2, 1) ∧ 28 + 1 = 29 := ⟨by decide +kernel, rfl⟩
theorem dX7_ranked_29 : decode cX7_ranked 29 = .ok (.invokevirtual 110, 3) ∧ 29 + 3 = 32 := ⟨by decide +kernel, rfl⟩
theorem dX7_ranked_32 : decode cX7_ranked 32 = .ok (.iload_n 1, 1) ∧ 32 + 1 = 33 := ⟨by decide +kernel, rfl⟩
theorem dX7_ranked_33 : decode cX7_ranked 33 = .ok (.if_icmp .ne 5, 3) ∧ 33 + 3 = 36 ∧ ((33 : Nat) : Int) + 5 = ((38 : Nat) : Int) := ⟨by decide +kernel, rfl, rfl⟩
theorem dX7_ranked_36 : decode cX7_ranked 36 = .ok (.iload_n 2, 1) ∧ 36 + 1 = 37 := ⟨by decide +kernel, rfl⟩
theorem dX7_ranked_37 : decode cX7_ranked 37 = .ok (.ireturn, 1) ∧ 37 + 1 = 38 := ⟨by decide +kernel, rfl⟩
theorem dX7_ranked_38 : decode cX7_ranked 38 = .ok (.iinc 2 1, 3) ∧ 38 + 3 = 41 := ⟨by decide +kernel, rfl⟩
theorem dX7_ranked_41 : decode cX7_ranked 41 = .ok (.goto (-26), 3) ∧ ((41 : Nat) : Int) + (-26) = ((15 : Nat) : Int) := ⟨by decide +kernel, rfl⟩
theorem dX7_ranked_44 : decode cX7_ranked 44 = .ok (.bipush (-9), 2) ∧ 44 + 2 = 46 := ⟨by decide +kernel, rfl⟩
theorem dX7_ranked_46 : decode cX7_ranked 46 = .ok (.ireturn, 1) ∧ 46 + 1 = 47 := ⟨by decide +kernel, rfl⟩
theorem dX7_above_0 : decode cX7_above 0 = .ok (.iload_n 1, 1) ∧ 0 + 1 = 1 := ⟨by decide +kernel, rfl⟩
theorem dX7_above_1 : decode cX7_above 1 = .ok (.iconst 0, 1) ∧ 1 + 1 = 2 := ⟨by decide +kernel, rfl⟩
theorem dX7_above_2 : decode cX7_above 2 = .ok (.bipush 99, 2) ∧ 2 + 2 = 4 := ⟨by decide +kernel, rfl⟩
theorem dX7_above_4 : decode cX7_above 4 = .ok (.invokestatic 66, 3) ∧ 4 + 3 = 7 := ⟨by decide +kernel, rfl⟩
theorem dX7_above_7 : decode cX7_above 7 = .ok (.ifCond .ne 6, 3) ∧ 7 + 3 = 10 ∧ ((7 : Nat) : Int) + 6 = ((13 : Nat) : Int) := ⟨by decide +kernel, rfl, rfl⟩
theorem dX7_above_10 : decode cX7_above 10 = .ok (.bipush (-2), 2) ∧ 10 + 2 = 12 := ⟨by decide +kernel, rfl⟩
theorem dX7_above_12 : decode cX7_above 12 = .ok (.ireturn, 1) ∧ 12 + 1 = 13 := ⟨by decide +kernel, rfl⟩
theorem dX7_above_13 : decode cX7_above 13 = .ok (.bipush (-9), 2) ∧ 13 + 2 = 15 := ⟨by decide +kernel, rfl⟩
theorem dX7_above_15 : decode cX7_above 15 = .ok (.istore_n 2, 1) ∧ 15 + 1 = 16 := ⟨by decide +kernel, rfl⟩
theorem dX7_above_16 : decode cX7_above 16 = .ok (.iconst 0, 1) ∧ 16 + 1 = 17 := ⟨by decide +kernel, rfl⟩
theorem dX7_above_17 : decode cX7_above 17 = .ok (.istore_n 3, 1) ∧ 17 + 1 = 18 := ⟨by decide +kernel, rfl⟩
theorem dX7_above_18 : decode cX7_above 18 = .ok (.iload_n 3, 1) ∧ 18 + 1 = 19 := ⟨by decide +kernel, rfl⟩
theorem dX7_above_19 : decode cX7_above 19 = .ok (.aload_n 0, 1) ∧ 19 + 1 = 20 := ⟨by decide +kernel, rfl⟩
theorem dX7_above_20 : decode cX7_above 20 = .ok (.getfield 7, 3) ∧ 20 + 3 = 23 := ⟨by decide +kernel, rfl⟩
theorem dX7_above_23 : decode cX7_above 23 = .ok (.sipush 157, 3) ∧ 23 + 3 = 26 := ⟨by decide +kernel, rfl⟩
theorem dX7_above_26 : decode cX7_above 26 = .ok (.iaload, 1) ∧ 26 + 1 = 27 := ⟨by decide +kernel, rfl⟩
theorem dX7_above_27 : decode cX7_above 27 = .ok (.if_icmp .ge 42, 3) ∧ 27 + 3 = 30 ∧ ((27 : Nat) : Int) + 42 = ((69 : Nat) : Int) := ⟨by decide +kernel, rfl, rfl⟩
theorem dX7_above_30 : decode cX7_above 30 = .ok (.aload_n 0, 1) ∧ 30 + 1 = 31 := ⟨by decide +kernel, rfl⟩
theorem dX7_above_31 : decode cX7_above 31 = .ok (.iload_n 3, 1) ∧ 31 + 1 = 32 := ⟨by decide +kernel, rfl⟩
theorem dX7_above_32 : decode cX7_above 32 = .ok (.iconst 0, 1) ∧ 32 + 1 = 33 := ⟨by decide +kernel, rfl⟩
theorem dX7_above_33 : decode cX7_above 33 = .ok (.invokevirtual 103, 3) ∧ 33 + 3 = 36 := ⟨by decide +kernel, rfl⟩
theorem dX7_above_36 : decode cX7_above 36 = .ok (.istore 4, 2) ∧ 36 + 2 = 38 := ⟨by decide +kernel, rfl⟩
theorem dX7_above_38 : decode cX7_above 38 = .ok (.iload 4, 2) ∧ 38 + 2 = 40 := ⟨by decide +kernel, rfl⟩
theorem dX7_above_40 : decode cX7_above 40 = .ok (.iload_n 1, 1) ∧ 40 + 1 = 41 := ⟨by decide +kernel, rfl⟩
theorem dX7_above_41 : decode cX7_above 41 = .ok (.if_icmp .le 20, 3) ∧ 41 + 3 = 44 ∧ ((41 : Nat) : Int) + 20 = ((61 : Nat) : Int) := ⟨by decide +kernel, rfl, rfl⟩
theorem dX7_above_44 : decode cX7_above 44 = .ok (.iload_n 2, 1) ∧ 44 + 1 = 45 := ⟨by decide +kernel, rfl⟩
theorem dX7_above_45 : decode cX7_above 45 = .ok (.bipush (-9), 2) ∧ 45 + 2 = 47 := ⟨by decide +kernel, rfl⟩
theorem dX7_above_47 : decode cX7_above 47 = .ok (.if_icmp .eq 9, 3) ∧ 47 + 3 = 50 ∧ ((47 : Nat) : Int) + 9 = ((56 : Nat) : Int) := ⟨by decide +kernel, rfl, rfl⟩
theorem dX7_above_50 : decode cX7_above 50 = .ok (.iload 4, 2) ∧ 50 + 2 = 52 := ⟨by decide +kernel, rfl⟩
theorem dX7_above_52 : decode cX7_above 52 = .ok (.iload_n 2, 1) ∧ 52 + 1 = 53 := ⟨by decide +kernel, rfl⟩
theorem dX7_above_53 : decode cX7_above 53 = .ok (.if_icmp .ge 8, 3) ∧ 53 + 3 = 56 ∧ ((53 : Nat) : Int) + 8 = ((61 : Nat) : Int) := ⟨by decide +kernel, rfl, rfl⟩
theorem dX7_above_56 : decode cX7_above 56 = .ok (.iload 4, 2) ∧ 56 + 2 = 58 := ⟨by decide +kernel, rfl⟩
theorem dX7_above_58 : decode cX7_above 58 = .ok (.goto 4, 3) ∧ ((58 : Nat) : Int) + 4 = ((62 : Nat) : Int) := ⟨by decide +kernel, rfl⟩
theorem dX7_above_61 : decode cX7_above 61 = .ok (.iload_n 2, 1) ∧ 61 + 1 = 62 := ⟨by decide +kernel, rfl⟩
theorem dX7_above_62 : decode cX7_above 62 = .ok (.istore_n 2, 1) ∧ 62 + 1 = 63 := ⟨by decide +kernel, rfl⟩
theorem dX7_above_63 : decode cX7_above 63 = .ok (.iinc 3 1, 3) ∧ 63 + 3 = 66 := ⟨by decide +kernel, rfl⟩
theorem dX7_above_66 : decode cX7_above 66 = .ok (.goto (-48), 3) ∧ ((66 : Nat) : Int) + (-48) = ((18 : Nat) : Int) := ⟨by decide +kernel, rfl⟩
theorem dX7_above_69 : decode cX7_above 69 = .ok (.iload_n 2, 1) ∧ 69 + 1 = 70 := ⟨by decide +kernel, rfl⟩
theorem dX7_above_70 : decode cX7_above 70 = .ok (.ireturn, 1) ∧ 70 + 1 = 71 := ⟨by decide +kernel, rfl⟩
theorem dX7_alike_0 : decode cX7_alike 0 = .ok (.iload_n 1, 1) ∧ 0 + 1 = 1 := ⟨by decide +kernel, rfl⟩
theorem dX7_alike_1 : decode cX7_alike 1 = .ok (.iconst 0, 1) ∧ 1 + 1 = 2 := ⟨by decide +kernel, rfl⟩
theorem dX7_alike_2 : decode cX7_alike 2 = .ok (.bipush 99, 2) ∧ 2 + 2 = 4 := ⟨by decide +kernel, rfl⟩
theorem dX7_alike_4 : decode cX7_alike 4 = .ok (.invokestatic 66, 3) ∧ 4 + 3 = 7 := ⟨by decide +kernel, rfl⟩
theorem dX7_alike_7 : decode cX7_alike 7 = .ok (.ifCond .ne 6, 3) ∧ 7 + 3 = 10 ∧ ((7 : Nat) : Int) + 6 = ((13 : Nat) : Int) := ⟨by decide +kernel, rfl, rfl⟩
theorem dX7_alike_10 : decode cX7_alike 10 = .ok (.bipush (-2), 2) ∧ 10 + 2 = 12 := ⟨by decide +kernel, rfl⟩
theorem dX7_alike_12 : decode cX7_alike 12 = .ok (.ireturn, 1) ∧ 12 + 1 = 13 := ⟨by decide +kernel, rfl⟩
theorem dX7_alike_13 : decode cX7_alike 13 = .ok (.iconst 0, 1) ∧ 13 + 1 = 14 := ⟨by decide +kernel, rfl⟩
theorem dX7_alike_14 : decode cX7_alike 14 = .ok (.istore_n 2, 1) ∧ 14 + 1 = 15 := ⟨by decide +kernel, rfl⟩
theorem dX7_alike_15 : decode cX7_alike 15 = .ok (.iconst 0, 1) ∧ 15 + 1 = 16 := ⟨by decide +kernel, rfl⟩
theorem dX7_alike_16 : decode cX7_alike 16 = .ok (.istore_n 3, 1) ∧ 16 + 1 = 17 := ⟨by decide +kernel, rfl⟩
theorem dX7_alike_17 : decode cX7_alike 17 = .ok (.iload_n 3, 1) ∧ 17 + 1 = 18 := ⟨by decide +kernel, rfl⟩
theorem dX7_alike_18 : decode cX7_alike 18 = .ok (.aload_n 0, 1) ∧ 18 + 1 = 19 := ⟨by decide +kernel, rfl⟩
theorem dX7_alike_19 : decode cX7_alike 19 = .ok (.getfield 7, 3) ∧ 19 + 3 = 22 := ⟨by decide +kernel, rfl⟩
theorem dX7_alike_22 : decode cX7_alike 22 = .ok (.sipush 157, 3) ∧ 22 + 3 = 25 := ⟨by decide +kernel, rfl⟩
theorem dX7_alike_25 : decode cX7_alike 25 = .ok (.iaload, 1) ∧ 25 + 1 = 26 := ⟨by decide +kernel, rfl⟩
theorem dX7_alike_26 : decode cX7_alike 26 = .ok (.if_icmp .ge 27, 3) ∧ 26 + 3 = 29 ∧ ((26 : Nat) : Int) + 27 = ((53 : Nat) : Int) := ⟨by decide +kernel, rfl, rfl⟩
theorem dX7_alike_29 : decode cX7_alike 29 = .ok (.iload_n 2, 1) ∧ 29 + 1 = 30 := ⟨by decide +kernel, rfl⟩
theorem dX7_alike_30 : decode cX7_alike 30 = .ok (.aload_n 0, 1) ∧ 30 + 1 = 31 := ⟨by decide +kernel, rfl⟩
theorem dX7_alike_31 : decode cX7_alike 31 = .ok (.iload_n 3, 1) ∧ 31 + 1 = 32 := ⟨by decide +kernel, rfl⟩
theorem dX7_alike_32 : decode cX7_alike 32 = .ok (.iconst 0, 1) ∧ 32 + 1 = 33 := ⟨by decide +kernel, rfl⟩
theorem dX7_alike_33 : decode cX7_alike 33 = .ok (.invokevirtual 103, 3) ∧ 33 + 3 = 36 := ⟨by decide +kernel, rfl⟩
theorem dX7_alike_36 : decode cX7_alike 36 = .ok (.iload_n 1, 1) ∧ 36 + 1 = 37 := ⟨by decide +kernel, rfl⟩
theorem dX7_alike_37 : decode cX7_alike 37 = .ok (.if_icmp .ne 7, 3) ∧ 37 + 3 = 40 ∧ ((37 : Nat) : Int) + 7 = ((44 : Nat) : Int) := ⟨by decide +kernel, rfl, rfl⟩
theorem dX7_alike_40 : decode cX7_alike 40 = .ok (.iconst 1, 1) ∧ 40 + 1 = 41 := ⟨by decide +kernel, rfl⟩
theorem dX7_alike_41 : decode cX7_alike 41 = .ok (.goto 4, 3) ∧ ((41 : Nat) : Int) + 4 = ((45 : Nat) : Int) := ⟨by decide +kernel, rfl⟩
theorem dX7_alike_44 : decode cX7_alike 44 = .ok (.iconst 0, 1) ∧ 44 + 1 = 45 := ⟨by decide +kernel, rfl⟩
theorem dX7_alike_45 : decode cX7_alike 45 = .ok (.iadd, 1) ∧ 45 + 1 = 46 := ⟨by decide +kernel, rfl⟩
theorem dX7_alike_46 : decode cX7_alike 46 = .ok (.istore_n 2, 1) ∧ 46 + 1 = 47 := ⟨by decide +kernel, rfl⟩
theorem dX7_alike_47 : decode cX7_alike 47 = .ok (.iinc 3 1, 3) ∧ 47 + 3 = 50 := ⟨by decide +kernel, rfl⟩
theorem dX7_alike_50 : decode cX7_alike 50 = .ok (.goto (-33), 3) ∧ ((50 : Nat) : Int) + (-33) = ((17 : Nat) : Int) := ⟨by decide +kernel, rfl⟩
theorem dX7_alike_53 : decode cX7_alike 53 = .ok (.iload_n 2, 1) ∧ 53 + 1 = 54 := ⟨by decide +kernel, rfl⟩
theorem dX7_alike_54 : decode cX7_alike 54 = .ok (.ireturn, 1) ∧ 54 + 1 = 55 := ⟨by decide +kernel, rfl⟩
theorem dX7_seats_0 : decode cX7_seats 0 = .ok (.iload_n 1, 1) ∧ 0 + 1 = 1 := ⟨by decide +kernel, rfl⟩
theorem dX7_seats_1 : decode cX7_seats 1 = .ok (.invokestatic 80, 3) ∧ 1 + 3 = 4 := ⟨by decide +kernel, rfl⟩
theorem dX7_seats_4 : decode cX7_seats 4 = .ok (.ifCond .ne 5, 3) ∧ 4 + 3 = 7 ∧ ((4 : Nat) : Int) + 5 = ((9 : Nat) : Int) := ⟨by decide +kernel, rfl, rfl⟩
theorem dX7_seats_7 : decode cX7_seats 7 = .ok (.iconst (-1), 1) ∧ 7 + 1 = 8 := ⟨by decide +kernel, rfl⟩
theorem dX7_seats_8 : decode cX7_seats 8 = .ok (.ireturn, 1) ∧ 8 + 1 = 9 := ⟨by decide +kernel, rfl⟩
theorem dX7_seats_9 : decode cX7_seats 9 = .ok (.iload_n 2, 1) ∧ 9 + 1 = 10 := ⟨by decide +kernel, rfl⟩
theorem dX7_seats_10 : decode cX7_seats 10 = .ok (.iconst 0, 1) ∧ 10 + 1 = 11 := ⟨by decide +kernel, rfl⟩
theorem dX7_seats_11 : decode cX7_seats 11 = .ok (.bipush 9, 2) ∧ 11 + 2 = 13 := ⟨by decide +kernel, rfl⟩
theorem dX7_seats_13 : decode cX7_seats 13 = .ok (.invokestatic 66, 3) ∧ 13 + 3 = 16 := ⟨by decide +kernel, rfl⟩
theorem dX7_seats_16 : decode cX7_seats 16 = .ok (.ifCond .eq 16, 3) ∧ 16 + 3 = 19 ∧ ((16 : Nat) : Int) + 16 = ((32 : Nat) : Int) := ⟨by decide +kernel, rfl, rfl⟩
theorem dX7_seats_19 : decode cX7_seats 19 = .ok (.aload_n 0, 1) ∧ 19 + 1 = 20 := ⟨by decide +kernel, rfl⟩
theorem dX7_seats_20 : decode cX7_seats 20 = .ok (.sipush 128, 3) ∧ 20 + 3 = 23 := ⟨by decide +kernel, rfl⟩
theorem dX7_seats_23 : decode cX7_seats 23 = .ok (.iload_n 1, 1) ∧ 23 + 1 = 24 := ⟨by decide +kernel, rfl⟩
theorem dX7_seats_24 : decode cX7_seats 24 = .ok (.iadd, 1) ∧ 24 + 1 = 25 := ⟨by decide +kernel, rfl⟩
theorem dX7_seats_25 : decode cX7_seats 25 = .ok (.iload_n 2, 1) ∧ 25 + 1 = 26 := ⟨by decide +kernel, rfl⟩
theorem dX7_seats_26 : decode cX7_seats 26 = .ok (.invokevirtual 95, 3) ∧ 26 + 3 = 29 := ⟨by decide +kernel, rfl⟩
theorem dX7_seats_29 : decode cX7_seats 29 = .ok (.goto 5, 3) ∧ ((29 : Nat) : Int) + 5 = ((34 : Nat) : Int) := ⟨by decide +kernel, rfl⟩
theorem dX7_seats_32 : decode cX7_seats 32 = .ok (.bipush (-2), 2) ∧ 32 + 2 = 34 := ⟨by decide +kernel, rfl⟩
theorem dX7_seats_34 : decode cX7_seats 34 = .ok (.ireturn, 1) ∧ 34 + 1 = 35 := ⟨by decide +kernel, rfl⟩
theorem dX7_reserve_0 : decode cX7_reserve 0 = .ok (.iload_n 1, 1) ∧ 0 + 1 = 1 := ⟨by decide +kernel, rfl⟩
theorem dX7_reserve_1 : decode cX7_reserve 1 = .ok (.invokestatic 80, 3) ∧ 1 + 3 = 4 := ⟨by decide +kernel, rfl⟩
theorem dX7_reserve_4 : decode cX7_reserve 4 = .ok (.ifCond .eq 12, 3) ∧ 4 + 3 = 7 ∧ ((4 : Nat) : Int) + 12 = ((16 : Nat) : Int) := ⟨by decide +kernel, rfl, rfl⟩
theorem dX7_reserve_7 : decode cX7_reserve 7 = .ok (.iload_n 2, 1) ∧ 7 + 1 = 8 := ⟨by decide +kernel, rfl⟩
theorem dX7_reserve_8 : decode cX7_reserve 8 = .ok (.iconst 0, 1) ∧ 8 + 1 = 9 := ⟨by decide +kernel, rfl⟩
theorem dX7_reserve_9 : decode cX7_reserve 9 = .ok (.iconst 3, 1) ∧ 9 + 1 = 10 := ⟨by decide +kernel, rfl⟩
theorem dX7_reserve_10 : decode cX7_reserve 10 = .ok (.invokestatic 66, 3) ∧ 10 + 3 = 13 := ⟨by decide +kernel, rfl⟩
theorem dX7_reserve_13 : decode cX7_reserve 13 = .ok (.ifCond .ne 5, 3) ∧ 13 + 3 = 16 ∧ ((13 : Nat) : Int) + 5 = ((18 : Nat) : Int) := ⟨by decide +kernel, rfl, rfl⟩
theorem dX7_reserve_16 : decode cX7_reserve 16 = .ok (.iconst (-1), 1) ∧ 16 + 1 = 17 := ⟨by decide +kernel, rfl⟩
theorem dX7_reserve_17 : decode cX7_reserve 17 = .ok (.ireturn, 1) ∧ 17 + 1 = 18 := ⟨by decide +kernel, rfl⟩
theorem dX7_reserve_18 : decode cX7_reserve 18 = .ok (.iload_n 3, 1) ∧ 18 + 1 = 19 := ⟨by decide +kernel, rfl⟩
theorem dX7_reserve_19 : decode cX7_reserve 19 = .ok (.iconst 0, 1) ∧ 19 + 1 = 20 := ⟨by decide +kernel, rfl⟩
theorem dX7_reserve_20 : decode cX7_reserve 20 = .ok (.iconst 5, 1) ∧ 20 + 1 = 21 := ⟨by decide +kernel, rfl⟩
theorem dX7_reserve_21 : decode cX7_reserve 21 = .ok (.invokestatic 66, 3) ∧ 21 + 3 = 24 := ⟨by decide +kernel, rfl⟩
theorem dX7_reserve_24 : decode cX7_reserve 24 = .ok (.ifCond .eq 20, 3) ∧ 24 + 3 = 27 ∧ ((24 : Nat) : Int) + 20 = ((44 : Nat) : Int) := ⟨by decide +kernel, rfl, rfl⟩
theorem dX7_reserve_27 : decode cX7_reserve 27 = .ok (.aload_n 0, 1) ∧ 27 + 1 = 28 := ⟨by decide +kernel, rfl⟩
theorem dX7_reserve_28 : decode cX7_reserve 28 = .ok (.sipush 132, 3) ∧ 28 + 3 = 31 := ⟨by decide +kernel, rfl⟩
theorem dX7_reserve_31 : decode cX7_reserve 31 = .ok (.iconst 4, 1) ∧ 31 + 1 = 32 := ⟨by decide +kernel, rfl⟩
theorem dX7_reserve_32 : decode cX7_reserve 32 = .ok (.iload_n 1, 1) ∧ 32 + 1 = 33 := ⟨by decide +kernel, rfl⟩
theorem dX7_reserve_33 : decode cX7_reserve 33 = .ok (.imul, 1) ∧ 33 + 1 = 34 := ⟨by decide +kernel, rfl⟩
theorem dX7_reserve_34 : decode cX7_reserve 34 = .ok (.iadd, 1) ∧ 34 + 1 = 35 := ⟨by decide +kernel, rfl⟩
theorem dX7_reserve_35 : decode cX7_reserve 35 = .ok (.iload_n 2, 1) ∧ 35 + 1 = 36 := ⟨by decide +kernel, rfl⟩
theorem dX7_reserve_36 : decode cX7_reserve 36 = .ok (.iadd, 1) ∧ 36 + 1 = 37 := ⟨by decide +kernel, rfl⟩
theorem dX7_reserve_37 : decode cX7_reserve 37 = .ok (.iload_n 3, 1) ∧ 37 + 1 = 38 := ⟨by decide +kernel, rfl⟩
theorem dX7_reserve_38 : decode cX7_reserve 38 = .ok (.invokevirtual 95, 3) ∧ 38 + 3 = 41 := ⟨by decide +kernel, rfl⟩
theorem dX7_reserve_41 : decode cX7_reserve 41 = .ok (.goto 5, 3) ∧ ((41 : Nat) : Int) + 5 = ((46 : Nat) : Int) := ⟨by decide +kernel, rfl⟩
theorem dX7_reserve_44 : decode cX7_reserve 44 = .ok (.bipush (-2), 2) ∧ 44 + 2 = 46 := ⟨by decide +kernel, rfl⟩
theorem dX7_reserve_46 : decode cX7_reserve 46 = .ok (.ireturn, 1) ∧ 46 + 1 = 47 := ⟨by decide +kernel, rfl⟩
theorem dX7_heir_0 : decode cX7_heir 0 = .ok (.iload_n 1, 1) ∧ 0 + 1 = 1 := ⟨by decide +kernel, rfl⟩
theorem dX7_heir_1 : decode cX7_heir 1 = .ok (.iconst 1, 1) ∧ 1 + 1 = 2 := ⟨by decide +kernel, rfl⟩
theorem dX7_heir_2 : decode cX7_heir 2 = .ok (.iconst 3, 1) ∧ 2 + 1 = 3 := ⟨by decide +kernel, rfl⟩
theorem dX7_heir_3 : decode cX7_heir 3 = .ok (.invokestatic 66, 3) ∧ 3 + 3 = 6 := ⟨by decide +kernel, rfl⟩
theorem dX7_heir_6 : decode cX7_heir 6 = .ok (.ifCond .ne 5, 3) ∧ 6 + 3 = 9 ∧ ((6 : Nat) : Int) + 5 = ((11 : Nat) : Int) := ⟨by decide +kernel, rfl, rfl⟩
theorem dX7_heir_9 : decode cX7_heir 9 = .ok (.iconst (-1), 1) ∧ 9 + 1 = 10 := ⟨by decide +kernel, rfl⟩
theorem dX7_heir_10 : decode cX7_heir 10 = .ok (.ireturn, 1) ∧ 10 + 1 = 11 := ⟨by decide +kernel, rfl⟩
theorem dX7_heir_11 : decode cX7_heir 11 = .ok (.iload_n 2, 1) ∧ 11 + 1 = 12 := ⟨by decide +kernel, rfl⟩
theorem dX7_heir_12 : decode cX7_heir 12 = .ok (.invokestatic 80, 3) ∧ 12 + 3 = 15 := ⟨by decide +kernel, rfl⟩
theorem dX7_heir_15 : decode cX7_heir 15 = .ok (.ifCond .ne 9, 3) ∧ 15 + 3 = 18 ∧ ((15 : Nat) : Int) + 9 = ((24 : Nat) : Int) := ⟨by decide +kernel, rfl, rfl⟩
theorem dX7_heir_18 : decode cX7_heir 18 = .ok (.iload_n 2, 1) ∧ 18 + 1 = 19 := ⟨by decide +kernel, rfl⟩
theorem dX7_heir_19 : decode cX7_heir 19 = .ok (.bipush (-9), 2) ∧ 19 + 2 = 21 := ⟨by decide +kernel, rfl⟩
theorem dX7_heir_21 : decode cX7_heir 21 = .ok (.if_icmp .ne 16, 3) ∧ 21 + 3 = 24 ∧ ((21 : Nat) : Int) + 16 = ((37 : Nat) : Int) := ⟨by decide +kernel, rfl, rfl⟩
theorem dX7_heir_24 : decode cX7_heir 24 = .ok (.aload_n 0, 1) ∧ 24 + 1 = 25 := ⟨by decide +kernel, rfl⟩
theorem dX7_heir_25 : decode cX7_heir 25 = .ok (.sipush 148, 3) ∧ 25 + 3 = 28 := ⟨by decide +kernel, rfl⟩
theorem dX7_heir_28 : decode cX7_heir 28 = .ok (.iload_n 1, 1) ∧ 28 + 1 = 29 := ⟨by decide +kernel, rfl⟩
theorem dX7_heir_29 : decode cX7_heir 29 = .ok (.iadd, 1) ∧ 29 + 1 = 30 := ⟨by decide +kernel, rfl⟩
theorem dX7_heir_30 : decode cX7_heir 30 = .ok (.iload_n 2, 1) ∧ 30 + 1 = 31 := ⟨by decide +kernel, rfl⟩
theorem dX7_heir_31 : decode cX7_heir 31 = .ok (.invokevirtual 95, 3) ∧ 31 + 3 = 34 := ⟨by decide +kernel, rfl⟩
theorem dX7_heir_34 : decode cX7_heir 34 = .ok (.goto 5, 3) ∧ ((34 : Nat) : Int) + 5 = ((39 : Nat) : Int) := ⟨by decide +kernel, rfl⟩
theorem dX7_heir_37 : decode cX7_heir 37 = .ok (.bipush (-2), 2) ∧ 37 + 2 = 39 := ⟨by decide +kernel, rfl⟩
theorem dX7_heir_39 : decode cX7_heir 39 = .ok (.ireturn, 1) ∧ 39 + 1 = 40 := ⟨by decide +kernel, rfl⟩
theorem dX7_manner_0 : decode cX7_manner 0 = .ok (.iload_n 1, 1) ∧ 0 + 1 = 1 := ⟨by decide +kernel, rfl⟩
theorem dX7_manner_1 : decode cX7_manner 1 = .ok (.iconst 0, 1) ∧ 1 + 1 = 2 := ⟨by decide +kernel, rfl⟩
theorem dX7_manner_2 : decode cX7_manner 2 = .ok (.iconst 2, 1) ∧ 2 + 1 = 3 := ⟨by decide +kernel, rfl⟩
theorem dX7_manner_3 : decode cX7_manner 3 = .ok (.invokestatic 66, 3) ∧ 3 + 3 = 6 := ⟨by decide +kernel, rfl⟩
theorem dX7_manner_6 : decode cX7_manner 6 = .ok (.ifCond .eq 14, 3) ∧ 6 + 3 = 9 ∧ ((6 : Nat) : Int) + 14 = ((20 : Nat) : Int) := ⟨by decide +kernel, rfl, rfl⟩
theorem dX7_manner_9 : decode cX7_manner 9 = .ok (.aload_n 0, 1) ∧ 9 + 1 = 10 := ⟨by decide +kernel, rfl⟩
theorem dX7_manner_10 : decode cX7_manner 10 = .ok (.sipush 156, 3) ∧ 10 + 3 = 13 := ⟨by decide +kernel, rfl⟩
theorem dX7_manner_13 : decode cX7_manner 13 = .ok (.iload_n 1, 1) ∧ 13 + 1 = 14 := ⟨by decide +kernel, rfl⟩
theorem dX7_manner_14 : decode cX7_manner 14 = .ok (.invokevirtual 95, 3) ∧ 14 + 3 = 17 := ⟨by decide +kernel, rfl⟩
theorem dX7_manner_17 : decode cX7_manner 17 = .ok (.goto 5, 3) ∧ ((17 : Nat) : Int) + 5 = ((22 : Nat) : Int) := ⟨by decide +kernel, rfl⟩
theorem dX7_manner_20 : decode cX7_manner 20 = .ok (.bipush (-2), 2) ∧ 20 + 2 = 22 := ⟨by decide +kernel, rfl⟩
theorem dX7_manner_22 : decode cX7_manner 22 = .ok (.ireturn, 1) ∧ 22 + 1 = 23 := ⟨by decide +kernel, rfl⟩
theorem dX7_order_0 : decode cX7_order 0 = .ok (.iload_n 1, 1) ∧ 0 + 1 = 1 := ⟨by decide +kernel, rfl⟩
theorem dX7_order_1 : decode cX7_order 1 = .ok (.invokestatic 80, 3) ∧ 1 + 3 = 4 := ⟨by decide +kernel, rfl⟩
theorem dX7_order_4 : decode cX7_order 4 = .ok (.ifCond .eq 25, 3) ∧ 4 + 3 = 7 ∧ ((4 : Nat) : Int) + 25 = ((29 : Nat) : Int) := ⟨by decide +kernel, rfl, rfl⟩
theorem dX7_order_7 : decode cX7_order 7 = .ok (.iload_n 2, 1) ∧ 7 + 1 = 8 := ⟨by decide +kernel, rfl⟩
theorem dX7_order_8 : decode cX7_order 8 = .ok (.invokestatic 80, 3) ∧ 8 + 3 = 11 := ⟨by decide +kernel, rfl⟩
theorem dX7_order_11 : decode cX7_order 11 = .ok (.ifCond .eq 18, 3) ∧ 11 + 3 = 14 ∧ ((11 : Nat) : Int) + 18 = ((29 : Nat) : Int) := ⟨by decide +kernel, rfl, rfl⟩
theorem dX7_order_14 : decode cX7_order 14 = .ok (.iload_n 3, 1) ∧ 14 + 1 = 15 := ⟨by decide +kernel, rfl⟩
theorem dX7_order_15 : decode cX7_order 15 = .ok (.invokestatic 80, 3) ∧ 15 + 3 = 18 := ⟨by decide +kernel, rfl⟩
theorem dX7_order_18 : decode cX7_order 18 = .ok (.ifCond .eq 11, 3) ∧ 18 + 3 = 21 ∧ ((18 : Nat) : Int) + 11 = ((29 : Nat) : Int) := ⟨by decide +kernel, rfl, rfl⟩
theorem dX7_order_21 : decode cX7_order 21 = .ok (.iload 4, 2) ∧ 21 + 2 = 23 := ⟨by decide +kernel, rfl⟩
theorem dX7_order_23 : decode cX7_order 23 = .ok (.invokestatic 80, 3) ∧ 23 + 3 = 26 := ⟨by decide +kernel, rfl⟩
theorem dX7_order_26 : decode cX7_order 26 = .ok (.ifCond .ne 6, 3) ∧ 26 + 3 = 29 ∧ ((26 : Nat) : Int) + 6 = ((32 : Nat) : Int) := ⟨by decide +kernel, rfl, rfl⟩
theorem dX7_order_29 : decode cX7_order 29 = .ok (.bipush (-2), 2) ∧ 29 + 2 = 31 := ⟨by decide +kernel, rfl⟩
theorem dX7_order_31 : decode cX7_order 31 = .ok (.ireturn, 1) ∧ 31 + 1 = 32 := ⟨by decide +kernel, rfl⟩
theorem dX7_order_32 : decode cX7_order 32 = .ok (.iconst 1, 1) ∧ 32 + 1 = 33 := ⟨by decide +kernel, rfl⟩
theorem dX7_order_33 : decode cX7_order 33 = .ok (.iload_n 1, 1) ∧ 33 + 1 = 34 := ⟨by decide +kernel, rfl⟩
theorem dX7_order_34 : decode cX7_order 34 = .ok (.ishl, 1) ∧ 34 + 1 = 35 := ⟨by decide +kernel, rfl⟩
theorem dX7_order_35 : decode cX7_order 35 = .ok (.iconst 1, 1) ∧ 35 + 1 = 36 := ⟨by decide +kernel, rfl⟩
theorem dX7_order_36 : decode cX7_order 36 = .ok (.iload_n 2, 1) ∧ 36 + 1 = 37 := ⟨by decide +kernel, rfl⟩
theorem dX7_order_37 : decode cX7_order 37 = .ok (.ishl, 1) ∧ 37 + 1 = 38 := ⟨by decide +kernel, rfl⟩
theorem dX7_order_38 : decode cX7_order 38 = .ok (.ior, 1) ∧ 38 + 1 = 39 := ⟨by decide +kernel, rfl⟩
theorem dX7_order_39 : decode cX7_order 39 = .ok (.iconst 1, 1) ∧ 39 + 1 = 40 := ⟨by decide +kernel, rfl⟩
theorem dX7_order_40 : decode cX7_order 40 = .ok (.iload_n 3, 1) ∧ 40 + 1 = 41 := ⟨by decide +kernel, rfl⟩
theorem dX7_order_41 : decode cX7_order 41 = .ok (.ishl, 1) ∧ 41 + 1 = 42 := ⟨by decide +kernel, rfl⟩
theorem dX7_order_42 : decode cX7_order 42 = .ok (.ior, 1) ∧ 42 + 1 = 43 := ⟨by decide +kernel, rfl⟩
theorem dX7_order_43 : decode cX7_order 43 = .ok (.iconst 1, 1) ∧ 43 + 1 = 44 := ⟨by decide +kernel, rfl⟩
theorem dX7_order_44 : decode cX7_order 44 = .ok (.iload 4, 2) ∧ 44 + 2 = 46 := ⟨by decide +kernel, rfl⟩
theorem dX7_order_46 : decode cX7_order 46 = .ok (.ishl, 1) ∧ 46 + 1 = 47 := ⟨by decide +kernel, rfl⟩
theorem dX7_order_47 : decode cX7_order 47 = .ok (.ior, 1) ∧ 47 + 1 = 48 := ⟨by decide +kernel, rfl⟩
theorem dX7_order_48 : decode cX7_order 48 = .ok (.bipush 15, 2) ∧ 48 + 2 = 50 := ⟨by decide +kernel, rfl⟩
theorem dX7_order_50 : decode cX7_order 50 = .ok (.if_icmp .eq 6, 3) ∧ 50 + 3 = 53 ∧ ((50 : Nat) : Int) + 6 = ((56 : Nat) : Int) := ⟨by decide +kernel, rfl, rfl⟩
theorem dX7_order_53 : decode cX7_order 53 = .ok (.bipush (-2), 2) ∧ 53 + 2 = 55 := ⟨by decide +kernel, rfl⟩
theorem dX7_order_55 : decode cX7_order 55 = .ok (.ireturn, 1) ∧ 55 + 1 = 56 := ⟨by decide +kernel, rfl⟩
theorem dX7_order_56 : decode cX7_order 56 = .ok (.aload_n 0, 1) ∧ 56 + 1 = 57 := ⟨by decide +kernel, rfl⟩
theorem dX7_order_57 : decode cX7_order 57 = .ok (.invokevirtual 77, 3) ∧ 57 + 3 = 60 := ⟨by decide +kernel, rfl⟩
theorem dX7_order_60 : decode cX7_order 60 = .ok (.aload_n 0, 1) ∧ 60 + 1 = 61 := ⟨by decide +kernel, rfl⟩
theorem dX7_order_61 : decode cX7_order 61 = .ok (.getfield 7, 3) ∧ 61 + 3 = 64 := ⟨by decide +kernel, rfl⟩
theorem dX7_order_64 : decode cX7_order 64 = .ok (.sipush 152, 3) ∧ 64 + 3 = 67 := ⟨by decide +kernel, rfl⟩
theorem dX7_order_67 : decode cX7_order 67 = .ok (.iload_n 1, 1) ∧ 67 + 1 = 68 := ⟨by decide +kernel, rfl⟩
theorem dX7_order_68 : decode cX7_order 68 = .ok (.iastore, 1) ∧ 68 + 1 = 69 := ⟨by decide +kernel, rfl⟩
theorem dX7_order_69 : decode cX7_order 69 = .ok (.aload_n 0, 1) ∧ 69 + 1 = 70 := ⟨by decide +kernel, rfl⟩
theorem dX7_order_70 : decode cX7_order 70 = .ok (.getfield 7, 3) ∧ 70 + 3 = 73 := ⟨by decide +kernel, rfl⟩
theorem dX7_order_73 : decode cX7_order 73 = .ok (.sipush 153, 3) ∧ 73 + 3 = 76 := ⟨by decide +kernel, rfl⟩
theorem dX7_order_76 : decode cX7_order 76 = .ok (.iload_n 2, 1) ∧ 76 + 1 = 77 := ⟨by decide +kernel, rfl⟩
theorem dX7_order_77 : decode cX7_order 77 = .ok (.iastore, 1) ∧ 77 + 1 = 78 := ⟨by decide +kernel, rfl⟩
theorem dX7_order_78 : decode cX7_order 78 = .ok (.aload_n 0, 1) ∧ 78 + 1 = 79 := ⟨by decide +kernel, rfl⟩
theorem dX7_order_79 : decode cX7_order 79 = .ok (.getfield 7, 3) ∧ 79 + 3 = 82 := ⟨by decide +kernel, rfl⟩
theorem dX7_order_82 : decode cX7_order 82 = .ok (.sipush 154, 3) ∧ 82 + 3 = 85 := ⟨by decide +kernel, rfl⟩
theorem dX7_order_85 : decode cX7_order 85 = .ok (.iload_n 3, 1) ∧ 85 + 1 = 86 := ⟨by decide +kernel, rfl⟩
theorem dX7_order_86 : decode cX7_order 86 = .ok (.iastore, 1) ∧ 86 + 1 = 87 := ⟨by decide +kernel, rfl⟩
theorem dX7_order_87 : decode cX7_order 87 = .ok (.aload_n 0, 1) ∧ 87 + 1 = 88 := ⟨by decide +kernel, rfl⟩
theorem dX7_order_88 : decode cX7_order 88 = .ok (.getfield 7, 3) ∧ 88 + 3 = 91 := ⟨by decide +kernel, rfl⟩
theorem dX7_order_91 : decode cX7_order 91 = .ok (.sipush 155, 3) ∧ 91 + 3 = 94 := ⟨by decide +kernel, rfl⟩
theorem dX7_order_94 : decode cX7_order 94 = .ok (.iload 4, 2) ∧ 94 + 2 = 96 := ⟨by decide +kernel, rfl⟩
theorem dX7_order_96 : decode cX7_order 96 = .ok (.iastore, 1) ∧ 96 + 1 = 97 := ⟨by decide +kernel, rfl⟩
theorem dX7_order_97 : decode cX7_order 97 = .ok (.iconst 1, 1) ∧ 97 + 1 = 98 := ⟨by decide +kernel, rfl⟩
theorem dX7_order_98 : decode cX7_order 98 = .ok (.ireturn, 1) ∧ 98 + 1 = 99 := ⟨by decide +kernel, rfl⟩
theorem dX7_takesPart_0 : decode cX7_takesPart 0 = .ok (.aload_n 0, 1) ∧ 0 + 1 = 1 := ⟨by decide +kernel, rfl⟩
theorem dX7_takesPart_1 : decode cX7_takesPart 1 = .ok (.iload_n 1, 1) ∧ 1 + 1 = 2 := ⟨by decide +kernel, rfl⟩
theorem dX7_takesPart_2 : decode cX7_takesPart 2 = .ok (.iconst 4, 1) ∧ 2 + 1 = 3 := ⟨by decide +kernel, rfl⟩
theorem dX7_takesPart_3 : decode cX7_takesPart 3 = .ok (.invokevirtual 103, 3) ∧ 3 + 3 = 6 := ⟨by decide +kernel, rfl⟩
theorem dX7_takesPart_6 : decode cX7_takesPart 6 = .ok (.iconst 2, 1) ∧ 6 + 1 = 7 := ⟨by decide +kernel, rfl⟩
theorem dX7_takesPart_7 : decode cX7_takesPart 7 = .ok (.if_icmp .gt 7, 3) ∧ 7 + 3 = 10 ∧ ((7 : Nat) : Int) + 7 = ((14 : Nat) : Int) := ⟨by decide +kernel, rfl, rfl⟩
theorem dX7_takesPart_10 : decode cX7_takesPart 10 = .ok (.iconst 1, 1) ∧ 10 + 1 = 11 := ⟨by decide +kernel, rfl⟩
theorem dX7_takesPart_11 : decode cX7_takesPart 11 = .ok (.goto 4, 3) ∧ ((11 : Nat) : Int) + 4 = ((15 : Nat) : Int) := ⟨by decide +kernel, rfl⟩
theorem dX7_takesPart_14 : decode cX7_takesPart 14 = .ok (.iconst 0, 1) ∧ 14 + 1 = 15 := ⟨by decide +kernel, rfl⟩
theorem dX7_takesPart_15 : decode cX7_takesPart 15 = .ok (.ireturn, 1) ∧ 15 + 1 = 16 := ⟨by decide +kernel, rfl⟩
theorem dX7_isCandidate_0 : decode cX7_isCandidate 0 = .ok (.iload_n 2, 1) ∧ 0 + 1 = 1 := ⟨by decide +kernel, rfl⟩
theorem dX7_isCandidate_1 : decode cX7_isCandidate 1 = .ok (.ifCond .eq 13, 3) ∧ 1 + 3 = 4 ∧ ((1 : Nat) : Int) + 13 = ((14 : Nat) : Int) := ⟨by decide +kernel, rfl, rfl⟩
theorem dX7_isCandidate_4 : decode cX7_isCandidate 4 = .ok (.aload_n 0, 1) ∧ 4 + 1 = 5 := ⟨by decide +kernel, rfl⟩
theorem dX7_isCandidate_5 : decode cX7_isCandidate 5 = .ok (.iload_n 1, 1) ∧ 5 + 1 = 6 := ⟨by decide +kernel, rfl⟩
theorem dX7_isCandidate_6 : decode cX7_isCandidate 6 = .ok (.iconst 2, 1) ∧ 6 + 1 = 7 := ⟨by decide +kernel, rfl⟩
theorem dX7_isCandidate_7 : decode cX7_isCandidate 7 = .ok (.invokevirtual 103, 3) ∧ 7 + 3 = 10 := ⟨by decide +kernel, rfl⟩
theorem dX7_isCandidate_10 : decode cX7_isCandidate 10 = .ok (.iload_n 2, 1) ∧ 10 + 1 = 11 := ⟨by decide +kernel, rfl⟩
theorem dX7_isCandidate_11 : decode cX7_isCandidate 11 = .ok (.if_icmp .ne 7, 3) ∧ 11 + 3 = 14 ∧ ((11 : Nat) : Int) + 7 = ((18 : Nat) : Int) := ⟨by decide +kernel, rfl, rfl⟩
theorem dX7_isCandidate_14 : decode cX7_isCandidate 14 = .ok (.iconst 1, 1) ∧ 14 + 1 = 15 := ⟨by decide +kernel, rfl⟩
theorem dX7_isCandidate_15 : decode cX7_isCandidate 15 = .ok (.goto 4, 3) ∧ ((15 : Nat) : Int) + 4 = ((19 : Nat) : Int) := ⟨by decide +kernel, rfl⟩
theorem dX7_isCandidate_18 : decode cX7_isCandidate 18 = .ok (.iconst 0, 1) ∧ 18 + 1 = 19 := ⟨by decide +kernel, rfl⟩
theorem dX7_isCandidate_19 : decode cX7_isCandidate 19 = .ok (.ireturn, 1) ∧ 19 + 1 = 20 := ⟨by decide +kernel, rfl⟩
theorem dX7_noted_0 : decode cX7_noted 0 = .ok (.iconst 0, 1) ∧ 0 + 1 = 1 := ⟨by decide +kernel, rfl⟩
theorem dX7_noted_1 : decode cX7_noted 1 = .ok (.istore_n 3, 1) ∧ 1 + 1 = 2 := ⟨by decide +kernel, rfl⟩
theorem dX7_noted_2 : decode cX7_noted 2 = .ok (.iconst 0, 1) ∧ 2 + 1 = 3 := ⟨by decide +kernel, rfl⟩
theorem dX7_noted_3 : decode cX7_noted 3 = .ok (.istore 4, 2) ∧ 3 + 2 = 5 := ⟨by decide +kernel, rfl⟩
theorem dX7_noted_5 : decode cX7_noted 5 = .ok (.iload 4, 2) ∧ 5 + 2 = 7 := ⟨by decide +kernel, rfl⟩
theorem dX7_noted_7 : decode cX7_noted 7 = .ok (.aload_n 0, 1) ∧ 7 + 1 = 8 := ⟨by decide +kernel, rfl⟩
theorem dX7_noted_8 : decode cX7_noted 8 = .ok (.getfield 7, 3) ∧ 8 + 3 = 11 := ⟨by decide +kernel, rfl⟩
theorem dX7_noted_11 : decode cX7_noted 11 = .ok (.sipush 157, 3) ∧ 11 + 3 = 14 := ⟨by decide +kernel, rfl⟩
theorem dX7_noted_14 : decode cX7_noted 14 = .ok (.iaload, 1) ∧ 14 + 1 = 15 := ⟨by decide +kernel, rfl⟩
theorem dX7_noted_15 : decode cX7_noted 15 = .ok (.if_icmp .ge 69, 3) ∧ 15 + 3 = 18 ∧ ((15 : Nat) : Int) + 69 = ((84 : Nat) : Int) := ⟨by decide +kernel, rfl, rfl⟩
theorem dX7_noted_18 : decode cX7_noted 18 = .ok (.aload_n 0, 1) ∧ 18 + 1 = 19 := ⟨by decide +kernel, rfl⟩
theorem dX7_noted_19 : decode cX7_noted 19 = .ok (.iload 4, 2) ∧ 19 + 2 = 21 := ⟨by decide +kernel, rfl⟩
theorem dX7_noted_21 : decode cX7_noted 21 = .ok (.iconst 4, 1) ∧ 21 + 1 = 22 := ⟨by decide +kernel, rfl⟩
theorem dX7_noted_22 : decode cX7_noted 22 = .ok (.invokevirtual 103, 3) ∧ 22 + 3 = 25 := ⟨by decide +kernel, rfl⟩
theorem dX7_noted_25 : decode cX7_noted 25 = .ok (.iconst 3, 1) ∧ 25 + 1 = 26 := ⟨by decide +kernel, rfl⟩
theorem dX7_noted_26 : decode cX7_noted 26 = .ok (.if_icmp .ne 18, 3) ∧ 26 + 3 = 29 ∧ ((26 : Nat) : Int) + 18 = ((44 : Nat) : Int) := ⟨by decide +kernel, rfl, rfl⟩
theorem dX7_noted_29 : decode cX7_noted 29 = .ok (.aload_n 0, 1) ∧ 29 + 1 = 30 := ⟨by decide +kernel, rfl⟩
theorem dX7_noted_30 : decode cX7_noted 30 = .ok (.iload 4, 2) ∧ 30 + 2 = 32 := ⟨by decide +kernel, rfl⟩
theorem dX7_noted_32 : decode cX7_noted 32 = .ok (.iconst 5, 1) ∧ 32 + 1 = 33 := ⟨by decide +kernel, rfl⟩
theorem dX7_noted_33 : decode cX7_noted 33 = .ok (.invokevirtual 103, 3) ∧ 33 + 3 = 36 := ⟨by decide +kernel, rfl⟩
theorem dX7_noted_36 : decode cX7_noted 36 = .ok (.iload_n 1, 1) ∧ 36 + 1 = 37 := ⟨by decide +kernel, rfl⟩
theorem dX7_noted_37 : decode cX7_noted 37 = .ok (.if_icmp .ne 7, 3) ∧ 37 + 3 = 40 ∧ ((37 : Nat) : Int) + 7 = ((44 : Nat) : Int) := ⟨by decide +kernel, rfl, rfl⟩
theorem dX7_noted_40 : decode cX7_noted 40 = .ok (.iconst 1, 1) ∧ 40 + 1 = 41 := ⟨by decide +kernel, rfl⟩
theorem dX7_noted_41 : decode cX7_noted 41 = .ok (.goto 4, 3) ∧ ((41 : Nat) : Int) + 4 = ((45 : Nat) : Int) := ⟨by decide +kernel, rfl⟩
theorem dX7_noted_44 : decode cX7_noted 44 = .ok (.iconst 0, 1) ∧ 44 + 1 = 45 := ⟨by decide +kernel, rfl⟩
theorem dX7_noted_45 : decode cX7_noted 45 = .ok (.istore 5, 2) ∧ 45 + 2 = 47 := ⟨by decide +kernel, rfl⟩
theorem dX7_noted_47 : decode cX7_noted 47 = .ok (.iload_n 3, 1) ∧ 47 + 1 = 48 := ⟨by decide +kernel, rfl⟩
theorem dX7_noted_48 : decode cX7_noted 48 = .ok (.iload 5, 2) ∧ 48 + 2 = 50 := ⟨by decide +kernel, rfl⟩
theorem dX7_noted_50 : decode cX7_noted 50 = .ok (.ifCond .eq 25, 3) ∧ 50 + 3 = 53 ∧ ((50 : Nat) : Int) + 25 = ((75 : Nat) : Int) := ⟨by decide +kernel, rfl, rfl⟩
theorem dX7_noted_53 : decode cX7_noted 53 = .ok (.iload_n 2, 1) ∧ 53 + 1 = 54 := ⟨by decide +kernel, rfl⟩
theorem dX7_noted_54 : decode cX7_noted 54 = .ok (.bipush (-9), 2) ∧ 54 + 2 = 56 := ⟨by decide +kernel, rfl⟩
theorem dX7_noted_56 : decode cX7_noted 56 = .ok (.if_icmp .eq 15, 3) ∧ 56 + 3 = 59 ∧ ((56 : Nat) : Int) + 15 = ((71 : Nat) : Int) := ⟨by decide +kernel, rfl, rfl⟩
theorem dX7_noted_59 : decode cX7_noted 59 = .ok (.aload_n 0, 1) ∧ 59 + 1 = 60 := ⟨by decide +kernel, rfl⟩
theorem dX7_noted_60 : decode cX7_noted 60 = .ok (.iload 4, 2) ∧ 60 + 2 = 62 := ⟨by decide +kernel, rfl⟩
theorem dX7_noted_62 : decode cX7_noted 62 = .ok (.bipush 6, 2) ∧ 62 + 2 = 64 := ⟨by decide +kernel, rfl⟩
theorem dX7_noted_64 : decode cX7_noted 64 = .ok (.invokevirtual 103, 3) ∧ 64 + 3 = 67 := ⟨by decide +kernel, rfl⟩
theorem dX7_noted_67 : decode cX7_noted 67 = .ok (.iload_n 2, 1) ∧ 67 + 1 = 68 := ⟨by decide +kernel, rfl⟩
theorem dX7_noted_68 : decode cX7_noted 68 = .ok (.if_icmp .ne 7, 3) ∧ 68 + 3 = 71 ∧ ((68 : Nat) : Int) + 7 = ((75 : Nat) : Int) := ⟨by decide +kernel, rfl, rfl⟩
theorem dX7_noted_71 : decode cX7_noted 71 = .ok (.iconst 1, 1) ∧ 71 + 1 = 72 := ⟨by decide +kernel, rfl⟩
theorem dX7_noted_72 : decode cX7_noted 72 = .ok (.goto 4, 3) ∧ ((72 : Nat) : Int) + 4 = ((76 : Nat) : Int) := ⟨by decide +kernel, rfl⟩
theorem dX7_noted_75 : decode cX7_noted 75 = .ok (.iconst 0, 1) ∧ 75 + 1 = 76 := ⟨by decide +kernel, rfl⟩
theorem dX7_noted_76 : decode cX7_noted 76 = .ok (.iadd, 1) ∧ 76 + 1 = 77 := ⟨by decide +kernel, rfl⟩
theorem dX7_noted_77 : decode cX7_noted 77 = .ok (.istore_n 3, 1) ∧ 77 + 1 = 78 := ⟨by decide +kernel, rfl⟩
theorem dX7_noted_78 : decode cX7_noted 78 = .ok (.iinc 4 1, 3) ∧ 78 + 3 = 81 := ⟨by decide +kernel, rfl⟩
theorem dX7_noted_81 : decode cX7_noted 81 = .ok (.goto (-76), 3) ∧ ((81 : Nat) : Int) + (-76) = ((5 : Nat) : Int) := ⟨by decide +kernel, rfl⟩
theorem dX7_noted_84 : decode cX7_noted 84 = .ok (.iload_n 3, 1) ∧ 84 + 1 = 85 := ⟨by decide +kernel, rfl⟩
theorem dX7_noted_85 : decode cX7_noted 85 = .ok (.ireturn, 1) ∧ 85 + 1 = 86 := ⟨by decide +kernel, rfl⟩
theorem dX7_atLeastNone_0 : decode cX7_atLeastNone 0 = .ok (.iload_n 0, 1) ∧ 0 + 1 = 1 := ⟨by decide +kernel, rfl⟩
theorem dX7_atLeastNone_1 : decode cX7_atLeastNone 1 = .ok (.ifCond .ge 7, 3) ∧ 1 + 3 = 4 ∧ ((1 : Nat) : Int) + 7 = ((8 : Nat) : Int) := ⟨by decide +kernel, rfl, rfl⟩
theorem dX7_atLeastNone_4 : decode cX7_atLeastNone 4 = .ok (.iconst 0, 1) ∧ 4 + 1 = 5 := ⟨by decide +kernel, rfl⟩
theorem dX7_atLeastNone_5 : decode cX7_atLeastNone 5 = .ok (.goto 4, 3) ∧ ((5 : Nat) : Int) + 4 = ((9 : Nat) : Int) := ⟨by decide +kernel, rfl⟩
theorem dX7_atLeastNone_8 : decode cX7_atLeastNone 8 = .ok (.iload_n 0, 1) ∧ 8 + 1 = 9 := ⟨by decide +kernel, rfl⟩
theorem dX7_atLeastNone_9 : decode cX7_atLeastNone 9 = .ok (.ireturn, 1) ∧ 9 + 1 = 10 := ⟨by decide +kernel, rfl⟩
theorem dX7_findFree_0 : decode cX7_findFree 0 = .ok (.iconst 0, 1) ∧ 0 + 1 = 1 := ⟨by decide +kernel, rfl⟩
theorem dX7_findFree_1 : decode cX7_findFree 1 = .ok (.istore_n 1, 1) ∧ 1 + 1 = 2 := ⟨by decide +kernel, rfl⟩
theorem dX7_findFree_2 : decode cX7_findFree 2 = .ok (.iload_n 1, 1) ∧ 2 + 1 = 3 := ⟨by decide +kernel, rfl⟩
theorem dX7_findFree_3 : decode cX7_findFree 3 = .ok (.iconst 4, 1) ∧ 3 + 1 = 4 := ⟨by decide +kernel, rfl⟩
theorem dX7_findFree_4 : decode cX7_findFree 4 = .ok (.if_icmp .ge 90, 3) ∧ 4 + 3 = 7 ∧ ((4 : Nat) : Int) + 90 = ((94 : Nat) : Int) := ⟨by decide +kernel, rfl, rfl⟩
theorem dX7_findFree_7 : decode cX7_findFree 7 = .ok (.aload_n 0, 1) ∧ 7 + 1 = 8 := ⟨by decide +kernel, rfl⟩
theorem dX7_findFree_8 : decode cX7_findFree 8 = .ok (.getfield 19, 3) ∧ 8 + 3 = 11 := ⟨by decide +kernel, rfl⟩
theorem dX7_findFree_11 : decode cX7_findFree 11 = .ok (.iload_n 1, 1) ∧ 11 + 1 = 12 := ⟨by decide +kernel, rfl⟩
theorem dX7_findFree_12 : decode cX7_findFree 12 = .ok (.aload_n 0, 1) ∧ 12 + 1 = 13 := ⟨by decide +kernel, rfl⟩
theorem dX7_findFree_13 : decode cX7_findFree 13 = .ok (.getfield 7, 3) ∧ 13 + 3 = 16 := ⟨by decide +kernel, rfl⟩
theorem dX7_findFree_16 : decode cX7_findFree 16 = .ok (.sipush 128, 3) ∧ 16 + 3 = 19 := ⟨by decide +kernel, rfl⟩
theorem dX7_findFree_19 : decode cX7_findFree 19 = .ok (.iload_n 1, 1) ∧ 19 + 1 = 20 := ⟨by decide +kernel, rfl⟩
theorem dX7_findFree_20 : decode cX7_findFree 20 = .ok (.iadd, 1) ∧ 20 + 1 = 21 := ⟨by decide +kernel, rfl⟩
theorem dX7_findFree_21 : decode cX7_findFree 21 = .ok (.iaload, 1) ∧ 21 + 1 = 22 := ⟨by decide +kernel, rfl⟩
theorem dX7_findFree_22 : decode cX7_findFree 22 = .ok (.aload_n 0, 1) ∧ 22 + 1 = 23 := ⟨by decide +kernel, rfl⟩
theorem dX7_findFree_23 : decode cX7_findFree 23 = .ok (.iload_n 1, 1) ∧ 23 + 1 = 24 := ⟨by decide +kernel, rfl⟩
theorem dX7_findFree_24 : decode cX7_findFree 24 = .ok (.bipush (-9), 2) ∧ 24 + 2 = 26 := ⟨by decide +kernel, rfl⟩
theorem dX7_findFree_26 : decode cX7_findFree 26 = .ok (.invokevirtual 114, 3) ∧ 26 + 3 = 29 := ⟨by decide +kernel, rfl⟩
theorem dX7_findFree_29 : decode cX7_findFree 29 = .ok (.isub, 1) ∧ 29 + 1 = 30 := ⟨by decide +kernel, rfl⟩
theorem dX7_findFree_30 : decode cX7_findFree 30 = .ok (.invokestatic 117, 3) ∧ 30 + 3 = 33 := ⟨by decide +kernel, rfl⟩
theorem dX7_findFree_33 : decode cX7_findFree 33 = .ok (.iastore, 1) ∧ 33 + 1 = 34 := ⟨by decide +kernel, rfl⟩
theorem dX7_findFree_34 : decode cX7_findFree 34 = .ok (.aload_n 0, 1) ∧ 34 + 1 = 35 := ⟨by decide +kernel, rfl⟩
theorem dX7_findFree_35 : decode cX7_findFree 35 = .ok (.getfield 25, 3) ∧ 35 + 3 = 38 := ⟨by decide +kernel, rfl⟩
theorem dX7_findFree_38 : decode cX7_findFree 38 = .ok (.iload_n 1, 1) ∧ 38 + 1 = 39 := ⟨by decide +kernel, rfl⟩
theorem dX7_findFree_39 : decode cX7_findFree 39 = .ok (.iconst 0, 1) ∧ 39 + 1 = 40 := ⟨by decide +kernel, rfl⟩
theorem dX7_findFree_40 : decode cX7_findFree 40 = .ok (.iastore, 1) ∧ 40 + 1 = 41 := ⟨by decide +kernel, rfl⟩
theorem dX7_findFree_41 : decode cX7_findFree 41 = .ok (.iconst 0, 1) ∧ 41 + 1 = 42 := ⟨by decide +kernel, rfl⟩
theorem dX7_findFree_42 : decode cX7_findFree 42 = .ok (.istore_n 2, 1) ∧ 42 + 1 = 43 := ⟨by decide +kernel, rfl⟩
theorem dX7_findFree_43 : decode cX7_findFree 43 = .ok (.iload_n 2, 1) ∧ 43 + 1 = 44 := ⟨by decide +kernel, rfl⟩
theorem dX7_findFree_44 : decode cX7_findFree 44 = .ok (.iconst 4, 1) ∧ 44 + 1 = 45 := ⟨by decide +kernel, rfl⟩
theorem dX7_findFree_45 : decode cX7_findFree 45 = .ok (.if_icmp .ge 43, 3) ∧ 45 + 3 = 48 ∧ ((45 : Nat) : Int) + 43 = ((88 : Nat) : Int) := ⟨by decide +kernel, rfl, rfl⟩
theorem dX7_findFree_48 : decode cX7_findFree 48 = .ok (.aload_n 0, 1) ∧ 48 + 1 = 49 := ⟨by decide +kernel, rfl⟩
theorem dX7_findFree_49 : decode cX7_findFree 49 = .ok (.getfield 22, 3) ∧ 49 + 3 = 52 := ⟨by decide +kernel, rfl⟩
theorem dX7_findFree_52 : decode cX7_findFree 52 = .ok (.iconst 4, 1) ∧ 52 + 1 = 53 := ⟨by decide +kernel, rfl⟩
theorem dX7_findFree_53 : decode cX7_findFree 53 = .ok (.iload_n 1, 1) ∧ 53 + 1 = 54 := ⟨by decide +kernel, rfl⟩
theorem dX7_findFree_54 : decode cX7_findFree 54 = .ok (.imul, 1) ∧ 54 + 1 = 55 := ⟨by decide +kernel, rfl⟩
theorem dX7_findFree_55 : decode cX7_findFree 55 = .ok (.iload_n 2, 1) ∧ 55 + 1 = 56 := ⟨by decide +kernel, rfl⟩
theorem dX7_findFree_56 : decode cX7_findFree 56 = .ok (.iadd, 1) ∧ 56 + 1 = 57 := ⟨by decide +kernel, rfl⟩
theorem dX7_findFree_57 : decode cX7_findFree 57 = .ok (.aload_n 0, 1) ∧ 57 + 1 = 58 := ⟨by decide +kernel, rfl⟩
theorem dX7_findFree_58 : decode cX7_findFree 58 = .ok (.getfield 7, 3) ∧ 58 + 3 = 61 := ⟨by decide +kernel, rfl⟩
theorem dX7_findFree_61 : decode cX7_findFree 61 = .ok (.sipush 132, 3) ∧ 61 + 3 = 64 := ⟨by decide +kernel, rfl⟩
theorem dX7_findFree_64 : decode cX7_findFree 64 = .ok (.iconst 4, 1) ∧ 64 + 1 = 65 := ⟨by decide +kernel, rfl⟩
theorem dX7_findFree_65 : decode cX7_findFree 65 = .ok (.iload_n 1, 1) ∧ 65 + 1 = 66 := ⟨by decide +kernel, rfl⟩
theorem dX7_findFree_66 : decode cX7_findFree 66 = .ok (.imul, 1) ∧ 66 + 1 = 67 := ⟨by decide +kernel, rfl⟩
theorem dX7_findFree_67 : decode cX7_findFree 67 = .ok (.iadd, 1) ∧ 67 + 1 = 68 := ⟨by decide +kernel, rfl⟩
theorem dX7_findFree_68 : decode cX7_findFree 68 = .ok (.iload_n 2, 1) ∧ 68 + 1 = 69 := ⟨by decide +kernel, rfl⟩
theorem dX7_findFree_69 : decode cX7_findFree 69 = .ok (.iadd, 1) ∧ 69 + 1 = 70 := ⟨by decide +kernel, rfl⟩
theorem dX7_findFree_70 : decode cX7_findFree 70 = .ok (.iaload, 1) ∧ 70 + 1 = 71 := ⟨by decide +kernel, rfl⟩
theorem dX7_findFree_71 : decode cX7_findFree 71 = .ok (.aload_n 0, 1) ∧ 71 + 1 = 72 := ⟨by decide +kernel, rfl⟩
theorem dX7_findFree_72 : decode cX7_findFree 72 = .ok (.iload_n 1, 1) ∧ 72 + 1 = 73 := ⟨by decide +kernel, rfl⟩
theorem dX7_findFree_73 : decode cX7_findFree 73 = .ok (.iload_n 2, 1) ∧ 73 + 1 = 74 := ⟨by decide +kernel, rfl⟩
theorem dX7_findFree_74 : decode cX7_findFree 74 = .ok (.invokevirtual 114, 3) ∧ 74 + 3 = 77 := ⟨by decide +kernel, rfl⟩
theorem dX7_findFree_77 : decode cX7_findFree 77 = .ok (.isub, 1) ∧ 77 + 1 = 78 := ⟨by decide +kernel, rfl⟩
theorem dX7_findFree_78 : decode cX7_findFree 78 = .ok (.invokestatic 117, 3) ∧ 78 + 3 = 81 := ⟨by decide +kernel, rfl⟩
theorem dX7_findFree_81 : decode cX7_findFree 81 = .ok (.iastore, 1) ∧ 81 + 1 = 82 := ⟨by decide +kernel, rfl⟩
theorem dX7_findFree_82 : decode cX7_findFree 82 = .ok (.iinc 2 1, 3) ∧ 82 + 3 = 85 := ⟨by decide +kernel, rfl⟩
theorem dX7_findFree_85 : decode cX7_findFree 85 = .ok (.goto (-42), 3) ∧ ((85 : Nat) : Int) + (-42) = ((43 : Nat) : Int) := ⟨by decide +kernel, rfl⟩
theorem dX7_findFree_88 : decode cX7_findFree 88 = .ok (.iinc 1 1, 3) ∧ 88 + 3 = 91 := ⟨by decide +kernel, rfl⟩
theorem dX7_findFree_91 : decode cX7_findFree 91 = .ok (.goto (-89), 3) ∧ ((91 : Nat) : Int) + (-89) = ((2 : Nat) : Int) := ⟨by decide +kernel, rfl⟩
theorem dX7_findFree_94 : decode cX7_findFree 94 = .ok (.return_, 1) ∧ 94 + 1 = 95 := ⟨by decide +kernel, rfl⟩
theorem dX7_isIn_0 : decode cX7_isIn 0 = .ok (.iload_n 0, 1) ∧ 0 + 1 = 1 := ⟨by decide +kernel, rfl⟩
theorem dX7_isIn_1 : decode cX7_isIn 1 = .ok (.iload_n 1, 1) ∧ 1 + 1 = 2 := ⟨by decide +kernel, rfl⟩
theorem dX7_isIn_2 : decode cX7_isIn 2 = .ok (.ishr, 1) ∧ 2 + 1 = 3 := ⟨by decide +kernel, rfl⟩
theorem dX7_isIn_3 : decode cX7_isIn 3 = .ok (.iconst 1, 1) ∧ 3 + 1 = 4 := ⟨by decide +kernel, rfl⟩
theorem dX7_isIn_4 : decode cX7_isIn 4 = .ok (.iand, 1) ∧ 4 + 1 = 5 := ⟨by decide +kernel, rfl⟩
theorem dX7_isIn_5 : decode cX7_isIn 5 = .ok (.ireturn, 1) ∧ 5 + 1 = 6 := ⟨by decide +kernel, rfl⟩
theorem dX7_sumHave_0 : decode cX7_sumHave 0 = .ok (.iconst 0, 1) ∧ 0 + 1 = 1 := ⟨by decide +kernel, rfl⟩
theorem dX7_sumHave_1 : decode cX7_sumHave 1 = .ok (.istore_n 1, 1) ∧ 1 + 1 = 2 := ⟨by decide +kernel, rfl⟩
theorem dX7_sumHave_2 : decode cX7_sumHave 2 = .ok (.iload_n 1, 1) ∧ 2 + 1 = 3 := ⟨by decide +kernel, rfl⟩
theorem dX7_sumHave_3 : decode cX7_sumHave 3 = .ok (.bipush 16, 2) ∧ 3 + 2 = 5 := ⟨by decide +kernel, rfl⟩
theorem dX7_sumHave_5 : decode cX7_sumHave 5 = .ok (.if_icmp .ge 50, 3) ∧ 5 + 3 = 8 ∧ ((5 : Nat) : Int) + 50 = ((55 : Nat) : Int) := ⟨by decide +kernel, rfl, rfl⟩
theorem dX7_sumHave_8 : decode cX7_sumHave 8 = .ok (.aload_n 0, 1) ∧ 8 + 1 = 9 := ⟨by decide +kernel, rfl⟩
theorem dX7_sumHave_9 : decode cX7_sumHave 9 = .ok (.getfield 47, 3) ∧ 9 + 3 = 12 := ⟨by decide +kernel, rfl⟩
theorem dX7_sumHave_12 : decode cX7_sumHave 12 = .ok (.iload_n 1, 1) ∧ 12 + 1 = 13 := ⟨by decide +kernel, rfl⟩
theorem dX7_sumHave_13 : decode cX7_sumHave 13 = .ok (.iconst 0, 1) ∧ 13 + 1 = 14 := ⟨by decide +kernel, rfl⟩
theorem dX7_sumHave_14 : decode cX7_sumHave 14 = .ok (.iastore, 1) ∧ 14 + 1 = 15 := ⟨by decide +kernel, rfl⟩
theorem dX7_sumHave_15 : decode cX7_sumHave 15 = .ok (.iconst 0, 1) ∧ 15 + 1 = 16 := ⟨by decide +kernel, rfl⟩
theorem dX7_sumHave_16 : decode cX7_sumHave 16 = .ok (.istore_n 2, 1) ∧ 16 + 1 = 17 := ⟨by decide +kernel, rfl⟩
theorem dX7_sumHave_17 : decode cX7_sumHave 17 = .ok (.iload_n 2, 1) ∧ 17 + 1 = 18 := ⟨by decide +kernel, rfl⟩
theorem dX7_sumHave_18 : decode cX7_sumHave 18 = .ok (.iconst 4, 1) ∧ 18 + 1 = 19 := ⟨by decide +kernel, rfl⟩
theorem dX7_sumHave_19 : decode cX7_sumHave 19 = .ok (.if_icmp .ge 30, 3) ∧ 19 + 3 = 22 ∧ ((19 : Nat) : Int) + 30 = ((49 : Nat) : Int) := ⟨by decide +kernel, rfl, rfl⟩
theorem dX7_sumHave_22 : decode cX7_sumHave 22 = .ok (.aload_n 0, 1) ∧ 22 + 1 = 23 := ⟨by decide +kernel, rfl⟩
theorem dX7_sumHave_23 : decode cX7_sumHave 23 = .ok (.getfield 47, 3) ∧ 23 + 3 = 26 := ⟨by decide +kernel, rfl⟩
theorem dX7_sumHave_26 : decode cX7_sumHave 26 = .ok (.iload_n 1, 1) ∧ 26 + 1 = 27 := ⟨by decide +kernel, rfl⟩
theorem dX7_sumHave_27 : decode cX7_sumHave 27 = .ok (.dup2, 1) ∧ 27 + 1 = 28 := ⟨by decide +kernel, rfl⟩
theorem dX7_sumHave_28 : decode cX7_sumHave 28 = .ok (.iaload, 1) ∧ 28 + 1 = 29 := ⟨by decide +kernel, rfl⟩
theorem dX7_sumHave_29 : decode cX7_sumHave 29 = .ok (.iload_n 1, 1) ∧ 29 + 1 = 30 := ⟨by decide +kernel, rfl⟩
theorem dX7_sumHave_30 : decode cX7_sumHave 30 = .ok (.iload_n 2, 1) ∧ 30 + 1 = 31 := ⟨by decide +kernel, rfl⟩
theorem dX7_sumHave_31 : decode cX7_sumHave 31 = .ok (.invokestatic 120, 3) ∧ 31 + 3 = 34 := ⟨by decide +kernel, rfl⟩
theorem dX7_sumHave_34 : decode cX7_sumHave 34 = .ok (.aload_n 0, 1) ∧ 34 + 1 = 35 := ⟨by decide +kernel, rfl⟩
theorem dX7_sumHave_35 : decode cX7_sumHave 35 = .ok (.getfield 56, 3) ∧ 35 + 3 = 38 := ⟨by decide +kernel, rfl⟩
theorem dX7_sumHave_38 : decode cX7_sumHave 38 = .ok (.iload_n 2, 1) ∧ 38 + 1 = 39 := ⟨by decide +kernel, rfl⟩
theorem dX7_sumHave_39 : decode cX7_sumHave 39 = .ok (.iaload, 1) ∧ 39 + 1 = 40 := ⟨by decide +kernel, rfl⟩
theorem dX7_sumHave_40 : decode cX7_sumHave 40 = .ok (.imul, 1) ∧ 40 + 1 = 41 := ⟨by decide +kernel, rfl⟩
theorem dX7_sumHave_41 : decode cX7_sumHave 41 = .ok (.iadd, 1) ∧ 41 + 1 = 42 := ⟨by decide +kernel, rfl⟩
theorem dX7_sumHave_42 : decode cX7_sumHave 42 = .ok (.iastore, 1) ∧ 42 + 1 = 43 := ⟨by decide +kernel, rfl⟩
theorem dX7_sumHave_43 : decode cX7_sumHave 43 = .ok (.iinc 2 1, 3) ∧ 43 + 3 = 46 := ⟨by decide +kernel, rfl⟩
theorem dX7_sumHave_46 : decode cX7_sumHave 46 = .ok (.goto (-29), 3) ∧ ((46 : Nat) : Int) + (-29) = ((17 : Nat) : Int) := ⟨by decide +kernel, rfl⟩
theorem dX7_sumHave_49 : decode cX7_sumHave 49 = .ok (.iinc 1 1, 3) ∧ 49 + 3 = 52 := ⟨by decide +kernel, rfl⟩
theorem dX7_sumHave_52 : decode cX7_sumHave 52 = .ok (.goto (-50), 3) ∧ ((52 : Nat) : Int) + (-50) = ((2 : Nat) : Int) := ⟨by decide +kernel, rfl⟩
theorem dX7_sumHave_55 : decode cX7_sumHave 55 = .ok (.return_, 1) ∧ 55 + 1 = 56 := ⟨by decide +kernel, rfl⟩
theorem dX7_leaveAll_0 : decode cX7_leaveAll 0 = .ok (.iconst 0, 1) ∧ 0 + 1 = 1 := ⟨by decide +kernel, rfl⟩
theorem dX7_leaveAll_1 : decode cX7_leaveAll 1 = .ok (.istore_n 2, 1) ∧ 1 + 1 = 2 := ⟨by decide +kernel, rfl⟩
theorem dX7_leaveAll_2 : decode cX7_leaveAll 2 = .ok (.iload_n 2, 1) ∧ 2 + 1 = 3 := ⟨by decide +kernel, rfl⟩
theorem dX7_leaveAll_3 : decode cX7_leaveAll 3 = .ok (.iconst 4, 1) ∧ 3 + 1 = 4 := ⟨by decide +kernel, rfl⟩
theorem dX7_leaveAll_4 : decode cX7_leaveAll 4 = .ok (.if_icmp .ge 25, 3) ∧ 4 + 3 = 7 ∧ ((4 : Nat) : Int) + 25 = ((29 : Nat) : Int) := ⟨by decide +kernel, rfl, rfl⟩
theorem dX7_leaveAll_7 : decode cX7_leaveAll 7 = .ok (.aload_n 0, 1) ∧ 7 + 1 = 8 := ⟨by decide +kernel, rfl⟩
theorem dX7_leaveAll_8 : decode cX7_leaveAll 8 = .ok (.getfield 56, 3) ∧ 8 + 3 = 11 := ⟨by decide +kernel, rfl⟩
theorem dX7_leaveAll_11 : decode cX7_leaveAll 11 = .ok (.iload_n 2, 1) ∧ 11 + 1 = 12 := ⟨by decide +kernel, rfl⟩
theorem dX7_leaveAll_12 : decode cX7_leaveAll 12 = .ok (.aload_n 0, 1) ∧ 12 + 1 = 13 := ⟨by decide +kernel, rfl⟩
theorem dX7_leaveAll_13 : decode cX7_leaveAll 13 = .ok (.getfield 22, 3) ∧ 13 + 3 = 16 := ⟨by decide +kernel, rfl⟩
theorem dX7_leaveAll_16 : decode cX7_leaveAll 16 = .ok (.iconst 4, 1) ∧ 16 + 1 = 17 := ⟨by decide +kernel, rfl⟩
theorem dX7_leaveAll_17 : decode cX7_leaveAll 17 = .ok (.iload_n 1, 1) ∧ 17 + 1 = 18 := ⟨by decide +kernel, rfl⟩
theorem dX7_leaveAll_18 : decode cX7_leaveAll 18 = .ok (.imul, 1) ∧ 18 + 1 = 19 := ⟨by decide +kernel, rfl⟩
theorem dX7_leaveAll_19 : decode cX7_leaveAll 19 = .ok (.iload_n 2, 1) ∧ 19 + 1 = 20 := ⟨by decide +kernel, rfl⟩
theorem dX7_leaveAll_20 : decode cX7_leaveAll 20 = .ok (.iadd, 1) ∧ 20 + 1 = 21 := ⟨by decide +kernel, rfl⟩
theorem dX7_leaveAll_21 : decode cX7_leaveAll 21 = .ok (.iaload, 1) ∧ 21 + 1 = 22 := ⟨by decide +kernel, rfl⟩
theorem dX7_leaveAll_22 : decode cX7_leaveAll 22 = .ok (.iastore, 1) ∧ 22 + 1 = 23 := ⟨by decide +kernel, rfl⟩
theorem dX7_leaveAll_23 : decode cX7_leaveAll 23 = .ok (.iinc 2 1, 3) ∧ 23 + 3 = 26 := ⟨by decide +kernel, rfl⟩
theorem dX7_leaveAll_26 : decode cX7_leaveAll 26 = .ok (.goto (-24), 3) ∧ ((26 : Nat) : Int) + (-24) = ((2 : Nat) : Int) := ⟨by decide +kernel, rfl⟩
theorem dX7_leaveAll_29 : decode cX7_leaveAll 29 = .ok (.return_, 1) ∧ 29 + 1 = 30 := ⟨by decide +kernel, rfl⟩
theorem dX7_addOther_0 : decode cX7_addOther 0 = .ok (.iconst 0, 1) ∧ 0 + 1 = 1 := ⟨by decide +kernel, rfl⟩
theorem dX7_addOther_1 : decode cX7_addOther 1 = .ok (.istore_n 3, 1) ∧ 1 + 1 = 2 := ⟨by decide +kernel, rfl⟩
theorem dX7_addOther_2 : decode cX7_addOther 2 = .ok (.iload_n 3, 1) ∧ 2 + 1 = 3 := ⟨by decide +kernel, rfl⟩
theorem dX7_addOther_3 : decode cX7_addOther 3 = .ok (.bipush 16, 2) ∧ 3 + 2 = 5 := ⟨by decide +kernel, rfl⟩
theorem dX7_addOther_5 : decode cX7_addOther 5 = .ok (.if_icmp .ge 36, 3) ∧ 5 + 3 = 8 ∧ ((5 : Nat) : Int) + 36 = ((41 : Nat) : Int) := ⟨by decide +kernel, rfl, rfl⟩
theorem dX7_addOther_8 : decode cX7_addOther 8 = .ok (.aload_n 0, 1) ∧ 8 + 1 = 9 := ⟨by decide +kernel, rfl⟩
theorem dX7_addOther_9 : decode cX7_addOther 9 = .ok (.getfield 50, 3) ∧ 9 + 3 = 12 := ⟨by decide +kernel, rfl⟩
theorem dX7_addOther_12 : decode cX7_addOther 12 = .ok (.iload_n 3, 1) ∧ 12 + 1 = 13 := ⟨by decide +kernel, rfl⟩
theorem dX7_addOther_13 : decode cX7_addOther 13 = .ok (.dup2, 1) ∧ 13 + 1 = 14 := ⟨by decide +kernel, rfl⟩
theorem dX7_addOther_14 : decode cX7_addOther 14 = .ok (.iaload, 1) ∧ 14 + 1 = 15 := ⟨by decide +kernel, rfl⟩
theorem dX7_addOther_15 : decode cX7_addOther 15 = .ok (.aload_n 0, 1) ∧ 15 + 1 = 16 := ⟨by decide +kernel, rfl⟩
theorem dX7_addOther_16 : decode cX7_addOther 16 = .ok (.iload_n 1, 1) ∧ 16 + 1 = 17 := ⟨by decide +kernel, rfl⟩
theorem dX7_addOther_17 : decode cX7_addOther 17 = .ok (.iconst 3, 1) ∧ 17 + 1 = 18 := ⟨by decide +kernel, rfl⟩
theorem dX7_addOther_18 : decode cX7_addOther 18 = .ok (.invokevirtual 103, 3) ∧ 18 + 3 = 21 := ⟨by decide +kernel, rfl⟩
theorem dX7_addOther_21 : decode cX7_addOther 21 = .ok (.iload_n 3, 1) ∧ 21 + 1 = 22 := ⟨by decide +kernel, rfl⟩
theorem dX7_addOther_22 : decode cX7_addOther 22 = .ok (.iconst (-1), 1) ∧ 22 + 1 = 23 := ⟨by decide +kernel, rfl⟩
theorem dX7_addOther_23 : decode cX7_addOther 23 = .ok (.ixor, 1) ∧ 23 + 1 = 24 := ⟨by decide +kernel, rfl⟩
theorem dX7_addOther_24 : decode cX7_addOther 24 = .ok (.iand, 1) ∧ 24 + 1 = 25 := ⟨by decide +kernel, rfl⟩
theorem dX7_addOther_25 : decode cX7_addOther 25 = .ok (.ifCond .eq 7, 3) ∧ 25 + 3 = 28 ∧ ((25 : Nat) : Int) + 7 = ((32 : Nat) : Int) := ⟨by decide +kernel, rfl, rfl⟩
theorem dX7_addOther_28 : decode cX7_addOther 28 = .ok (.iload_n 2, 1) ∧ 28 + 1 = 29 := ⟨by decide +kernel, rfl⟩
theorem dX7_addOther_29 : decode cX7_addOther 29 = .ok (.goto 4, 3) ∧ ((29 : Nat) : Int) + 4 = ((33 : Nat) : Int) := ⟨by decide +kernel, rfl⟩
theorem dX7_addOther_32 : decode cX7_addOther 32 = .ok (.iconst 0, 1) ∧ 32 + 1 = 33 := ⟨by decide +kernel, rfl⟩
theorem dX7_addOther_33 : decode cX7_addOther 33 = .ok (.iadd, 1) ∧ 33 + 1 = 34 := ⟨by decide +kernel, rfl⟩
theorem dX7_addOther_34 : decode cX7_addOther 34 = .ok (.iastore, 1) ∧ 34 + 1 = 35 := ⟨by decide +kernel, rfl⟩
theorem dX7_addOther_35 : decode cX7_addOther 35 = .ok (.iinc 3 1, 3) ∧ 35 + 3 = 38 := ⟨by decide +kernel, rfl⟩
theorem dX7_addOther_38 : decode cX7_addOther 38 = .ok (.goto (-36), 3) ∧ ((38 : Nat) : Int) + (-36) = ((2 : Nat) : Int) := ⟨by decide +kernel, rfl⟩
theorem dX7_addOther_41 : decode cX7_addOther 41 = .ok (.return_, 1) ∧ 41 + 1 = 42 := ⟨by decide +kernel, rfl⟩
theorem dX7_noOthers_0 : decode cX7_noOthers 0 = .ok (.iconst 0, 1) ∧ 0 + 1 = 1 := ⟨by decide +kernel, rfl⟩
theorem dX7_noOthers_1 : decode cX7_noOthers 1 = .ok (.istore_n 1, 1) ∧ 1 + 1 = 2 := ⟨by decide +kernel, rfl⟩
theorem dX7_noOthers_2 : decode cX7_noOthers 2 = .ok (.iload_n 1, 1) ∧ 2 + 1 = 3 := ⟨by decide +kernel, rfl⟩
theorem dX7_noOthers_3 : decode cX7_noOthers 3 = .ok (.bipush 16, 2) ∧ 3 + 2 = 5 := ⟨by decide +kernel, rfl⟩
theorem dX7_noOthers_5 : decode cX7_noOthers 5 = .ok (.if_icmp .ge 16, 3) ∧ 5 + 3 = 8 ∧ ((5 : Nat) : Int) + 16 = ((21 : Nat) : Int) := ⟨by decide +kernel, rfl, rfl⟩
theorem dX7_noOthers_8 : decode cX7_noOthers 8 = .ok (.aload_n 0, 1) ∧ 8 + 1 = 9 := ⟨by decide +kernel, rfl⟩
theorem dX7_noOthers_9 : decode cX7_noOthers 9 = .ok (.getfield 50, 3) ∧ 9 + 3 = 12 := ⟨by decide +kernel, rfl⟩
theorem dX7_noOthers_12 : decode cX7_noOthers 12 = .ok (.iload_n 1, 1) ∧ 12 + 1 = 13 := ⟨by decide +kernel, rfl⟩
theorem dX7_noOthers_13 : decode cX7_noOthers 13 = .ok (.iconst 0, 1) ∧ 13 + 1 = 14 := ⟨by decide +kernel, rfl⟩
theorem dX7_noOthers_14 : decode cX7_noOthers 14 = .ok (.iastore, 1) ∧ 14 + 1 = 15 := ⟨by decide +kernel, rfl⟩
theorem dX7_noOthers_15 : decode cX7_noOthers 15 = .ok (.iinc 1 1, 3) ∧ 15 + 3 = 18 := ⟨by decide +kernel, rfl⟩
theorem dX7_noOthers_18 : decode cX7_noOthers 18 = .ok (.goto (-16), 3) ∧ ((18 : Nat) : Int) + (-16) = ((2 : Nat) : Int) := ⟨by decide +kernel, rfl⟩
theorem dX7_noOthers_21 : decode cX7_noOthers 21 = .ok (.return_, 1) ∧ 21 + 1 = 22 := ⟨by decide +kernel, rfl⟩
theorem dX7_leastCut_0 : decode cX7_leastCut 0 = .ok (.bipush 16, 2) ∧ 0 + 2 = 2 := ⟨by decide +kernel, rfl⟩
theorem dX7_leastCut_2 : decode cX7_leastCut 2 = .ok (.istore_n 2, 1) ∧ 2 + 1 = 3 := ⟨by decide +kernel, rfl⟩
theorem dX7_leastCut_3 : decode cX7_leastCut 3 = .ok (.iconst 0, 1) ∧ 3 + 1 = 4 := ⟨by decide +kernel, rfl⟩
theorem dX7_leastCut_4 : decode cX7_leastCut 4 = .ok (.istore_n 3, 1) ∧ 4 + 1 = 5 := ⟨by decide +kernel, rfl⟩
theorem dX7_leastCut_5 : decode cX7_leastCut 5 = .ok (.iload_n 3, 1) ∧ 5 + 1 = 6 := ⟨by decide +kernel, rfl⟩
theorem dX7_leastCut_6 : decode cX7_leastCut 6 = .ok (.bipush 16, 2) ∧ 6 + 2 = 8 := ⟨by decide +kernel, rfl⟩
theorem dX7_leastCut_8 : decode cX7_leastCut 8 = .ok (.if_icmp .ge 59, 3) ∧ 8 + 3 = 11 ∧ ((8 : Nat) : Int) + 59 = ((67 : Nat) : Int) := ⟨by decide +kernel, rfl, rfl⟩
theorem dX7_leastCut_11 : decode cX7_leastCut 11 = .ok (.aload_n 0, 1) ∧ 11 + 1 = 12 := ⟨by decide +kernel, rfl⟩
theorem dX7_leastCut_12 : decode cX7_leastCut 12 = .ok (.getfield 47, 3) ∧ 12 + 3 = 15 := ⟨by decide +kernel, rfl⟩
theorem dX7_leastCut_15 : decode cX7_leastCut 15 = .ok (.iload_n 3, 1) ∧ 15 + 1 = 16 := ⟨by decide +kernel, rfl⟩
theorem dX7_leastCut_16 : decode cX7_leastCut 16 = .ok (.iaload, 1) ∧ 16 + 1 = 17 := ⟨by decide +kernel, rfl⟩
theorem dX7_leastCut_17 : decode cX7_leastCut 17 = .ok (.aload_n 0, 1) ∧ 17 + 1 = 18 := ⟨by decide +kernel, rfl⟩
theorem dX7_leastCut_18 : decode cX7_leastCut 18 = .ok (.getfield 50, 3) ∧ 18 + 3 = 21 := ⟨by decide +kernel, rfl⟩
theorem dX7_leastCut_21 : decode cX7_leastCut 21 = .ok (.iload_n 3, 1) ∧ 21 + 1 = 22 := ⟨by decide +kernel, rfl⟩
theorem dX7_leastCut_22 : decode cX7_leastCut 22 = .ok (.iaload, 1) ∧ 22 + 1 = 23 := ⟨by decide +kernel, rfl⟩
theorem dX7_leastCut_23 : decode cX7_leastCut 23 = .ok (.iadd, 1) ∧ 23 + 1 = 24 := ⟨by decide +kernel, rfl⟩
theorem dX7_leastCut_24 : decode cX7_leastCut 24 = .ok (.iload_n 1, 1) ∧ 24 + 1 = 25 := ⟨by decide +kernel, rfl⟩
theorem dX7_leastCut_25 : decode cX7_leastCut 25 = .ok (.bipush (-9), 2) ∧ 25 + 2 = 27 := ⟨by decide +kernel, rfl⟩
theorem dX7_leastCut_27 : decode cX7_leastCut 27 = .ok (.if_icmp .ne 7, 3) ∧ 27 + 3 = 30 ∧ ((27 : Nat) : Int) + 7 = ((34 : Nat) : Int) := ⟨by decide +kernel, rfl, rfl⟩
theorem dX7_leastCut_30 : decode cX7_leastCut 30 = .ok (.iconst 0, 1) ∧ 30 + 1 = 31 := ⟨by decide +kernel, rfl⟩
theorem dX7_leastCut_31 : decode cX7_leastCut 31 = .ok (.goto 14, 3) ∧ ((31 : Nat) : Int) + 14 = ((45 : Nat) : Int) := ⟨by decide +kernel, rfl⟩
theorem dX7_leastCut_34 : decode cX7_leastCut 34 = .ok (.aload_n 0, 1) ∧ 34 + 1 = 35 := ⟨by decide +kernel, rfl⟩
theorem dX7_leastCut_35 : decode cX7_leastCut 35 = .ok (.getfield 53, 3) ∧ 35 + 3 = 38 := ⟨by decide +kernel, rfl⟩
theorem dX7_leastCut_38 : decode cX7_leastCut 38 = .ok (.bipush 16, 2) ∧ 38 + 2 = 40 := ⟨by decide +kernel, rfl⟩
theorem dX7_leastCut_40 : decode cX7_leastCut 40 = .ok (.iload_n 1, 1) ∧ 40 + 1 = 41 := ⟨by decide +kernel, rfl⟩
theorem dX7_leastCut_41 : decode cX7_leastCut 41 = .ok (.imul, 1) ∧ 41 + 1 = 42 := ⟨by decide +kernel, rfl⟩
theorem dX7_leastCut_42 : decode cX7_leastCut 42 = .ok (.iload_n 3, 1) ∧ 42 + 1 = 43 := ⟨by decide +kernel, rfl⟩
theorem dX7_leastCut_43 : decode cX7_leastCut 43 = .ok (.iadd, 1) ∧ 43 + 1 = 44 := ⟨by decide +kernel, rfl⟩
theorem dX7_leastCut_44 : decode cX7_leastCut 44 = .ok (.iaload, 1) ∧ 44 + 1 = 45 := ⟨by decide +kernel, rfl⟩
theorem dX7_leastCut_45 : decode cX7_leastCut 45 = .ok (.iadd, 1) ∧ 45 + 1 = 46 := ⟨by decide +kernel, rfl⟩
theorem dX7_leastCut_46 : decode cX7_leastCut 46 = .ok (.istore 4, 2) ∧ 46 + 2 = 48 := ⟨by decide +kernel, rfl⟩
theorem dX7_leastCut_48 : decode cX7_leastCut 48 = .ok (.iload 4, 2) ∧ 48 + 2 = 50 := ⟨by decide +kernel, rfl⟩
theorem dX7_leastCut_50 : decode cX7_leastCut 50 = .ok (.iload_n 2, 1) ∧ 50 + 1 = 51 := ⟨by decide +kernel, rfl⟩
theorem dX7_leastCut_51 : decode cX7_leastCut 51 = .ok (.if_icmp .ge 8, 3) ∧ 51 + 3 = 54 ∧ ((51 : Nat) : Int) + 8 = ((59 : Nat) : Int) := ⟨by decide +kernel, rfl, rfl⟩
theorem dX7_leastCut_54 : decode cX7_leastCut 54 = .ok (.iload 4, 2) ∧ 54 + 2 = 56 := ⟨by decide +kernel, rfl⟩
theorem dX7_leastCut_56 : decode cX7_leastCut 56 = .ok (.goto 4, 3) ∧ ((56 : Nat) : Int) + 4 = ((60 : Nat) : Int) := ⟨by decide +kernel, rfl⟩
theorem dX7_leastCut_59 : decode cX7_leastCut 59 = .ok (.iload_n 2, 1) ∧ 59 + 1 = 60 := ⟨by decide +kernel, rfl⟩
theorem dX7_leastCut_60 : decode cX7_leastCut 60 = .ok (.istore_n 2, 1) ∧ 60 + 1 = 61 := ⟨by decide +kernel, rfl⟩
theorem dX7_leastCut_61 : decode cX7_leastCut 61 = .ok (.iinc 3 1, 3) ∧ 61 + 3 = 64 := ⟨by decide +kernel, rfl⟩
theorem dX7_leastCut_64 : decode cX7_leastCut 64 = .ok (.goto (-59), 3) ∧ ((64 : Nat) : Int) + (-59) = ((5 : Nat) : Int) := ⟨by decide +kernel, rfl⟩
theorem dX7_leastCut_67 : decode cX7_leastCut 67 = .ok (.iload_n 2, 1) ∧ 67 + 1 = 68 := ⟨by decide +kernel, rfl⟩
theorem dX7_leastCut_68 : decode cX7_leastCut 68 = .ok (.ireturn, 1) ∧ 68 + 1 = 69 := ⟨by decide +kernel, rfl⟩
theorem dX7_findCandidates_0 : decode cX7_findCandidates 0 = .ok (.aload_n 0, 1) ∧ 0 + 1 = 1 := ⟨by decide +kernel, rfl⟩
theorem dX7_findCandidates_1 : decode cX7_findCandidates 1 = .ok (.iconst 0, 1) ∧ 1 + 1 = 2 := ⟨by decide +kernel, rfl⟩
theorem dX7_findCandidates_2 : decode cX7_findCandidates 2 = .ok (.putfield 123, 3) ∧ 2 + 3 = 5 := ⟨by decide +kernel, rfl⟩
theorem dX7_findCandidates_5 : decode cX7_findCandidates 5 = .ok (.iconst 0, 1) ∧ 5 + 1 = 6 := ⟨by decide +kernel, rfl⟩
theorem dX7_findCandidates_6 : decode cX7_findCandidates 6 = .ok (.istore_n 2, 1) ∧ 6 + 1 = 7 := ⟨by decide +kernel, rfl⟩
theorem dX7_findCandidates_7 : decode cX7_findCandidates 7 = .ok (.iload_n 2, 1) ∧ 7 + 1 = 8 := ⟨by decide +kernel, rfl⟩
theorem dX7_findCandidates_8 : decode cX7_findCandidates 8 = .ok (.aload_n 0, 1) ∧ 8 + 1 = 9 := ⟨by decide +kernel, rfl⟩
theorem dX7_findCandidates_9 : decode cX7_findCandidates 9 = .ok (.getfield 7, 3) ∧ 9 + 3 = 12 := ⟨by decide +kernel, rfl⟩
theorem dX7_findCandidates_12 : decode cX7_findCandidates 12 = .ok (.sipush 157, 3) ∧ 12 + 3 = 15 := ⟨by decide +kernel, rfl⟩
theorem dX7_findCandidates_15 : decode cX7_findCandidates 15 = .ok (.iaload, 1) ∧ 15 + 1 = 16 := ⟨by decide +kernel, rfl⟩
theorem dX7_findCandidates_16 : decode cX7_findCandidates 16 = .ok (.if_icmp .ge 74, 3) ∧ 16 + 3 = 19 ∧ ((16 : Nat) : Int) + 74 = ((90 : Nat) : Int) := ⟨by decide +kernel, rfl, rfl⟩
theorem dX7_findCandidates_19 : decode cX7_findCandidates 19 = .ok (.aload_n 0, 1) ∧ 19 + 1 = 20 := ⟨by decide +kernel, rfl⟩
theorem dX7_findCandidates_20 : decode cX7_findCandidates 20 = .ok (.getfield 16, 3) ∧ 20 + 3 = 23 := ⟨by decide +kernel, rfl⟩
theorem dX7_findCandidates_23 : decode cX7_findCandidates 23 = .ok (.iload_n 2, 1) ∧ 23 + 1 = 24 := ⟨by decide +kernel, rfl⟩
theorem dX7_findCandidates_24 : decode cX7_findCandidates 24 = .ok (.iaload, 1) ∧ 24 + 1 = 25 := ⟨by decide +kernel, rfl⟩
theorem dX7_findCandidates_25 : decode cX7_findCandidates 25 = .ok (.istore_n 3, 1) ∧ 25 + 1 = 26 := ⟨by decide +kernel, rfl⟩
theorem dX7_findCandidates_26 : decode cX7_findCandidates 26 = .ok (.aload_n 0, 1) ∧ 26 + 1 = 27 := ⟨by decide +kernel, rfl⟩
theorem dX7_findCandidates_27 : decode cX7_findCandidates 27 = .ok (.iload_n 3, 1) ∧ 27 + 1 = 28 := ⟨by decide +kernel, rfl⟩
theorem dX7_findCandidates_28 : decode cX7_findCandidates 28 = .ok (.invokevirtual 126, 3) ∧ 28 + 3 = 31 := ⟨by decide +kernel, rfl⟩
theorem dX7_findCandidates_31 : decode cX7_findCandidates 31 = .ok (.ifCond .eq 53, 3) ∧ 31 + 3 = 34 ∧ ((31 : Nat) : Int) + 53 = ((84 : Nat) : Int) := ⟨by decide +kernel, rfl, rfl⟩
theorem dX7_findCandidates_34 : decode cX7_findCandidates 34 = .ok (.aload_n 0, 1) ∧ 34 + 1 = 35 := ⟨by decide +kernel, rfl⟩
theorem dX7_findCandidates_35 : decode cX7_findCandidates 35 = .ok (.getfield 31, 3) ∧ 35 + 3 = 38 := ⟨by decide +kernel, rfl⟩
theorem dX7_findCandidates_38 : decode cX7_findCandidates 38 = .ok (.iload_n 3, 1) ∧ 38 + 1 = 39 := ⟨by decide +kernel, rfl⟩
theorem dX7_findCandidates_39 : decode cX7_findCandidates 39 = .ok (.iaload, 1) ∧ 39 + 1 = 40 := ⟨by decide +kernel, rfl⟩
theorem dX7_findCandidates_40 : decode cX7_findCandidates 40 = .ok (.bipush (-9), 2) ∧ 40 + 2 = 42 := ⟨by decide +kernel, rfl⟩
theorem dX7_findCandidates_42 : decode cX7_findCandidates 42 = .ok (.if_icmp .ne 42, 3) ∧ 42 + 3 = 45 ∧ ((42 : Nat) : Int) + 42 = ((84 : Nat) : Int) := ⟨by decide +kernel, rfl, rfl⟩
theorem dX7_findCandidates_45 : decode cX7_findCandidates 45 = .ok (.aload_n 0, 1) ∧ 45 + 1 = 46 := ⟨by decide +kernel, rfl⟩
theorem dX7_findCandidates_46 : decode cX7_findCandidates 46 = .ok (.iload_n 3, 1) ∧ 46 + 1 = 47 := ⟨by decide +kernel, rfl⟩
theorem dX7_findCandidates_47 : decode cX7_findCandidates 47 = .ok (.iload_n 1, 1) ∧ 47 + 1 = 48 := ⟨by decide +kernel, rfl⟩
theorem dX7_findCandidates_48 : decode cX7_findCandidates 48 = .ok (.invokevirtual 129, 3) ∧ 48 + 3 = 51 := ⟨by decide +kernel, rfl⟩
theorem dX7_findCandidates_51 : decode cX7_findCandidates 51 = .ok (.ifCond .eq 33, 3) ∧ 51 + 3 = 54 ∧ ((51 : Nat) : Int) + 33 = ((84 : Nat) : Int) := ⟨by decide +kernel, rfl, rfl⟩
theorem dX7_findCandidates_54 : decode cX7_findCandidates 54 = .ok (.aload_n 0, 1) ∧ 54 + 1 = 55 := ⟨by decide +kernel, rfl⟩
theorem dX7_findCandidates_55 : decode cX7_findCandidates 55 = .ok (.getfield 41, 3) ∧ 55 + 3 = 58 := ⟨by decide +kernel, rfl⟩
theorem dX7_findCandidates_58 : decode cX7_findCandidates 58 = .ok (.aload_n 0, 1) ∧ 58 + 1 = 59 := ⟨by decide +kernel, rfl⟩
theorem dX7_findCandidates_59 : decode cX7_findCandidates 59 = .ok (.getfield 123, 3) ∧ 59 + 3 = 62 := ⟨by decide +kernel, rfl⟩
theorem dX7_findCandidates_62 : decode cX7_findCandidates 62 = .ok (.iload_n 3, 1) ∧ 62 + 1 = 63 := ⟨by decide +kernel, rfl⟩
theorem dX7_findCandidates_63 : decode cX7_findCandidates 63 = .ok (.iastore, 1) ∧ 63 + 1 = 64 := ⟨by decide +kernel, rfl⟩
theorem dX7_findCandidates_64 : decode cX7_findCandidates 64 = .ok (.aload_n 0, 1) ∧ 64 + 1 = 65 := ⟨by decide +kernel, rfl⟩
theorem dX7_findCandidates_65 : decode cX7_findCandidates 65 = .ok (.getfield 44, 3) ∧ 65 + 3 = 68 := ⟨by decide +kernel, rfl⟩
theorem dX7_findCandidates_68 : decode cX7_findCandidates 68 = .ok (.aload_n 0, 1) ∧ 68 + 1 = 69 := ⟨by decide +kernel, rfl⟩
theorem dX7_findCandidates_69 : decode cX7_findCandidates 69 = .ok (.getfield 123, 3) ∧ 69 + 3 = 72 := ⟨by decide +kernel, rfl⟩
theorem dX7_findCandidates_72 : decode cX7_findCandidates 72 = .ok (.iconst 0, 1) ∧ 72 + 1 = 73 := ⟨by decide +kernel, rfl⟩
theorem dX7_findCandidates_73 : decode cX7_findCandidates 73 = .ok (.bastore, 1) ∧ 73 + 1 = 74 := ⟨by decide +kernel, rfl⟩
theorem dX7_findCandidates_74 : decode cX7_findCandidates 74 = .ok (.aload_n 0, 1) ∧ 74 + 1 = 75 := ⟨by decide +kernel, rfl⟩
theorem dX7_findCandidates_75 : decode cX7_findCandidates 75 = .ok (.dup, 1) ∧ 75 + 1 = 76 := ⟨by decide +kernel, rfl⟩
theorem dX7_findCandidates_76 : decode cX7_findCandidates 76 = .ok (.getfield 123, 3) ∧ 76 + 3 = 79 := ⟨by decide +kernel, rfl⟩
theorem dX7_findCandidates_79 : decode cX7_findCandidates 79 = .ok (.iconst 1, 1) ∧ 79 + 1 = 80 := ⟨by decide +kernel, rfl⟩
theorem dX7_findCandidates_80 : decode cX7_findCandidates 80 = .ok (.iadd, 1) ∧ 80 + 1 = 81 := ⟨by decide +kernel, rfl⟩
theorem dX7_findCandidates_81 : decode cX7_findCandidates 81 = .ok (.putfield 123, 3) ∧ 81 + 3 = 84 := ⟨by decide +kernel, rfl⟩
theorem dX7_findCandidates_84 : decode cX7_findCandidates 84 = .ok (.iinc 2 1, 3) ∧ 84 + 3 = 87 := ⟨by decide +kernel, rfl⟩
theorem dX7_findCandidates_87 : decode cX7_findCandidates 87 = .ok (.goto (-80), 3) ∧ ((87 : Nat) : Int) + (-80) = ((7 : Nat) : Int) := ⟨by decide +kernel, rfl⟩
theorem dX7_findCandidates_90 : decode cX7_findCandidates 90 = .ok (.return_, 1) ∧ 90 + 1 = 91 := ⟨by decide +kernel, rfl⟩
theorem dX7_findBehind_0 : decode cX7_findBehind 0 = .ok (.iconst 0, 1) ∧ 0 + 1 = 1 := ⟨by decide +kernel, rfl⟩
theorem dX7_findBehind_1 : decode cX7_findBehind 1 = .ok (.istore_n 1, 1) ∧ 1 + 1 = 2 := ⟨by decide +kernel, rfl⟩
theorem dX7_findBehind_2 : decode cX7_findBehind 2 = .ok (.iload_n 1, 1) ∧ 2 + 1 = 3 := ⟨by decide +kernel, rfl⟩
theorem dX7_findBehind_3 : decode cX7_findBehind 3 = .ok (.bipush 16, 2) ∧ 3 + 2 = 5 := ⟨by decide +kernel, rfl⟩
theorem dX7_findBehind_5 : decode cX7_findBehind 5 = .ok (.if_icmp .ge 100, 3) ∧ 5 + 3 = 8 ∧ ((5 : Nat) : Int) + 100 = ((105 : Nat) : Int) := ⟨by decide +kernel, rfl, rfl⟩
theorem dX7_findBehind_8 : decode cX7_findBehind 8 = .ok (.aload_n 0, 1) ∧ 8 + 1 = 9 := ⟨by decide +kernel, rfl⟩
theorem dX7_findBehind_9 : decode cX7_findBehind 9 = .ok (.getfield 53, 3) ∧ 9 + 3 = 12 := ⟨by decide +kernel, rfl⟩
theorem dX7_findBehind_12 : decode cX7_findBehind 12 = .ok (.bipush 16, 2) ∧ 12 + 2 = 14 := ⟨by decide +kernel, rfl⟩
theorem dX7_findBehind_14 : decode cX7_findBehind 14 = .ok (.aload_n 0, 1) ∧ 14 + 1 = 15 := ⟨by decide +kernel, rfl⟩
theorem dX7_findBehind_15 : decode cX7_findBehind 15 = .ok (.getfield 123, 3) ∧ 15 + 3 = 18 := ⟨by decide +kernel, rfl⟩
theorem dX7_findBehind_18 : decode cX7_findBehind 18 = .ok (.imul, 1) ∧ 18 + 1 = 19 := ⟨by decide +kernel, rfl⟩
theorem dX7_findBehind_19 : decode cX7_findBehind 19 = .ok (.iload_n 1, 1) ∧ 19 + 1 = 20 := ⟨by decide +kernel, rfl⟩
theorem dX7_findBehind_20 : decode cX7_findBehind 20 = .ok (.iadd, 1) ∧ 20 + 1 = 21 := ⟨by decide +kernel, rfl⟩
theorem dX7_findBehind_21 : decode cX7_findBehind 21 = .ok (.iconst 0, 1) ∧ 21 + 1 = 22 := ⟨by decide +kernel, rfl⟩
theorem dX7_findBehind_22 : decode cX7_findBehind 22 = .ok (.iastore, 1) ∧ 22 + 1 = 23 := ⟨by decide +kernel, rfl⟩
theorem dX7_findBehind_23 : decode cX7_findBehind 23 = .ok (.aload_n 0, 1) ∧ 23 + 1 = 24 := ⟨by decide +kernel, rfl⟩
theorem dX7_findBehind_24 : decode cX7_findBehind 24 = .ok (.getfield 123, 3) ∧ 24 + 3 = 27 := ⟨by decide +kernel, rfl⟩
theorem dX7_findBehind_27 : decode cX7_findBehind 27 = .ok (.iconst 1, 1) ∧ 27 + 1 = 28 := ⟨by decide +kernel, rfl⟩
theorem dX7_findBehind_28 : decode cX7_findBehind 28 = .ok (.isub, 1) ∧ 28 + 1 = 29 := ⟨by decide +kernel, rfl⟩
theorem dX7_findBehind_29 : decode cX7_findBehind 29 = .ok (.istore_n 2, 1) ∧ 29 + 1 = 30 := ⟨by decide +kernel, rfl⟩
theorem dX7_findBehind_30 : decode cX7_findBehind 30 = .ok (.iload_n 2, 1) ∧ 30 + 1 = 31 := ⟨by decide +kernel, rfl⟩
theorem dX7_findBehind_31 : decode cX7_findBehind 31 = .ok (.ifCond .lt 68, 3) ∧ 31 + 3 = 34 ∧ ((31 : Nat) : Int) + 68 = ((99 : Nat) : Int) := ⟨by decide +kernel, rfl, rfl⟩
theorem dX7_findBehind_34 : decode cX7_findBehind 34 = .ok (.aload_n 0, 1) ∧ 34 + 1 = 35 := ⟨by decide +kernel, rfl⟩
theorem dX7_findBehind_35 : decode cX7_findBehind 35 = .ok (.aload_n 0, 1) ∧ 35 + 1 = 36 := ⟨by decide +kernel, rfl⟩
theorem dX7_findBehind_36 : decode cX7_findBehind 36 = .ok (.getfield 41, 3) ∧ 36 + 3 = 39 := ⟨by decide +kernel, rfl⟩
theorem dX7_findBehind_39 : decode cX7_findBehind 39 = .ok (.iload_n 2, 1) ∧ 39 + 1 = 40 := ⟨by decide +kernel, rfl⟩
theorem dX7_findBehind_40 : decode cX7_findBehind 40 = .ok (.iaload, 1) ∧ 40 + 1 = 41 := ⟨by decide +kernel, rfl⟩
theorem dX7_findBehind_41 : decode cX7_findBehind 41 = .ok (.iconst 3, 1) ∧ 41 + 1 = 42 := ⟨by decide +kernel, rfl⟩
theorem dX7_findBehind_42 : decode cX7_findBehind 42 = .ok (.invokevirtual 103, 3) ∧ 42 + 3 = 45 := ⟨by decide +kernel, rfl⟩
theorem dX7_findBehind_45 : decode cX7_findBehind 45 = .ok (.iload_n 1, 1) ∧ 45 + 1 = 46 := ⟨by decide +kernel, rfl⟩
theorem dX7_findBehind_46 : decode cX7_findBehind 46 = .ok (.iconst (-1), 1) ∧ 46 + 1 = 47 := ⟨by decide +kernel, rfl⟩
theorem dX7_findBehind_47 : decode cX7_findBehind 47 = .ok (.ixor, 1) ∧ 47 + 1 = 48 := ⟨by decide +kernel, rfl⟩
theorem dX7_findBehind_48 : decode cX7_findBehind 48 = .ok (.iand, 1) ∧ 48 + 1 = 49 := ⟨by decide +kernel, rfl⟩
theorem dX7_findBehind_49 : decode cX7_findBehind 49 = .ok (.ifCond .eq 7, 3) ∧ 49 + 3 = 52 ∧ ((49 : Nat) : Int) + 7 = ((56 : Nat) : Int) := ⟨by decide +kernel, rfl, rfl⟩
theorem dX7_findBehind_52 : decode cX7_findBehind 52 = .ok (.iconst 1, 1) ∧ 52 + 1 = 53 := ⟨by decide +kernel, rfl⟩
theorem dX7_findBehind_53 : decode cX7_findBehind 53 = .ok (.goto 4, 3) ∧ ((53 : Nat) : Int) + 4 = ((57 : Nat) : Int) := ⟨by decide +kernel, rfl⟩
theorem dX7_findBehind_56 : decode cX7_findBehind 56 = .ok (.iconst 0, 1) ∧ 56 + 1 = 57 := ⟨by decide +kernel, rfl⟩
theorem dX7_findBehind_57 : decode cX7_findBehind 57 = .ok (.istore_n 3, 1) ∧ 57 + 1 = 58 := ⟨by decide +kernel, rfl⟩
theorem dX7_findBehind_58 : decode cX7_findBehind 58 = .ok (.aload_n 0, 1) ∧ 58 + 1 = 59 := ⟨by decide +kernel, rfl⟩
theorem dX7_findBehind_59 : decode cX7_findBehind 59 = .ok (.getfield 53, 3) ∧ 59 + 3 = 62 := ⟨by decide +kernel, rfl⟩
theorem dX7_findBehind_62 : decode cX7_findBehind 62 = .ok (.bipush 16, 2) ∧ 62 + 2 = 64 := ⟨by decide +kernel, rfl⟩
theorem dX7_findBehind_64 : decode cX7_findBehind 64 = .ok (.iload_n 2, 1) ∧ 64 + 1 = 65 := ⟨by decide +kernel, rfl⟩
theorem dX7_findBehind_65 : decode cX7_findBehind 65 = .ok (.imul, 1) ∧ 65 + 1 = 66 := ⟨by decide +kernel, rfl⟩
theorem dX7_findBehind_66 : decode cX7_findBehind 66 = .ok (.iload_n 1, 1) ∧ 66 + 1 = 67 := ⟨by decide +kernel, rfl⟩
theorem dX7_findBehind_67 : decode cX7_findBehind 67 = .ok (.iadd, 1) ∧ 67 + 1 = 68 := ⟨by decide +kernel, rfl⟩
theorem dX7_findBehind_68 : decode cX7_findBehind 68 = .ok (.aload_n 0, 1) ∧ 68 + 1 = 69 := ⟨by decide +kernel, rfl⟩
theorem dX7_findBehind_69 : decode cX7_findBehind 69 = .ok (.getfield 53, 3) ∧ 69 + 3 = 72 := ⟨by decide +kernel, rfl⟩
theorem dX7_findBehind_72 : decode cX7_findBehind 72 = .ok (.bipush 16, 2) ∧ 72 + 2 = 74 := ⟨by decide +kernel, rfl⟩
theorem dX7_findBehind_74 : decode cX7_findBehind 74 = .ok (.iload_n 2, 1) ∧ 74 + 1 = 75 := ⟨by decide +kernel, rfl⟩
theorem dX7_findBehind_75 : decode cX7_findBehind 75 = .ok (.imul, 1) ∧ 75 + 1 = 76 := ⟨by decide +kernel, rfl⟩
theorem dX7_findBehind_76 : decode cX7_findBehind 76 = .ok (.bipush 16, 2) ∧ 76 + 2 = 78 := ⟨by decide +kernel, rfl⟩
theorem dX7_findBehind_78 : decode cX7_findBehind 78 = .ok (.iadd, 1) ∧ 78 + 1 = 79 := ⟨by decide +kernel, rfl⟩
theorem dX7_findBehind_79 : decode cX7_findBehind 79 = .ok (.iload_n 1, 1) ∧ 79 + 1 = 80 := ⟨by decide +kernel, rfl⟩
theorem dX7_findBehind_80 : decode cX7_findBehind 80 = .ok (.iadd, 1) ∧ 80 + 1 = 81 := ⟨by decide +kernel, rfl⟩
theorem dX7_findBehind_81 : decode cX7_findBehind 81 = .ok (.iaload, 1) ∧ 81 + 1 = 82 := ⟨by decide +kernel, rfl⟩
theorem dX7_findBehind_82 : decode cX7_findBehind 82 = .ok (.iload_n 3, 1) ∧ 82 + 1 = 83 := ⟨by decide +kernel, rfl⟩
theorem dX7_findBehind_83 : decode cX7_findBehind 83 = .ok (.ifCond .eq 7, 3) ∧ 83 + 3 = 86 ∧ ((83 : Nat) : Int) + 7 = ((90 : Nat) : Int) := ⟨by decide +kernel, rfl, rfl⟩
theorem dX7_findBehind_86 : decode cX7_findBehind 86 = .ok (.iconst 1, 1) ∧ 86 + 1 = 87 := ⟨by decide +kernel, rfl⟩
theorem dX7_findBehind_87 : decode cX7_findBehind 87 = .ok (.goto 4, 3) ∧ ((87 : Nat) : Int) + 4 = ((91 : Nat) : Int) := ⟨by decide +kernel, rfl⟩
theorem dX7_findBehind_90 : decode cX7_findBehind 90 = .ok (.iconst 0, 1) ∧ 90 + 1 = 91 := ⟨by decide +kernel, rfl⟩
theorem dX7_findBehind_91 : decode cX7_findBehind 91 = .ok (.iadd, 1) ∧ 91 + 1 = 92 := ⟨by decide +kernel, rfl⟩
theorem dX7_findBehind_92 : decode cX7_findBehind 92 = .ok (.iastore, 1) ∧ 92 + 1 = 93 := ⟨by decide +kernel, rfl⟩
theorem dX7_findBehind_93 : decode cX7_findBehind 93 = .ok (.iinc 2 (-1), 3) ∧ 93 + 3 = 96 := ⟨by decide +kernel, rfl⟩
theorem dX7_findBehind_96 : decode cX7_findBehind 96 = .ok (.goto (-66), 3) ∧ ((96 : Nat) : Int) + (-66) = ((30 : Nat) : Int) := ⟨by decide +kernel, rfl⟩
theorem dX7_findBehind_99 : decode cX7_findBehind 99 = .ok (.iinc 1 1, 3) ∧ 99 + 3 = 102 := ⟨by decide +kernel, rfl⟩
theorem dX7_findBehind_102 : decode cX7_findBehind 102 = .ok (.goto (-100), 3) ∧ ((102 : Nat) : Int) + (-100) = ((2 : Nat) : Int) := ⟨by decide +kernel, rfl⟩
theorem dX7_findBehind_105 : decode cX7_findBehind 105 = .ok (.return_, 1) ∧ 105 + 1 = 106 := ⟨by decide +kernel, rfl⟩
theorem dX7_takeFilling_0 : decode cX7_takeFilling 0 = .ok (.aload_n 0, 1) ∧ 0 + 1 = 1 := ⟨by decide +kernel, rfl⟩
theorem dX7_takeFilling_1 : decode cX7_takeFilling 1 = .ok (.iload_n 1, 1) ∧ 1 + 1 = 2 := ⟨by decide +kernel, rfl⟩
theorem dX7_takeFilling_2 : decode cX7_takeFilling 2 = .ok (.invokevirtual 132, 3) ∧ 2 + 3 = 5 := ⟨by decide +kernel, rfl⟩
theorem dX7_takeFilling_5 : decode cX7_takeFilling 5 = .ok (.aload_n 0, 1) ∧ 5 + 1 = 6 := ⟨by decide +kernel, rfl⟩
theorem dX7_takeFilling_6 : decode cX7_takeFilling 6 = .ok (.invokevirtual 135, 3) ∧ 6 + 3 = 9 := ⟨by decide +kernel, rfl⟩
theorem dX7_takeFilling_9 : decode cX7_takeFilling 9 = .ok (.aload_n 0, 1) ∧ 9 + 1 = 10 := ⟨by decide +kernel, rfl⟩
theorem dX7_takeFilling_10 : decode cX7_takeFilling 10 = .ok (.invokevirtual 138, 3) ∧ 10 + 3 = 13 := ⟨by decide +kernel, rfl⟩
theorem dX7_takeFilling_13 : decode cX7_takeFilling 13 = .ok (.aload_n 0, 1) ∧ 13 + 1 = 14 := ⟨by decide +kernel, rfl⟩
theorem dX7_takeFilling_14 : decode cX7_takeFilling 14 = .ok (.invokevirtual 141, 3) ∧ 14 + 3 = 17 := ⟨by decide +kernel, rfl⟩
theorem dX7_takeFilling_17 : decode cX7_takeFilling 17 = .ok (.aload_n 0, 1) ∧ 17 + 1 = 18 := ⟨by decide +kernel, rfl⟩
theorem dX7_takeFilling_18 : decode cX7_takeFilling 18 = .ok (.iconst 0, 1) ∧ 18 + 1 = 19 := ⟨by decide +kernel, rfl⟩
theorem dX7_takeFilling_19 : decode cX7_takeFilling 19 = .ok (.invokevirtual 144, 3) ∧ 19 + 3 = 22 := ⟨by decide +kernel, rfl⟩
theorem dX7_takeFilling_22 : decode cX7_takeFilling 22 = .ok (.istore_n 3, 1) ∧ 22 + 1 = 23 := ⟨by decide +kernel, rfl⟩
theorem dX7_takeFilling_23 : decode cX7_takeFilling 23 = .ok (.iload_n 3, 1) ∧ 23 + 1 = 24 := ⟨by decide +kernel, rfl⟩
theorem dX7_takeFilling_24 : decode cX7_takeFilling 24 = .ok (.iload_n 2, 1) ∧ 24 + 1 = 25 := ⟨by decide +kernel, rfl⟩
theorem dX7_takeFilling_25 : decode cX7_takeFilling 25 = .ok (.if_icmp .ge 7, 3) ∧ 25 + 3 = 28 ∧ ((25 : Nat) : Int) + 7 = ((32 : Nat) : Int) := ⟨by decide +kernel, rfl, rfl⟩
theorem dX7_takeFilling_28 : decode cX7_takeFilling 28 = .ok (.iload_n 3, 1) ∧ 28 + 1 = 29 := ⟨by decide +kernel, rfl⟩
theorem dX7_takeFilling_29 : decode cX7_takeFilling 29 = .ok (.goto 4, 3) ∧ ((29 : Nat) : Int) + 4 = ((33 : Nat) : Int) := ⟨by decide +kernel, rfl⟩
theorem dX7_takeFilling_32 : decode cX7_takeFilling 32 = .ok (.iload_n 2, 1) ∧ 32 + 1 = 33 := ⟨by decide +kernel, rfl⟩
theorem dX7_takeFilling_33 : decode cX7_takeFilling 33 = .ok (.istore_n 3, 1) ∧ 33 + 1 = 34 := ⟨by decide +kernel, rfl⟩
theorem dX7_takeFilling_34 : decode cX7_takeFilling 34 = .ok (.iload_n 2, 1) ∧ 34 + 1 = 35 := ⟨by decide +kernel, rfl⟩
theorem dX7_takeFilling_35 : decode cX7_takeFilling 35 = .ok (.istore 4, 2) ∧ 35 + 2 = 37 := ⟨by decide +kernel, rfl⟩
theorem dX7_takeFilling_37 : decode cX7_takeFilling 37 = .ok (.iconst 0, 1) ∧ 37 + 1 = 38 := ⟨by decide +kernel, rfl⟩
theorem dX7_takeFilling_38 : decode cX7_takeFilling 38 = .ok (.istore 5, 2) ∧ 38 + 2 = 40 := ⟨by decide +kernel, rfl⟩
theorem dX7_takeFilling_40 : decode cX7_takeFilling 40 = .ok (.iload 5, 2) ∧ 40 + 2 = 42 := ⟨by decide +kernel, rfl⟩
theorem dX7_takeFilling_42 : decode cX7_takeFilling 42 = .ok (.aload_n 0, 1) ∧ 42 + 1 = 43 := ⟨by decide +kernel, rfl⟩
theorem dX7_takeFilling_43 : decode cX7_takeFilling 43 = .ok (.getfield 123, 3) ∧ 43 + 3 = 46 := ⟨by decide +kernel, rfl⟩
theorem dX7_takeFilling_46 : decode cX7_takeFilling 46 = .ok (.if_icmp .ge 107, 3) ∧ 46 + 3 = 49 ∧ ((46 : Nat) : Int) + 107 = ((153 : Nat) : Int) := ⟨by decide +kernel, rfl, rfl⟩
theorem dX7_takeFilling_49 : decode cX7_takeFilling 49 = .ok (.iload 4, 2) ∧ 49 + 2 = 51 := ⟨by decide +kernel, rfl⟩
theorem dX7_takeFilling_51 : decode cX7_takeFilling 51 = .ok (.ifCond .le 102, 3) ∧ 51 + 3 = 54 ∧ ((51 : Nat) : Int) + 102 = ((153 : Nat) : Int) := ⟨by decide +kernel, rfl, rfl⟩
theorem dX7_takeFilling_54 : decode cX7_takeFilling 54 = .ok (.aload_n 0, 1) ∧ 54 + 1 = 55 := ⟨by decide +kernel, rfl⟩
theorem dX7_takeFilling_55 : decode cX7_takeFilling 55 = .ok (.aload_n 0, 1) ∧ 55 + 1 = 56 := ⟨by decide +kernel, rfl⟩
theorem dX7_takeFilling_56 : decode cX7_takeFilling 56 = .ok (.getfield 41, 3) ∧ 56 + 3 = 59 := ⟨by decide +kernel, rfl⟩
theorem dX7_takeFilling_59 : decode cX7_takeFilling 59 = .ok (.iload 5, 2) ∧ 59 + 2 = 61 := ⟨by decide +kernel, rfl⟩
theorem dX7_takeFilling_61 : decode cX7_takeFilling 61 = .ok (.iaload, 1) ∧ 61 + 1 = 62 := ⟨by decide +kernel, rfl⟩
theorem dX7_takeFilling_62 : decode cX7_takeFilling 62 = .ok (.iconst 1, 1) ∧ 62 + 1 = 63 := ⟨by decide +kernel, rfl⟩
theorem dX7_takeFilling_63 : decode cX7_takeFilling 63 = .ok (.invokevirtual 147, 3) ∧ 63 + 3 = 66 := ⟨by decide +kernel, rfl⟩
theorem dX7_takeFilling_66 : decode cX7_takeFilling 66 = .ok (.aload_n 0, 1) ∧ 66 + 1 = 67 := ⟨by decide +kernel, rfl⟩
theorem dX7_takeFilling_67 : decode cX7_takeFilling 67 = .ok (.bipush (-9), 2) ∧ 67 + 2 = 69 := ⟨by decide +kernel, rfl⟩
theorem dX7_takeFilling_69 : decode cX7_takeFilling 69 = .ok (.invokevirtual 144, 3) ∧ 69 + 3 = 72 := ⟨by decide +kernel, rfl⟩
theorem dX7_takeFilling_72 : decode cX7_takeFilling 72 = .ok (.iload 4, 2) ∧ 72 + 2 = 74 := ⟨by decide +kernel, rfl⟩
theorem dX7_takeFilling_74 : decode cX7_takeFilling 74 = .ok (.iadd, 1) ∧ 74 + 1 = 75 := ⟨by decide +kernel, rfl⟩
theorem dX7_takeFilling_75 : decode cX7_takeFilling 75 = .ok (.iconst 1, 1) ∧ 75 + 1 = 76 := ⟨by decide +kernel, rfl⟩
theorem dX7_takeFilling_76 : decode cX7_takeFilling 76 = .ok (.isub, 1) ∧ 76 + 1 = 77 := ⟨by decide +kernel, rfl⟩
theorem dX7_takeFilling_77 : decode cX7_takeFilling 77 = .ok (.iload_n 3, 1) ∧ 77 + 1 = 78 := ⟨by decide +kernel, rfl⟩
theorem dX7_takeFilling_78 : decode cX7_takeFilling 78 = .ok (.if_icmp .lt 19, 3) ∧ 78 + 3 = 81 ∧ ((78 : Nat) : Int) + 19 = ((97 : Nat) : Int) := ⟨by decide +kernel, rfl, rfl⟩
theorem dX7_takeFilling_81 : decode cX7_takeFilling 81 = .ok (.aload_n 0, 1) ∧ 81 + 1 = 82 := ⟨by decide +kernel, rfl⟩
theorem dX7_takeFilling_82 : decode cX7_takeFilling 82 = .ok (.iload 5, 2) ∧ 82 + 2 = 84 := ⟨by decide +kernel, rfl⟩
theorem dX7_takeFilling_84 : decode cX7_takeFilling 84 = .ok (.iconst 1, 1) ∧ 84 + 1 = 85 := ⟨by decide +kernel, rfl⟩
theorem dX7_takeFilling_85 : decode cX7_takeFilling 85 = .ok (.iadd, 1) ∧ 85 + 1 = 86 := ⟨by decide +kernel, rfl⟩
theorem dX7_takeFilling_86 : decode cX7_takeFilling 86 = .ok (.invokevirtual 144, 3) ∧ 86 + 3 = 89 := ⟨by decide +kernel, rfl⟩
theorem dX7_takeFilling_89 : decode cX7_takeFilling 89 = .ok (.iload_n 3, 1) ∧ 89 + 1 = 90 := ⟨by decide +kernel, rfl⟩
theorem dX7_takeFilling_90 : decode cX7_takeFilling 90 = .ok (.if_icmp .lt 7, 3) ∧ 90 + 3 = 93 ∧ ((90 : Nat) : Int) + 7 = ((97 : Nat) : Int) := ⟨by decide +kernel, rfl, rfl⟩
theorem dX7_takeFilling_93 : decode cX7_takeFilling 93 = .ok (.iconst 1, 1) ∧ 93 + 1 = 94 := ⟨by decide +kernel, rfl⟩
theorem dX7_takeFilling_94 : decode cX7_takeFilling 94 = .ok (.goto 4, 3) ∧ ((94 : Nat) : Int) + 4 = ((98 : Nat) : Int) := ⟨by decide +kernel, rfl⟩
theorem dX7_takeFilling_97 : decode cX7_takeFilling 97 = .ok (.iconst 0, 1) ∧ 97 + 1 = 98 := ⟨by decide +kernel, rfl⟩
theorem dX7_takeFilling_98 : decode cX7_takeFilling 98 = .ok (.istore 6, 2) ∧ 98 + 2 = 100 := ⟨by decide +kernel, rfl⟩
theorem dX7_takeFilling_100 : decode cX7_takeFilling 100 = .ok (.iload 6, 2) ∧ 100 + 2 = 102 := ⟨by decide +kernel, rfl⟩
theorem dX7_takeFilling_102 : decode cX7_takeFilling 102 = .ok (.ifCond .eq 33, 3) ∧ 102 + 3 = 105 ∧ ((102 : Nat) : Int) + 33 = ((135 : Nat) : Int) := ⟨by decide +kernel, rfl, rfl⟩
theorem dX7_takeFilling_105 : decode cX7_takeFilling 105 = .ok (.aload_n 0, 1) ∧ 105 + 1 = 106 := ⟨by decide +kernel, rfl⟩
theorem dX7_takeFilling_106 : decode cX7_takeFilling 106 = .ok (.getfield 123, 3) ∧ 106 + 3 = 109 := ⟨by decide +kernel, rfl⟩
theorem dX7_takeFilling_109 : decode cX7_takeFilling 109 = .ok (.iload 5, 2) ∧ 109 + 2 = 111 := ⟨by decide +kernel, rfl⟩
theorem dX7_takeFilling_111 : decode cX7_takeFilling 111 = .ok (.isub, 1) ∧ 111 + 1 = 112 := ⟨by decide +kernel, rfl⟩
theorem dX7_takeFilling_112 : decode cX7_takeFilling 112 = .ok (.iconst 1, 1) ∧ 112 + 1 = 113 := ⟨by decide +kernel, rfl⟩
theorem dX7_takeFilling_113 : decode cX7_takeFilling 113 = .ok (.isub, 1) ∧ 113 + 1 = 114 := ⟨by decide +kernel, rfl⟩
theorem dX7_takeFilling_114 : decode cX7_takeFilling 114 = .ok (.iload 4, 2) ∧ 114 + 2 = 116 := ⟨by decide +kernel, rfl⟩
theorem dX7_takeFilling_116 : decode cX7_takeFilling 116 = .ok (.iconst 1, 1) ∧ 116 + 1 = 117 := ⟨by decide +kernel, rfl⟩
theorem dX7_takeFilling_117 : decode cX7_takeFilling 117 = .ok (.isub, 1) ∧ 117 + 1 = 118 := ⟨by decide +kernel, rfl⟩
theorem dX7_takeFilling_118 : decode cX7_takeFilling 118 = .ok (.if_icmp .lt 17, 3) ∧ 118 + 3 = 121 ∧ ((118 : Nat) : Int) + 17 = ((135 : Nat) : Int) := ⟨by decide +kernel, rfl, rfl⟩
theorem dX7_takeFilling_121 : decode cX7_takeFilling 121 = .ok (.aload_n 0, 1) ∧ 121 + 1 = 122 := ⟨by decide +kernel, rfl⟩
theorem dX7_takeFilling_122 : decode cX7_takeFilling 122 = .ok (.getfield 44, 3) ∧ 122 + 3 = 125 := ⟨by decide +kernel, rfl⟩
theorem dX7_takeFilling_125 : decode cX7_takeFilling 125 = .ok (.iload 5, 2) ∧ 125 + 2 = 127 := ⟨by decide +kernel, rfl⟩
theorem dX7_takeFilling_127 : decode cX7_takeFilling 127 = .ok (.iconst 1, 1) ∧ 127 + 1 = 128 := ⟨by decide +kernel, rfl⟩
theorem dX7_takeFilling_128 : decode cX7_takeFilling 128 = .ok (.bastore, 1) ∧ 128 + 1 = 129 := ⟨by decide +kernel, rfl⟩
theorem dX7_takeFilling_129 : decode cX7_takeFilling 129 = .ok (.iinc 4 (-1), 3) ∧ 129 + 3 = 132 := ⟨by decide +kernel, rfl⟩
theorem dX7_takeFilling_132 : decode cX7_takeFilling 132 = .ok (.goto 15, 3) ∧ ((132 : Nat) : Int) + 15 = ((147 : Nat) : Int) := ⟨by decide +kernel, rfl⟩
theorem dX7_takeFilling_135 : decode cX7_takeFilling 135 = .ok (.aload_n 0, 1) ∧ 135 + 1 = 136 := ⟨by decide +kernel, rfl⟩
theorem dX7_takeFilling_136 : decode cX7_takeFilling 136 = .ok (.aload_n 0, 1) ∧ 136 + 1 = 137 := ⟨by decide +kernel, rfl⟩
theorem dX7_takeFilling_137 : decode cX7_takeFilling 137 = .ok (.getfield 41, 3) ∧ 137 + 3 = 140 := ⟨by decide +kernel, rfl⟩
theorem dX7_takeFilling_140 : decode cX7_takeFilling 140 = .ok (.iload 5, 2) ∧ 140 + 2 = 142 := ⟨by decide +kernel, rfl⟩
theorem dX7_takeFilling_142 : decode cX7_takeFilling 142 = .ok (.iaload, 1) ∧ 142 + 1 = 143 := ⟨by decide +kernel, rfl⟩
theorem dX7_takeFilling_143 : decode cX7_takeFilling 143 = .ok (.iconst (-1), 1) ∧ 143 + 1 = 144 := ⟨by decide +kernel, rfl⟩
theorem dX7_takeFilling_144 : decode cX7_takeFilling 144 = .ok (.invokevirtual 147, 3) ∧ 144 + 3 = 147 := ⟨by decide +kernel, rfl⟩
theorem dX7_takeFilling_147 : decode cX7_takeFilling 147 = .ok (.iinc 5 1, 3) ∧ 147 + 3 = 150 := ⟨by decide +kernel, rfl⟩
theorem dX7_takeFilling_150 : decode cX7_takeFilling 150 = .ok (.goto (-110), 3) ∧ ((150 : Nat) : Int) + (-110) = ((40 : Nat) : Int) := ⟨by decide +kernel, rfl⟩
theorem dX7_takeFilling_153 : decode cX7_takeFilling 153 = .ok (.return_, 1) ∧ 153 + 1 = 154 := ⟨by decide +kernel, rfl⟩
theorem dX7_takeByGroups_0 : decode cX7_takeByGroups 0 = .ok (.iload_n 2, 1) ∧ 0 + 1 = 1 := ⟨by decide +kernel, rfl⟩
theorem dX7_takeByGroups_1 : decode cX7_takeByGroups 1 = .ok (.istore_n 3, 1) ∧ 1 + 1 = 2 := ⟨by decide +kernel, rfl⟩
theorem dX7_takeByGroups_2 : decode cX7_takeByGroups 2 = .ok (.iconst 0, 1) ∧ 2 + 1 = 3 := ⟨by decide +kernel, rfl⟩
theorem dX7_takeByGroups_3 : decode cX7_takeByGroups 3 = .ok (.istore 4, 2) ∧ 3 + 2 = 5 := ⟨by decide +kernel, rfl⟩
theorem dX7_takeByGroups_5 : decode cX7_takeByGroups 5 = .ok (.iload 4, 2) ∧ 5 + 2 = 7 := ⟨by decide +kernel, rfl⟩
theorem dX7_takeByGroups_7 : decode cX7_takeByGroups 7 = .ok (.iconst 4, 1) ∧ 7 + 1 = 8 := ⟨by decide +kernel, rfl⟩
theorem dX7_takeByGroups_8 : decode cX7_takeByGroups 8 = .ok (.if_icmp .ge 108, 3) ∧ 8 + 3 = 11 ∧ ((8 : Nat) : Int) + 108 = ((116 : Nat) : Int) := ⟨by decide +kernel, rfl, rfl⟩
theorem dX7_takeByGroups_11 : decode cX7_takeByGroups 11 = .ok (.aload_n 0, 1) ∧ 11 + 1 = 12 := ⟨by decide +kernel, rfl⟩
theorem dX7_takeByGroups_12 : decode cX7_takeByGroups 12 = .ok (.getfield 22, 3) ∧ 12 + 3 = 15 := ⟨by decide +kernel, rfl⟩
theorem dX7_takeByGroups_15 : decode cX7_takeByGroups 15 = .ok (.iconst 4, 1) ∧ 15 + 1 = 16 := ⟨by decide +kernel, rfl⟩
theorem dX7_takeByGroups_16 : decode cX7_takeByGroups 16 = .ok (.iload_n 1, 1) ∧ 16 + 1 = 17 := ⟨by decide +kernel, rfl⟩
theorem dX7_takeByGroups_17 : decode cX7_takeByGroups 17 = .ok (.imul, 1) ∧ 17 + 1 = 18 := ⟨by decide +kernel, rfl⟩
theorem dX7_takeByGroups_18 : decode cX7_takeByGroups 18 = .ok (.iload 4, 2) ∧ 18 + 2 = 20 := ⟨by decide +kernel, rfl⟩
theorem dX7_takeByGroups_20 : decode cX7_takeByGroups 20 = .ok (.iadd, 1) ∧ 20 + 1 = 21 := ⟨by decide +kernel, rfl⟩
theorem dX7_takeByGroups_21 : decode cX7_takeByGroups 21 = .ok (.iaload, 1) ∧ 21 + 1 = 22 := ⟨by decide +kernel, rfl⟩
theorem dX7_takeByGroups_22 : decode cX7_takeByGroups 22 = .ok (.istore 5, 2) ∧ 22 + 2 = 24 := ⟨by decide +kernel, rfl⟩
theorem dX7_takeByGroups_24 : decode cX7_takeByGroups 24 = .ok (.iconst 0, 1) ∧ 24 + 1 = 25 := ⟨by decide +kernel, rfl⟩
theorem dX7_takeByGroups_25 : decode cX7_takeByGroups 25 = .ok (.istore 6, 2) ∧ 25 + 2 = 27 := ⟨by decide +kernel, rfl⟩
theorem dX7_takeByGroups_27 : decode cX7_takeByGroups 27 = .ok (.iload 6, 2) ∧ 27 + 2 = 29 := ⟨by decide +kernel, rfl⟩
theorem dX7_takeByGroups_29 : decode cX7_takeByGroups 29 = .ok (.aload_n 0, 1) ∧ 29 + 1 = 30 := ⟨by decide +kernel, rfl⟩
theorem dX7_takeByGroups_30 : decode cX7_takeByGroups 30 = .ok (.getfield 123, 3) ∧ 30 + 3 = 33 := ⟨by decide +kernel, rfl⟩
theorem dX7_takeByGroups_33 : decode cX7_takeByGroups 33 = .ok (.if_icmp .ge 77, 3) ∧ 33 + 3 = 36 ∧ ((33 : Nat) : Int) + 77 = ((110 : Nat) : Int) := ⟨by decide +kernel, rfl, rfl⟩
theorem dX7_takeByGroups_36 : decode cX7_takeByGroups 36 = .ok (.iload_n 3, 1) ∧ 36 + 1 = 37 := ⟨by decide +kernel, rfl⟩
theorem dX7_takeByGroups_37 : decode cX7_takeByGroups 37 = .ok (.ifCond .le 73, 3) ∧ 37 + 3 = 40 ∧ ((37 : Nat) : Int) + 73 = ((110 : Nat) : Int) := ⟨by decide +kernel, rfl, rfl⟩
theorem dX7_takeByGroups_40 : decode cX7_takeByGroups 40 = .ok (.iload 5, 2) ∧ 40 + 2 = 42 := ⟨by decide +kernel, rfl⟩
theorem dX7_takeByGroups_42 : decode cX7_takeByGroups 42 = .ok (.ifCond .le 68, 3) ∧ 42 + 3 = 45 ∧ ((42 : Nat) : Int) + 68 = ((110 : Nat) : Int) := ⟨by decide +kernel, rfl, rfl⟩
theorem dX7_takeByGroups_45 : decode cX7_takeByGroups 45 = .ok (.aload_n 0, 1) ∧ 45 + 1 = 46 := ⟨by decide +kernel, rfl⟩
theorem dX7_takeByGroups_46 : decode cX7_takeByGroups 46 = .ok (.getfield 44, 3) ∧ 46 + 3 = 49 := ⟨by decide +kernel, rfl⟩
theorem dX7_takeByGroups_49 : decode cX7_takeByGroups 49 = .ok (.iload 6, 2) ∧ 49 + 2 = 51 := ⟨by decide +kernel, rfl⟩
theorem dX7_takeByGroups_51 : decode cX7_takeByGroups 51 = .ok (.baload, 1) ∧ 51 + 1 = 52 := ⟨by decide +kernel, rfl⟩
theorem dX7_takeByGroups_52 : decode cX7_takeByGroups 52 = .ok (.ifCond .ne 52, 3) ∧ 52 + 3 = 55 ∧ ((52 : Nat) : Int) + 52 = ((104 : Nat) : Int) := ⟨by decide +kernel, rfl, rfl⟩
theorem dX7_takeByGroups_55 : decode cX7_takeByGroups 55 = .ok (.aload_n 0, 1) ∧ 55 + 1 = 56 := ⟨by decide +kernel, rfl⟩
theorem dX7_takeByGroups_56 : decode cX7_takeByGroups 56 = .ok (.aload_n 0, 1) ∧ 56 + 1 = 57 := ⟨by decide +kernel, rfl⟩
theorem dX7_takeByGroups_57 : decode cX7_takeByGroups 57 = .ok (.getfield 41, 3) ∧ 57 + 3 = 60 := ⟨by decide +kernel, rfl⟩
theorem dX7_takeByGroups_60 : decode cX7_takeByGroups 60 = .ok (.iload 6, 2) ∧ 60 + 2 = 62 := ⟨by decide +kernel, rfl⟩
theorem dX7_takeByGroups_62 : decode cX7_takeByGroups 62 = .ok (.iaload, 1) ∧ 62 + 1 = 63 := ⟨by decide +kernel, rfl⟩
theorem dX7_takeByGroups_63 : decode cX7_takeByGroups 63 = .ok (.iconst 3, 1) ∧ 63 + 1 = 64 := ⟨by decide +kernel, rfl⟩
theorem dX7_takeByGroups_64 : decode cX7_takeByGroups 64 = .ok (.invokevirtual 103, 3) ∧ 64 + 3 = 67 := ⟨by decide +kernel, rfl⟩
theorem dX7_takeByGroups_67 : decode cX7_takeByGroups 67 = .ok (.iload 4, 2) ∧ 67 + 2 = 69 := ⟨by decide +kernel, rfl⟩
theorem dX7_takeByGroups_69 : decode cX7_takeByGroups 69 = .ok (.invokestatic 120, 3) ∧ 69 + 3 = 72 := ⟨by decide +kernel, rfl⟩
theorem dX7_takeByGroups_72 : decode cX7_takeByGroups 72 = .ok (.iconst 1, 1) ∧ 72 + 1 = 73 := ⟨by decide +kernel, rfl⟩
theorem dX7_takeByGroups_73 : decode cX7_takeByGroups 73 = .ok (.if_icmp .ne 31, 3) ∧ 73 + 3 = 76 ∧ ((73 : Nat) : Int) + 31 = ((104 : Nat) : Int) := ⟨by decide +kernel, rfl, rfl⟩
theorem dX7_takeByGroups_76 : decode cX7_takeByGroups 76 = .ok (.aload_n 0, 1) ∧ 76 + 1 = 77 := ⟨by decide +kernel, rfl⟩
theorem dX7_takeByGroups_77 : decode cX7_takeByGroups 77 = .ok (.getfield 44, 3) ∧ 77 + 3 = 80 := ⟨by decide +kernel, rfl⟩
theorem dX7_takeByGroups_80 : decode cX7_takeByGroups 80 = .ok (.iload 6, 2) ∧ 80 + 2 = 82 := ⟨by decide +kernel, rfl⟩
theorem dX7_takeByGroups_82 : decode cX7_takeByGroups 82 = .ok (.iconst 1, 1) ∧ 82 + 1 = 83 := ⟨by decide +kernel, rfl⟩
theorem dX7_takeByGroups_83 : decode cX7_takeByGroups 83 = .ok (.bastore, 1) ∧ 83 + 1 = 84 := ⟨by decide +kernel, rfl⟩
theorem dX7_takeByGroups_84 : decode cX7_takeByGroups 84 = .ok (.aload_n 0, 1) ∧ 84 + 1 = 85 := ⟨by decide +kernel, rfl⟩
theorem dX7_takeByGroups_85 : decode cX7_takeByGroups 85 = .ok (.getfield 34, 3) ∧ 85 + 3 = 88 := ⟨by decide +kernel, rfl⟩
theorem dX7_takeByGroups_88 : decode cX7_takeByGroups 88 = .ok (.aload_n 0, 1) ∧ 88 + 1 = 89 := ⟨by decide +kernel, rfl⟩
theorem dX7_takeByGroups_89 : decode cX7_takeByGroups 89 = .ok (.getfield 41, 3) ∧ 89 + 3 = 92 := ⟨by decide +kernel, rfl⟩
theorem dX7_takeByGroups_92 : decode cX7_takeByGroups 92 = .ok (.iload 6, 2) ∧ 92 + 2 = 94 := ⟨by decide +kernel, rfl⟩
theorem dX7_takeByGroups_94 : decode cX7_takeByGroups 94 = .ok (.iaload, 1) ∧ 94 + 1 = 95 := ⟨by decide +kernel, rfl⟩
theorem dX7_takeByGroups_95 : decode cX7_takeByGroups 95 = .ok (.iload 4, 2) ∧ 95 + 2 = 97 := ⟨by decide +kernel, rfl⟩
theorem dX7_takeByGroups_97 : decode cX7_takeByGroups 97 = .ok (.iastore, 1) ∧ 97 + 1 = 98 := ⟨by decide +kernel, rfl⟩
theorem dX7_takeByGroups_98 : decode cX7_takeByGroups 98 = .ok (.iinc 3 (-1), 3) ∧ 98 + 3 = 101 := ⟨by decide +kernel, rfl⟩
theorem dX7_takeByGroups_101 : decode cX7_takeByGroups 101 = .ok (.iinc 5 (-1), 3) ∧ 101 + 3 = 104 := ⟨by decide +kernel, rfl⟩
theorem dX7_takeByGroups_104 : decode cX7_takeByGroups 104 = .ok (.iinc 6 1, 3) ∧ 104 + 3 = 107 := ⟨by decide +kernel, rfl⟩
theorem dX7_takeByGroups_107 : decode cX7_takeByGroups 107 = .ok (.goto (-80), 3) ∧ ((107 : Nat) : Int) + (-80) = ((27 : Nat) : Int) := ⟨by decide +kernel, rfl⟩
theorem dX7_takeByGroups_110 : decode cX7_takeByGroups 110 = .ok (.iinc 4 1, 3) ∧ 110 + 3 = 113 := ⟨by decide +kernel, rfl⟩
theorem dX7_takeByGroups_113 : decode cX7_takeByGroups 113 = .ok (.goto (-108), 3) ∧ ((113 : Nat) : Int) + (-108) = ((5 : Nat) : Int) := ⟨by decide +kernel, rfl⟩
theorem dX7_takeByGroups_116 : decode cX7_takeByGroups 116 = .ok (.aload_n 0, 1) ∧ 116 + 1 = 117 := ⟨by decide +kernel, rfl⟩
theorem dX7_takeByGroups_117 : decode cX7_takeByGroups 117 = .ok (.iload_n 3, 1) ∧ 117 + 1 = 118 := ⟨by decide +kernel, rfl⟩
theorem dX7_takeByGroups_118 : decode cX7_takeByGroups 118 = .ok (.invokevirtual 151, 3) ∧ 118 + 3 = 121 := ⟨by decide +kernel, rfl⟩
theorem dX7_takeByGroups_121 : decode cX7_takeByGroups 121 = .ok (.return_, 1) ∧ 121 + 1 = 122 := ⟨by decide +kernel, rfl⟩
theorem dX7_takeBest_0 : decode cX7_takeBest 0 = .ok (.iload_n 1, 1) ∧ 0 + 1 = 1 := ⟨by decide +kernel, rfl⟩
theorem dX7_takeBest_1 : decode cX7_takeBest 1 = .ok (.istore_n 2, 1) ∧ 1 + 1 = 2 := ⟨by decide +kernel, rfl⟩
theorem dX7_takeBest_2 : decode cX7_takeBest 2 = .ok (.iconst 0, 1) ∧ 2 + 1 = 3 := ⟨by decide +kernel, rfl⟩
theorem dX7_takeBest_3 : decode cX7_takeBest 3 = .ok (.istore_n 3, 1) ∧ 3 + 1 = 4 := ⟨by decide +kernel, rfl⟩
theorem dX7_takeBest_4 : decode cX7_takeBest 4 = .ok (.iload_n 3, 1) ∧ 4 + 1 = 5 := ⟨by decide +kernel, rfl⟩
theorem dX7_takeBest_5 : decode cX7_takeBest 5 = .ok (.aload_n 0, 1) ∧ 5 + 1 = 6 := ⟨by decide +kernel, rfl⟩
theorem dX7_takeBest_6 : decode cX7_takeBest 6 = .ok (.getfield 123, 3) ∧ 6 + 3 = 9 := ⟨by decide +kernel, rfl⟩
theorem dX7_takeBest_9 : decode cX7_takeBest 9 = .ok (.if_icmp .ge 32, 3) ∧ 9 + 3 = 12 ∧ ((9 : Nat) : Int) + 32 = ((41 : Nat) : Int) := ⟨by decide +kernel, rfl, rfl⟩
theorem dX7_takeBest_12 : decode cX7_takeBest 12 = .ok (.iload_n 2, 1) ∧ 12 + 1 = 13 := ⟨by decide +kernel, rfl⟩
theorem dX7_takeBest_13 : decode cX7_takeBest 13 = .ok (.ifCond .le 28, 3) ∧ 13 + 3 = 16 ∧ ((13 : Nat) : Int) + 28 = ((41 : Nat) : Int) := ⟨by decide +kernel, rfl, rfl⟩
theorem dX7_takeBest_16 : decode cX7_takeBest 16 = .ok (.aload_n 0, 1) ∧ 16 + 1 = 17 := ⟨by decide +kernel, rfl⟩
theorem dX7_takeBest_17 : decode cX7_takeBest 17 = .ok (.getfield 44, 3) ∧ 17 + 3 = 20 := ⟨by decide +kernel, rfl⟩
theorem dX7_takeBest_20 : decode cX7_takeBest 20 = .ok (.iload_n 3, 1) ∧ 20 + 1 = 21 := ⟨by decide +kernel, rfl⟩
theorem dX7_takeBest_21 : decode cX7_takeBest 21 = .ok (.baload, 1) ∧ 21 + 1 = 22 := ⟨by decide +kernel, rfl⟩
theorem dX7_takeBest_22 : decode cX7_takeBest 22 = .ok (.ifCond .ne 13, 3) ∧ 22 + 3 = 25 ∧ ((22 : Nat) : Int) + 13 = ((35 : Nat) : Int) := ⟨by decide +kernel, rfl, rfl⟩
theorem dX7_takeBest_25 : decode cX7_takeBest 25 = .ok (.aload_n 0, 1) ∧ 25 + 1 = 26 := ⟨by decide +kernel, rfl⟩
theorem dX7_takeBest_26 : decode cX7_takeBest 26 = .ok (.getfield 44, 3) ∧ 26 + 3 = 29 := ⟨by decide +kernel, rfl⟩
theorem dX7_takeBest_29 : decode cX7_takeBest 29 = .ok (.iload_n 3, 1) ∧ 29 + 1 = 30 := ⟨by decide +kernel, rfl⟩
theorem dX7_takeBest_30 : decode cX7_takeBest 30 = .ok (.iconst 1, 1) ∧ 30 + 1 = 31 := ⟨by decide +kernel, rfl⟩
theorem dX7_takeBest_31 : decode cX7_takeBest 31 = .ok (.bastore, 1) ∧ 31 + 1 = 32 := ⟨by decide +kernel, rfl⟩
theorem dX7_takeBest_32 : decode cX7_takeBest 32 = .ok (.iinc 2 (-1), 3) ∧ 32 + 3 = 35 := ⟨by decide +kernel, rfl⟩
theorem dX7_takeBest_35 : decode cX7_takeBest 35 = .ok (.iinc 3 1, 3) ∧ 35 + 3 = 38 := ⟨by decide +kernel, rfl⟩
theorem dX7_takeBest_38 : decode cX7_takeBest 38 = .ok (.goto (-34), 3) ∧ ((38 : Nat) : Int) + (-34) = ((4 : Nat) : Int) := ⟨by decide +kernel, rfl⟩
theorem dX7_takeBest_41 : decode cX7_takeBest 41 = .ok (.return_, 1) ∧ 41 + 1 = 42 := ⟨by decide +kernel, rfl⟩
