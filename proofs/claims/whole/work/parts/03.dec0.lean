theorem dX0_init_0 : decode cX0_init 0 = .ok (.aload_n 0, 1) := by decide +kernel
theorem dX0_init_1 : decode cX0_init 1 = .ok (.invokespecial 5, 3) := by decide +kernel
theorem dX0_init_4 : decode cX0_init 4 = .ok (.aload_n 0, 1) := by decide +kernel
theorem dX0_init_5 : decode cX0_init 5 = .ok (.bipush 6, 2) := by decide +kernel
theorem dX0_init_7 : decode cX0_init 7 = .ok (.putfield 11, 3) := by decide +kernel
theorem dX0_init_10 : decode cX0_init 10 = .ok (.aload_n 0, 1) := by decide +kernel
theorem dX0_init_11 : decode cX0_init 11 = .ok (.bipush 16, 2) := by decide +kernel
theorem dX0_init_13 : decode cX0_init 13 = .ok (.newarray .int, 2) := by decide +kernel
theorem dX0_init_15 : decode cX0_init 15 = .ok (.putfield 15, 3) := by decide +kernel
theorem dX0_init_18 : decode cX0_init 18 = .ok (.aload_n 0, 1) := by decide +kernel
theorem dX0_init_19 : decode cX0_init 19 = .ok (.bipush 16, 2) := by decide +kernel
theorem dX0_init_21 : decode cX0_init 21 = .ok (.newarray .int, 2) := by decide +kernel
theorem dX0_init_23 : decode cX0_init 23 = .ok (.putfield 19, 3) := by decide +kernel
theorem dX0_init_26 : decode cX0_init 26 = .ok (.aload_n 0, 1) := by decide +kernel
theorem dX0_init_27 : decode cX0_init 27 = .ok (.bipush 16, 2) := by decide +kernel
theorem dX0_init_29 : decode cX0_init 29 = .ok (.newarray .int, 2) := by decide +kernel
theorem dX0_init_31 : decode cX0_init 31 = .ok (.putfield 22, 3) := by decide +kernel
theorem dX0_init_34 : decode cX0_init 34 = .ok (.aload_n 0, 1) := by decide +kernel
theorem dX0_init_35 : decode cX0_init 35 = .ok (.bipush 16, 2) := by decide +kernel
theorem dX0_init_37 : decode cX0_init 37 = .ok (.newarray .int, 2) := by decide +kernel
theorem dX0_init_39 : decode cX0_init 39 = .ok (.putfield 25, 3) := by decide +kernel
theorem dX0_init_42 : decode cX0_init 42 = .ok (.aload_n 0, 1) := by decide +kernel
theorem dX0_init_43 : decode cX0_init 43 = .ok (.bipush 16, 2) := by decide +kernel
theorem dX0_init_45 : decode cX0_init 45 = .ok (.newarray .int, 2) := by decide +kernel
theorem dX0_init_47 : decode cX0_init 47 = .ok (.putfield 28, 3) := by decide +kernel
theorem dX0_init_50 : decode cX0_init 50 = .ok (.aload_n 0, 1) := by decide +kernel
theorem dX0_init_51 : decode cX0_init 51 = .ok (.iconst 0, 1) := by decide +kernel
theorem dX0_init_52 : decode cX0_init 52 = .ok (.putfield 31, 3) := by decide +kernel
theorem dX0_init_55 : decode cX0_init 55 = .ok (.aload_n 0, 1) := by decide +kernel
theorem dX0_init_56 : decode cX0_init 56 = .ok (.iconst 0, 1) := by decide +kernel
theorem dX0_init_57 : decode cX0_init 57 = .ok (.putfield 34, 3) := by decide +kernel
theorem dX0_init_60 : decode cX0_init 60 = .ok (.aload_n 0, 1) := by decide +kernel
theorem dX0_init_61 : decode cX0_init 61 = .ok (.iconst 0, 1) := by decide +kernel
theorem dX0_init_62 : decode cX0_init 62 = .ok (.putfield 37, 3) := by decide +kernel
theorem dX0_init_65 : decode cX0_init 65 = .ok (.aload_n 0, 1) := by decide +kernel
theorem dX0_init_66 : decode cX0_init 66 = .ok (.bipush 6, 2) := by decide +kernel
theorem dX0_init_68 : decode cX0_init 68 = .ok (.newarray .int, 2) := by decide +kernel
theorem dX0_init_70 : decode cX0_init 70 = .ok (.putfield 40, 3) := by decide +kernel
theorem dX0_init_73 : decode cX0_init 73 = .ok (.aload_n 0, 1) := by decide +kernel
theorem dX0_init_74 : decode cX0_init 74 = .ok (.sipush 976, 3) := by decide +kernel
theorem dX0_init_77 : decode cX0_init 77 = .ok (.newarray .int, 2) := by decide +kernel
theorem dX0_init_79 : decode cX0_init 79 = .ok (.putfield 43, 3) := by decide +kernel
theorem dX0_init_82 : decode cX0_init 82 = .ok (.aload_n 0, 1) := by decide +kernel
theorem dX0_init_83 : decode cX0_init 83 = .ok (.bipush 6, 2) := by decide +kernel
theorem dX0_init_85 : decode cX0_init 85 = .ok (.newarray .int, 2) := by decide +kernel
theorem dX0_init_87 : decode cX0_init 87 = .ok (.putfield 46, 3) := by decide +kernel
theorem dX0_init_90 : decode cX0_init 90 = .ok (.aload_n 0, 1) := by decide +kernel
theorem dX0_init_91 : decode cX0_init 91 = .ok (.sipush 366, 3) := by decide +kernel
theorem dX0_init_94 : decode cX0_init 94 = .ok (.newarray .int, 2) := by decide +kernel
theorem dX0_init_96 : decode cX0_init 96 = .ok (.putfield 49, 3) := by decide +kernel
theorem dX0_init_99 : decode cX0_init 99 = .ok (.aload_n 0, 1) := by decide +kernel
theorem dX0_init_100 : decode cX0_init 100 = .ok (.sipush 366, 3) := by decide +kernel
theorem dX0_init_103 : decode cX0_init 103 = .ok (.newarray .int, 2) := by decide +kernel
theorem dX0_init_105 : decode cX0_init 105 = .ok (.putfield 52, 3) := by decide +kernel
theorem dX0_init_108 : decode cX0_init 108 = .ok (.aload_n 0, 1) := by decide +kernel
theorem dX0_init_109 : decode cX0_init 109 = .ok (.sipush 366, 3) := by decide +kernel
theorem dX0_init_112 : decode cX0_init 112 = .ok (.newarray .boolean, 2) := by decide +kernel
theorem dX0_init_114 : decode cX0_init 114 = .ok (.putfield 55, 3) := by decide +kernel
theorem dX0_init_117 : decode cX0_init 117 = .ok (.aload_n 0, 1) := by decide +kernel
theorem dX0_init_118 : decode cX0_init 118 = .ok (.iconst 0, 1) := by decide +kernel
theorem dX0_init_119 : decode cX0_init 119 = .ok (.putfield 59, 3) := by decide +kernel
theorem dX0_init_122 : decode cX0_init 122 = .ok (.aload_n 0, 1) := by decide +kernel
theorem dX0_init_123 : decode cX0_init 123 = .ok (.iconst 0, 1) := by decide +kernel
theorem dX0_init_124 : decode cX0_init 124 = .ok (.putfield 62, 3) := by decide +kernel
theorem dX0_init_127 : decode cX0_init 127 = .ok (.iconst 0, 1) := by decide +kernel
theorem dX0_init_128 : decode cX0_init 128 = .ok (.istore_n 1, 1) := by decide +kernel
theorem dX0_init_129 : decode cX0_init 129 = .ok (.iload_n 1, 1) := by decide +kernel
theorem dX0_init_130 : decode cX0_init 130 = .ok (.bipush 6, 2) := by decide +kernel
theorem dX0_init_132 : decode cX0_init 132 = .ok (.if_icmp .ge 48, 3) := by decide +kernel
theorem dX0_init_135 : decode cX0_init 135 = .ok (.aload_n 0, 1) := by decide +kernel
theorem dX0_init_136 : decode cX0_init 136 = .ok (.getfield 15, 3) := by decide +kernel
theorem dX0_init_139 : decode cX0_init 139 = .ok (.iload_n 1, 1) := by decide +kernel
theorem dX0_init_140 : decode cX0_init 140 = .ok (.iload_n 1, 1) := by decide +kernel
theorem dX0_init_141 : decode cX0_init 141 = .ok (.iastore, 1) := by decide +kernel
theorem dX0_init_142 : decode cX0_init 142 = .ok (.aload_n 0, 1) := by decide +kernel
theorem dX0_init_143 : decode cX0_init 143 = .ok (.getfield 19, 3) := by decide +kernel
theorem dX0_init_146 : decode cX0_init 146 = .ok (.iload_n 1, 1) := by decide +kernel
theorem dX0_init_147 : decode cX0_init 147 = .ok (.iload_n 1, 1) := by decide +kernel
theorem dX0_init_148 : decode cX0_init 148 = .ok (.iastore, 1) := by decide +kernel
theorem dX0_init_149 : decode cX0_init 149 = .ok (.aload_n 0, 1) := by decide +kernel
theorem dX0_init_150 : decode cX0_init 150 = .ok (.getfield 22, 3) := by decide +kernel
theorem dX0_init_153 : decode cX0_init 153 = .ok (.iload_n 1, 1) := by decide +kernel
theorem dX0_init_154 : decode cX0_init 154 = .ok (.sipush 180, 3) := by decide +kernel
theorem dX0_init_157 : decode cX0_init 157 = .ok (.iastore, 1) := by decide +kernel
theorem dX0_init_158 : decode cX0_init 158 = .ok (.aload_n 0, 1) := by decide +kernel
theorem dX0_init_159 : decode cX0_init 159 = .ok (.getfield 25, 3) := by decide +kernel
theorem dX0_init_162 : decode cX0_init 162 = .ok (.iload_n 1, 1) := by decide +kernel
theorem dX0_init_163 : decode cX0_init 163 = .ok (.iconst 1, 1) := by decide +kernel
theorem dX0_init_164 : decode cX0_init 164 = .ok (.iastore, 1) := by decide +kernel
theorem dX0_init_165 : decode cX0_init 165 = .ok (.aload_n 0, 1) := by decide +kernel
theorem dX0_init_166 : decode cX0_init 166 = .ok (.getfield 28, 3) := by decide +kernel
theorem dX0_init_169 : decode cX0_init 169 = .ok (.iload_n 1, 1) := by decide +kernel
theorem dX0_init_170 : decode cX0_init 170 = .ok (.sipush 1000, 3) := by decide +kernel
theorem dX0_init_173 : decode cX0_init 173 = .ok (.iastore, 1) := by decide +kernel
theorem dX0_init_174 : decode cX0_init 174 = .ok (.iinc 1 1, 3) := by decide +kernel
theorem dX0_init_177 : decode cX0_init 177 = .ok (.goto (-48), 3) := by decide +kernel
theorem dX0_init_180 : decode cX0_init 180 = .ok (.return_, 1) := by decide +kernel
theorem dX0_begin_0 : decode cX0_begin 0 = .ok (.aload_n 0, 1) := by decide +kernel
theorem dX0_begin_1 : decode cX0_begin 1 = .ok (.bipush 6, 2) := by decide +kernel
theorem dX0_begin_3 : decode cX0_begin 3 = .ok (.aload_n 1, 1) := by decide +kernel
theorem dX0_begin_4 : decode cX0_begin 4 = .ok (.getfield 65, 3) := by decide +kernel
theorem dX0_begin_7 : decode cX0_begin 7 = .ok (.iadd, 1) := by decide +kernel
theorem dX0_begin_8 : decode cX0_begin 8 = .ok (.putfield 11, 3) := by decide +kernel
theorem dX0_begin_11 : decode cX0_begin 11 = .ok (.aload_n 1, 1) := by decide +kernel
theorem dX0_begin_12 : decode cX0_begin 12 = .ok (.getfield 70, 3) := by decide +kernel
theorem dX0_begin_15 : decode cX0_begin 15 = .ok (.iconst 0, 1) := by decide +kernel
theorem dX0_begin_16 : decode cX0_begin 16 = .ok (.aload_n 0, 1) := by decide +kernel
theorem dX0_begin_17 : decode cX0_begin 17 = .ok (.getfield 15, 3) := by decide +kernel
theorem dX0_begin_20 : decode cX0_begin 20 = .ok (.bipush 6, 2) := by decide +kernel
theorem dX0_begin_22 : decode cX0_begin 22 = .ok (.bipush 10, 2) := by decide +kernel
theorem dX0_begin_24 : decode cX0_begin 24 = .ok (.invokestatic 71, 3) := by decide +kernel
theorem dX0_begin_27 : decode cX0_begin 27 = .ok (.aload_n 1, 1) := by decide +kernel
theorem dX0_begin_28 : decode cX0_begin 28 = .ok (.getfield 77, 3) := by decide +kernel
theorem dX0_begin_31 : decode cX0_begin 31 = .ok (.iconst 0, 1) := by decide +kernel
theorem dX0_begin_32 : decode cX0_begin 32 = .ok (.aload_n 0, 1) := by decide +kernel
theorem dX0_begin_33 : decode cX0_begin 33 = .ok (.getfield 19, 3) := by decide +kernel
theorem dX0_begin_36 : decode cX0_begin 36 = .ok (.bipush 6, 2) := by decide +kernel
theorem dX0_begin_38 : decode cX0_begin 38 = .ok (.bipush 10, 2) := by decide +kernel
theorem dX0_begin_40 : decode cX0_begin 40 = .ok (.invokestatic 71, 3) := by decide +kernel
theorem dX0_begin_43 : decode cX0_begin 43 = .ok (.aload_n 1, 1) := by decide +kernel
theorem dX0_begin_44 : decode cX0_begin 44 = .ok (.getfield 78, 3) := by decide +kernel
theorem dX0_begin_47 : decode cX0_begin 47 = .ok (.iconst 0, 1) := by decide +kernel
theorem dX0_begin_48 : decode cX0_begin 48 = .ok (.aload_n 0, 1) := by decide +kernel
theorem dX0_begin_49 : decode cX0_begin 49 = .ok (.getfield 22, 3) := by decide +kernel
theorem dX0_begin_52 : decode cX0_begin 52 = .ok (.bipush 6, 2) := by decide +kernel
theorem dX0_begin_54 : decode cX0_begin 54 = .ok (.bipush 10, 2) := by decide +kernel
theorem dX0_begin_56 : decode cX0_begin 56 = .ok (.invokestatic 71, 3) := by decide +kernel
theorem dX0_begin_59 : decode cX0_begin 59 = .ok (.aload_n 1, 1) := by decide +kernel
theorem dX0_begin_60 : decode cX0_begin 60 = .ok (.getfield 79, 3) := by decide +kernel
theorem dX0_begin_63 : decode cX0_begin 63 = .ok (.iconst 0, 1) := by decide +kernel
theorem dX0_begin_64 : decode cX0_begin 64 = .ok (.aload_n 0, 1) := by decide +kernel
theorem dX0_begin_65 : decode cX0_begin 65 = .ok (.getfield 25, 3) := by decide +kernel
theorem dX0_begin_68 : decode cX0_begin 68 = .ok (.bipush 6, 2) := by decide +kernel
theorem dX0_begin_70 : decode cX0_begin 70 = .ok (.bipush 10, 2) := by decide +kernel
theorem dX0_begin_72 : decode cX0_begin 72 = .ok (.invokestatic 71, 3) := by decide +kernel
theorem dX0_begin_75 : decode cX0_begin 75 = .ok (.aload_n 1, 1) := by decide +kernel
theorem dX0_begin_76 : decode cX0_begin 76 = .ok (.getfield 80, 3) := by decide +kernel
theorem dX0_begin_79 : decode cX0_begin 79 = .ok (.iconst 0, 1) := by decide +kernel
theorem dX0_begin_80 : decode cX0_begin 80 = .ok (.aload_n 0, 1) := by decide +kernel
theorem dX0_begin_81 : decode cX0_begin 81 = .ok (.getfield 28, 3) := by decide +kernel
theorem dX0_begin_84 : decode cX0_begin 84 = .ok (.bipush 6, 2) := by decide +kernel
theorem dX0_begin_86 : decode cX0_begin 86 = .ok (.bipush 10, 2) := by decide +kernel
theorem dX0_begin_88 : decode cX0_begin 88 = .ok (.invokestatic 71, 3) := by decide +kernel
theorem dX0_begin_91 : decode cX0_begin 91 = .ok (.aload_n 0, 1) := by decide +kernel
theorem dX0_begin_92 : decode cX0_begin 92 = .ok (.aload_n 1, 1) := by decide +kernel
theorem dX0_begin_93 : decode cX0_begin 93 = .ok (.getfield 81, 3) := by decide +kernel
theorem dX0_begin_96 : decode cX0_begin 96 = .ok (.putfield 31, 3) := by decide +kernel
theorem dX0_begin_99 : decode cX0_begin 99 = .ok (.aload_n 0, 1) := by decide +kernel
theorem dX0_begin_100 : decode cX0_begin 100 = .ok (.aload_n 1, 1) := by decide +kernel
theorem dX0_begin_101 : decode cX0_begin 101 = .ok (.invokevirtual 82, 3) := by decide +kernel
theorem dX0_begin_104 : decode cX0_begin 104 = .ok (.putfield 34, 3) := by decide +kernel
theorem dX0_begin_107 : decode cX0_begin 107 = .ok (.aload_n 0, 1) := by decide +kernel
theorem dX0_begin_108 : decode cX0_begin 108 = .ok (.aload_n 0, 1) := by decide +kernel
theorem dX0_begin_109 : decode cX0_begin 109 = .ok (.getfield 34, 3) := by decide +kernel
theorem dX0_begin_112 : decode cX0_begin 112 = .ok (.putfield 37, 3) := by decide +kernel
theorem dX0_begin_115 : decode cX0_begin 115 = .ok (.iconst 0, 1) := by decide +kernel
theorem dX0_begin_116 : decode cX0_begin 116 = .ok (.istore_n 2, 1) := by decide +kernel
theorem dX0_begin_117 : decode cX0_begin 117 = .ok (.iload_n 2, 1) := by decide +kernel
theorem dX0_begin_118 : decode cX0_begin 118 = .ok (.bipush 6, 2) := by decide +kernel
theorem dX0_begin_120 : decode cX0_begin 120 = .ok (.if_icmp .ge 51, 3) := by decide +kernel
theorem dX0_begin_123 : decode cX0_begin 123 = .ok (.aload_n 0, 1) := by decide +kernel
theorem dX0_begin_124 : decode cX0_begin 124 = .ok (.getfield 40, 3) := by decide +kernel
theorem dX0_begin_127 : decode cX0_begin 127 = .ok (.iload_n 2, 1) := by decide +kernel
theorem dX0_begin_128 : decode cX0_begin 128 = .ok (.aload_n 0, 1) := by decide +kernel
theorem dX0_begin_129 : decode cX0_begin 129 = .ok (.getfield 31, 3) := by decide +kernel
theorem dX0_begin_132 : decode cX0_begin 132 = .ok (.iload_n 2, 1) := by decide +kernel
theorem dX0_begin_133 : decode cX0_begin 133 = .ok (.invokestatic 86, 3) := by decide +kernel
theorem dX0_begin_136 : decode cX0_begin 136 = .ok (.ifCond .eq 7, 3) := by decide +kernel
theorem dX0_begin_139 : decode cX0_begin 139 = .ok (.iconst 0, 1) := by decide +kernel
theorem dX0_begin_140 : decode cX0_begin 140 = .ok (.goto 9, 3) := by decide +kernel
theorem dX0_begin_143 : decode cX0_begin 143 = .ok (.aload_n 1, 1) := by decide +kernel
theorem dX0_begin_144 : decode cX0_begin 144 = .ok (.getfield 90, 3) := by decide +kernel
theorem dX0_begin_147 : decode cX0_begin 147 = .ok (.iload_n 2, 1) := by decide +kernel
theorem dX0_begin_148 : decode cX0_begin 148 = .ok (.iaload, 1) := by decide +kernel
theorem dX0_begin_149 : decode cX0_begin 149 = .ok (.iastore, 1) := by decide +kernel
theorem dX0_begin_150 : decode cX0_begin 150 = .ok (.aload_n 0, 1) := by decide +kernel
theorem dX0_begin_151 : decode cX0_begin 151 = .ok (.dup, 1) := by decide +kernel
theorem dX0_begin_152 : decode cX0_begin 152 = .ok (.getfield 37, 3) := by decide +kernel
theorem dX0_begin_155 : decode cX0_begin 155 = .ok (.aload_n 0, 1) := by decide +kernel
theorem dX0_begin_156 : decode cX0_begin 156 = .ok (.getfield 40, 3) := by decide +kernel
theorem dX0_begin_159 : decode cX0_begin 159 = .ok (.iload_n 2, 1) := by decide +kernel
theorem dX0_begin_160 : decode cX0_begin 160 = .ok (.iaload, 1) := by decide +kernel
theorem dX0_begin_161 : decode cX0_begin 161 = .ok (.isub, 1) := by decide +kernel
theorem dX0_begin_162 : decode cX0_begin 162 = .ok (.putfield 37, 3) := by decide +kernel
theorem dX0_begin_165 : decode cX0_begin 165 = .ok (.iinc 2 1, 3) := by decide +kernel
theorem dX0_begin_168 : decode cX0_begin 168 = .ok (.goto (-51), 3) := by decide +kernel
theorem dX0_begin_171 : decode cX0_begin 171 = .ok (.aload_n 0, 1) := by decide +kernel
theorem dX0_begin_172 : decode cX0_begin 172 = .ok (.getfield 43, 3) := by decide +kernel
theorem dX0_begin_175 : decode cX0_begin 175 = .ok (.iconst 0, 1) := by decide +kernel
theorem dX0_begin_176 : decode cX0_begin 176 = .ok (.invokestatic 92, 3) := by decide +kernel
theorem dX0_begin_179 : decode cX0_begin 179 = .ok (.return_, 1) := by decide +kernel
theorem dX0_copy_0 : decode cX0_copy 0 = .ok (.aload_n 0, 1) := by decide +kernel
theorem dX0_copy_1 : decode cX0_copy 1 = .ok (.aload_n 1, 1) := by decide +kernel
theorem dX0_copy_2 : decode cX0_copy 2 = .ok (.getfield 11, 3) := by decide +kernel
theorem dX0_copy_5 : decode cX0_copy 5 = .ok (.putfield 11, 3) := by decide +kernel
theorem dX0_copy_8 : decode cX0_copy 8 = .ok (.aload_n 1, 1) := by decide +kernel
theorem dX0_copy_9 : decode cX0_copy 9 = .ok (.getfield 15, 3) := by decide +kernel
theorem dX0_copy_12 : decode cX0_copy 12 = .ok (.iconst 0, 1) := by decide +kernel
theorem dX0_copy_13 : decode cX0_copy 13 = .ok (.aload_n 0, 1) := by decide +kernel
theorem dX0_copy_14 : decode cX0_copy 14 = .ok (.getfield 15, 3) := by decide +kernel
theorem dX0_copy_17 : decode cX0_copy 17 = .ok (.iconst 0, 1) := by decide +kernel
theorem dX0_copy_18 : decode cX0_copy 18 = .ok (.bipush 16, 2) := by decide +kernel
theorem dX0_copy_20 : decode cX0_copy 20 = .ok (.invokestatic 71, 3) := by decide +kernel
theorem dX0_copy_23 : decode cX0_copy 23 = .ok (.aload_n 1, 1) := by decide +kernel
theorem dX0_copy_24 : decode cX0_copy 24 = .ok (.getfield 19, 3) := by decide +kernel
theorem dX0_copy_27 : decode cX0_copy 27 = .ok (.iconst 0, 1) := by decide +kernel
theorem dX0_copy_28 : decode cX0_copy 28 = .ok (.aload_n 0, 1) := by decide +kernel
theorem dX0_copy_29 : decode cX0_copy 29 = .ok (.getfield 19, 3) := by decide +kernel
theorem dX0_copy_32 : decode cX0_copy 32 = .ok (.iconst 0, 1) := by decide +kernel
theorem dX0_copy_33 : decode cX0_copy 33 = .ok (.bipush 16, 2) := by decide +kernel
theorem dX0_copy_35 : decode cX0_copy 35 = .ok (.invokestatic 71, 3) := by decide +kernel
theorem dX0_copy_38 : decode cX0_copy 38 = .ok (.aload_n 1, 1) := by decide +kernel
theorem dX0_copy_39 : decode cX0_copy 39 = .ok (.getfield 22, 3) := by decide +kernel
theorem dX0_copy_42 : decode cX0_copy 42 = .ok (.iconst 0, 1) := by decide +kernel
theorem dX0_copy_43 : decode cX0_copy 43 = .ok (.aload_n 0, 1) := by decide +kernel
theorem dX0_copy_44 : decode cX0_copy 44 = .ok (.getfield 22, 3) := by decide +kernel
theorem dX0_copy_47 : decode cX0_copy 47 = .ok (.iconst 0, 1) := by decide +kernel
theorem dX0_copy_48 : decode cX0_copy 48 = .ok (.bipush 16, 2) := by decide +kernel
theorem dX0_copy_50 : decode cX0_copy 50 = .ok (.invokestatic 71, 3) := by decide +kernel
theorem dX0_copy_53 : decode cX0_copy 53 = .ok (.aload_n 1, 1) := by decide +kernel
theorem dX0_copy_54 : decode cX0_copy 54 = .ok (.getfield 25, 3) := by decide +kernel
theorem dX0_copy_57 : decode cX0_copy 57 = .ok (.iconst 0, 1) := by decide +kernel
theorem dX0_copy_58 : decode cX0_copy 58 = .ok (.aload_n 0, 1) := by decide +kernel
theorem dX0_copy_59 : decode cX0_copy 59 = .ok (.getfield 25, 3) := by decide +kernel
theorem dX0_copy_62 : decode cX0_copy 62 = .ok (.iconst 0, 1) := by decide +kernel
theorem dX0_copy_63 : decode cX0_copy 63 = .ok (.bipush 16, 2) := by decide +kernel
theorem dX0_copy_65 : decode cX0_copy 65 = .ok (.invokestatic 71, 3) := by decide +kernel
theorem dX0_copy_68 : decode cX0_copy 68 = .ok (.aload_n 1, 1) := by decide +kernel
theorem dX0_copy_69 : decode cX0_copy 69 = .ok (.getfield 28, 3) := by decide +kernel
theorem dX0_copy_72 : decode cX0_copy 72 = .ok (.iconst 0, 1) := by decide +kernel
theorem dX0_copy_73 : decode cX0_copy 73 = .ok (.aload_n 0, 1) := by decide +kernel
theorem dX0_copy_74 : decode cX0_copy 74 = .ok (.getfield 28, 3) := by decide +kernel
theorem dX0_copy_77 : decode cX0_copy 77 = .ok (.iconst 0, 1) := by decide +kernel
theorem dX0_copy_78 : decode cX0_copy 78 = .ok (.bipush 16, 2) := by decide +kernel
theorem dX0_copy_80 : decode cX0_copy 80 = .ok (.invokestatic 71, 3) := by decide +kernel
theorem dX0_copy_83 : decode cX0_copy 83 = .ok (.aload_n 0, 1) := by decide +kernel
theorem dX0_copy_84 : decode cX0_copy 84 = .ok (.aload_n 1, 1) := by decide +kernel
theorem dX0_copy_85 : decode cX0_copy 85 = .ok (.getfield 31, 3) := by decide +kernel
theorem dX0_copy_88 : decode cX0_copy 88 = .ok (.putfield 31, 3) := by decide +kernel
theorem dX0_copy_91 : decode cX0_copy 91 = .ok (.aload_n 0, 1) := by decide +kernel
theorem dX0_copy_92 : decode cX0_copy 92 = .ok (.aload_n 1, 1) := by decide +kernel
theorem dX0_copy_93 : decode cX0_copy 93 = .ok (.getfield 34, 3) := by decide +kernel
theorem dX0_copy_96 : decode cX0_copy 96 = .ok (.putfield 34, 3) := by decide +kernel
theorem dX0_copy_99 : decode cX0_copy 99 = .ok (.aload_n 0, 1) := by decide +kernel
theorem dX0_copy_100 : decode cX0_copy 100 = .ok (.aload_n 1, 1) := by decide +kernel
theorem dX0_copy_101 : decode cX0_copy 101 = .ok (.getfield 37, 3) := by decide +kernel
theorem dX0_copy_104 : decode cX0_copy 104 = .ok (.putfield 37, 3) := by decide +kernel
theorem dX0_copy_107 : decode cX0_copy 107 = .ok (.aload_n 1, 1) := by decide +kernel
theorem dX0_copy_108 : decode cX0_copy 108 = .ok (.getfield 40, 3) := by decide +kernel
theorem dX0_copy_111 : decode cX0_copy 111 = .ok (.iconst 0, 1) := by decide +kernel
theorem dX0_copy_112 : decode cX0_copy 112 = .ok (.aload_n 0, 1) := by decide +kernel
theorem dX0_copy_113 : decode cX0_copy 113 = .ok (.getfield 40, 3) := by decide +kernel
theorem dX0_copy_116 : decode cX0_copy 116 = .ok (.iconst 0, 1) := by decide +kernel
theorem dX0_copy_117 : decode cX0_copy 117 = .ok (.bipush 6, 2) := by decide +kernel
theorem dX0_copy_119 : decode cX0_copy 119 = .ok (.invokestatic 71, 3) := by decide +kernel
theorem dX0_copy_122 : decode cX0_copy 122 = .ok (.aload_n 1, 1) := by decide +kernel
theorem dX0_copy_123 : decode cX0_copy 123 = .ok (.getfield 43, 3) := by decide +kernel
theorem dX0_copy_126 : decode cX0_copy 126 = .ok (.iconst 0, 1) := by decide +kernel
theorem dX0_copy_127 : decode cX0_copy 127 = .ok (.aload_n 0, 1) := by decide +kernel
theorem dX0_copy_128 : decode cX0_copy 128 = .ok (.getfield 43, 3) := by decide +kernel
theorem dX0_copy_131 : decode cX0_copy 131 = .ok (.iconst 0, 1) := by decide +kernel
theorem dX0_copy_132 : decode cX0_copy 132 = .ok (.sipush 976, 3) := by decide +kernel
theorem dX0_copy_135 : decode cX0_copy 135 = .ok (.invokestatic 71, 3) := by decide +kernel
theorem dX0_copy_138 : decode cX0_copy 138 = .ok (.return_, 1) := by decide +kernel
theorem dX0_setWidth_0 : decode cX0_setWidth 0 = .ok (.aload_n 0, 1) := by decide +kernel
theorem dX0_setWidth_1 : decode cX0_setWidth 1 = .ok (.getfield 22, 3) := by decide +kernel
theorem dX0_setWidth_4 : decode cX0_setWidth 4 = .ok (.bipush 6, 2) := by decide +kernel
theorem dX0_setWidth_6 : decode cX0_setWidth 6 = .ok (.iload_n 1, 1) := by decide +kernel
theorem dX0_setWidth_7 : decode cX0_setWidth 7 = .ok (.iadd, 1) := by decide +kernel
theorem dX0_setWidth_8 : decode cX0_setWidth 8 = .ok (.iload_n 2, 1) := by decide +kernel
theorem dX0_setWidth_9 : decode cX0_setWidth 9 = .ok (.iastore, 1) := by decide +kernel
theorem dX0_setWidth_10 : decode cX0_setWidth 10 = .ok (.return_, 1) := by decide +kernel
theorem dX0_setShut_0 : decode cX0_setShut 0 = .ok (.aload_n 0, 1) := by decide +kernel
theorem dX0_setShut_1 : decode cX0_setShut 1 = .ok (.getfield 28, 3) := by decide +kernel
theorem dX0_setShut_4 : decode cX0_setShut 4 = .ok (.bipush 6, 2) := by decide +kernel
theorem dX0_setShut_6 : decode cX0_setShut 6 = .ok (.iload_n 1, 1) := by decide +kernel
theorem dX0_setShut_7 : decode cX0_setShut 7 = .ok (.iadd, 1) := by decide +kernel
theorem dX0_setShut_8 : decode cX0_setShut 8 = .ok (.iload_n 2, 1) := by decide +kernel
theorem dX0_setShut_9 : decode cX0_setShut 9 = .ok (.iastore, 1) := by decide +kernel
theorem dX0_setShut_10 : decode cX0_setShut 10 = .ok (.return_, 1) := by decide +kernel
theorem dX0_lastUse_0 : decode cX0_lastUse 0 = .ok (.bipush 6, 2) := by decide +kernel
theorem dX0_lastUse_2 : decode cX0_lastUse 2 = .ok (.iload_n 1, 1) := by decide +kernel
theorem dX0_lastUse_3 : decode cX0_lastUse 3 = .ok (.iadd, 1) := by decide +kernel
theorem dX0_lastUse_4 : decode cX0_lastUse 4 = .ok (.bipush 61, 2) := by decide +kernel
theorem dX0_lastUse_6 : decode cX0_lastUse 6 = .ok (.imul, 1) := by decide +kernel
theorem dX0_lastUse_7 : decode cX0_lastUse 7 = .ok (.istore_n 2, 1) := by decide +kernel
theorem dX0_lastUse_8 : decode cX0_lastUse 8 = .ok (.bipush 60, 2) := by decide +kernel
theorem dX0_lastUse_10 : decode cX0_lastUse 10 = .ok (.istore_n 3, 1) := by decide +kernel
theorem dX0_lastUse_11 : decode cX0_lastUse 11 = .ok (.iload_n 3, 1) := by decide +kernel
theorem dX0_lastUse_12 : decode cX0_lastUse 12 = .ok (.ifCond .lt 22, 3) := by decide +kernel
theorem dX0_lastUse_15 : decode cX0_lastUse 15 = .ok (.aload_n 0, 1) := by decide +kernel
theorem dX0_lastUse_16 : decode cX0_lastUse 16 = .ok (.getfield 43, 3) := by decide +kernel
theorem dX0_lastUse_19 : decode cX0_lastUse 19 = .ok (.iload_n 2, 1) := by decide +kernel
theorem dX0_lastUse_20 : decode cX0_lastUse 20 = .ok (.iload_n 3, 1) := by decide +kernel
theorem dX0_lastUse_21 : decode cX0_lastUse 21 = .ok (.iadd, 1) := by decide +kernel
theorem dX0_lastUse_22 : decode cX0_lastUse 22 = .ok (.iaload, 1) := by decide +kernel
theorem dX0_lastUse_23 : decode cX0_lastUse 23 = .ok (.ifCond .le 5, 3) := by decide +kernel
theorem dX0_lastUse_26 : decode cX0_lastUse 26 = .ok (.iload_n 3, 1) := by decide +kernel
theorem dX0_lastUse_27 : decode cX0_lastUse 27 = .ok (.ireturn, 1) := by decide +kernel
theorem dX0_lastUse_28 : decode cX0_lastUse 28 = .ok (.iinc 3 (-1), 3) := by decide +kernel
theorem dX0_lastUse_31 : decode cX0_lastUse 31 = .ok (.goto (-20), 3) := by decide +kernel
theorem dX0_lastUse_34 : decode cX0_lastUse 34 = .ok (.iconst (-1), 1) := by decide +kernel
theorem dX0_lastUse_35 : decode cX0_lastUse 35 = .ok (.ireturn, 1) := by decide +kernel
theorem dX0_leadsAllBy_0 : decode cX0_leadsAllBy 0 = .ok (.aload_n 0, 1) := by decide +kernel
theorem dX0_leadsAllBy_1 : decode cX0_leadsAllBy 1 = .ok (.iload_n 1, 1) := by decide +kernel
theorem dX0_leadsAllBy_2 : decode cX0_leadsAllBy 2 = .ok (.invokevirtual 98, 3) := by decide +kernel
theorem dX0_leadsAllBy_5 : decode cX0_leadsAllBy 5 = .ok (.aload_n 0, 1) := by decide +kernel
theorem dX0_leadsAllBy_6 : decode cX0_leadsAllBy 6 = .ok (.getfield 34, 3) := by decide +kernel
theorem dX0_leadsAllBy_9 : decode cX0_leadsAllBy 9 = .ok (.if_icmp .ne 7, 3) := by decide +kernel
theorem dX0_leadsAllBy_12 : decode cX0_leadsAllBy 12 = .ok (.iconst 1, 1) := by decide +kernel
theorem dX0_leadsAllBy_13 : decode cX0_leadsAllBy 13 = .ok (.goto 4, 3) := by decide +kernel
theorem dX0_leadsAllBy_16 : decode cX0_leadsAllBy 16 = .ok (.iconst 0, 1) := by decide +kernel
theorem dX0_leadsAllBy_17 : decode cX0_leadsAllBy 17 = .ok (.ireturn, 1) := by decide +kernel
theorem dX0_leadBy_0 : decode cX0_leadBy 0 = .ok (.iconst 0, 1) := by decide +kernel
theorem dX0_leadBy_1 : decode cX0_leadBy 1 = .ok (.istore_n 2, 1) := by decide +kernel
theorem dX0_leadBy_2 : decode cX0_leadBy 2 = .ok (.iload_n 2, 1) := by decide +kernel
theorem dX0_leadBy_3 : decode cX0_leadBy 3 = .ok (.sipush 180, 3) := by decide +kernel
theorem dX0_leadBy_6 : decode cX0_leadBy 6 = .ok (.if_icmp .gt 57, 3) := by decide +kernel
theorem dX0_leadBy_9 : decode cX0_leadBy 9 = .ok (.aload_n 0, 1) := by decide +kernel
theorem dX0_leadBy_10 : decode cX0_leadBy 10 = .ok (.getfield 37, 3) := by decide +kernel
theorem dX0_leadBy_13 : decode cX0_leadBy 13 = .ok (.aload_n 0, 1) := by decide +kernel
theorem dX0_leadBy_14 : decode cX0_leadBy 14 = .ok (.getfield 34, 3) := by decide +kernel
theorem dX0_leadBy_17 : decode cX0_leadBy 17 = .ok (.if_icmp .ge 46, 3) := by decide +kernel
theorem dX0_leadBy_20 : decode cX0_leadBy 20 = .ok (.aload_n 0, 1) := by decide +kernel
theorem dX0_leadBy_21 : decode cX0_leadBy 21 = .ok (.iload_n 1, 1) := by decide +kernel
theorem dX0_leadBy_22 : decode cX0_leadBy 22 = .ok (.invokevirtual 102, 3) := by decide +kernel
theorem dX0_leadBy_25 : decode cX0_leadBy 25 = .ok (.istore_n 3, 1) := by decide +kernel
theorem dX0_leadBy_26 : decode cX0_leadBy 26 = .ok (.iload_n 3, 1) := by decide +kernel
theorem dX0_leadBy_27 : decode cX0_leadBy 27 = .ok (.ifCond .ge 8, 3) := by decide +kernel
theorem dX0_leadBy_30 : decode cX0_leadBy 30 = .ok (.aload_n 0, 1) := by decide +kernel
theorem dX0_leadBy_31 : decode cX0_leadBy 31 = .ok (.getfield 37, 3) := by decide +kernel
theorem dX0_leadBy_34 : decode cX0_leadBy 34 = .ok (.ireturn, 1) := by decide +kernel
theorem dX0_leadBy_35 : decode cX0_leadBy 35 = .ok (.aload_n 0, 1) := by decide +kernel
theorem dX0_leadBy_36 : decode cX0_leadBy 36 = .ok (.iload_n 3, 1) := by decide +kernel
theorem dX0_leadBy_37 : decode cX0_leadBy 37 = .ok (.invokevirtual 105, 3) := by decide +kernel
theorem dX0_leadBy_40 : decode cX0_leadBy 40 = .ok (.aload_n 0, 1) := by decide +kernel
theorem dX0_leadBy_41 : decode cX0_leadBy 41 = .ok (.getfield 62, 3) := by decide +kernel
theorem dX0_leadBy_44 : decode cX0_leadBy 44 = .ok (.ifCond .gt 8, 3) := by decide +kernel
theorem dX0_leadBy_47 : decode cX0_leadBy 47 = .ok (.aload_n 0, 1) := by decide +kernel
theorem dX0_leadBy_48 : decode cX0_leadBy 48 = .ok (.getfield 37, 3) := by decide +kernel
theorem dX0_leadBy_51 : decode cX0_leadBy 51 = .ok (.ireturn, 1) := by decide +kernel
theorem dX0_leadBy_52 : decode cX0_leadBy 52 = .ok (.aload_n 0, 1) := by decide +kernel
theorem dX0_leadBy_53 : decode cX0_leadBy 53 = .ok (.iload_n 3, 1) := by decide +kernel
theorem dX0_leadBy_54 : decode cX0_leadBy 54 = .ok (.invokevirtual 109, 3) := by decide +kernel
theorem dX0_leadBy_57 : decode cX0_leadBy 57 = .ok (.iinc 2 1, 3) := by decide +kernel
theorem dX0_leadBy_60 : decode cX0_leadBy 60 = .ok (.goto (-58), 3) := by decide +kernel
theorem dX0_leadBy_63 : decode cX0_leadBy 63 = .ok (.aload_n 0, 1) := by decide +kernel
theorem dX0_leadBy_64 : decode cX0_leadBy 64 = .ok (.getfield 37, 3) := by decide +kernel
theorem dX0_leadBy_67 : decode cX0_leadBy 67 = .ok (.ireturn, 1) := by decide +kernel
theorem dX0_findWayOut_0 : decode cX0_findWayOut 0 = .ok (.iconst 0, 1) := by decide +kernel
theorem dX0_findWayOut_1 : decode cX0_findWayOut 1 = .ok (.istore_n 2, 1) := by decide +kernel
theorem dX0_findWayOut_2 : decode cX0_findWayOut 2 = .ok (.iload_n 2, 1) := by decide +kernel
theorem dX0_findWayOut_3 : decode cX0_findWayOut 3 = .ok (.bipush 6, 2) := by decide +kernel
theorem dX0_findWayOut_5 : decode cX0_findWayOut 5 = .ok (.if_icmp .ge 31, 3) := by decide +kernel
theorem dX0_findWayOut_8 : decode cX0_findWayOut 8 = .ok (.aload_n 0, 1) := by decide +kernel
theorem dX0_findWayOut_9 : decode cX0_findWayOut 9 = .ok (.getfield 46, 3) := by decide +kernel
theorem dX0_findWayOut_12 : decode cX0_findWayOut 12 = .ok (.iload_n 2, 1) := by decide +kernel
theorem dX0_findWayOut_13 : decode cX0_findWayOut 13 = .ok (.aload_n 0, 1) := by decide +kernel
theorem dX0_findWayOut_14 : decode cX0_findWayOut 14 = .ok (.getfield 31, 3) := by decide +kernel
theorem dX0_findWayOut_17 : decode cX0_findWayOut 17 = .ok (.iload_n 2, 1) := by decide +kernel
theorem dX0_findWayOut_18 : decode cX0_findWayOut 18 = .ok (.invokestatic 86, 3) := by decide +kernel
theorem dX0_findWayOut_21 : decode cX0_findWayOut 21 = .ok (.ifCond .eq 7, 3) := by decide +kernel
theorem dX0_findWayOut_24 : decode cX0_findWayOut 24 = .ok (.iload_n 1, 1) := by decide +kernel
theorem dX0_findWayOut_25 : decode cX0_findWayOut 25 = .ok (.goto 4, 3) := by decide +kernel
theorem dX0_findWayOut_28 : decode cX0_findWayOut 28 = .ok (.iconst (-1), 1) := by decide +kernel
theorem dX0_findWayOut_29 : decode cX0_findWayOut 29 = .ok (.iastore, 1) := by decide +kernel
theorem dX0_findWayOut_30 : decode cX0_findWayOut 30 = .ok (.iinc 2 1, 3) := by decide +kernel
theorem dX0_findWayOut_33 : decode cX0_findWayOut 33 = .ok (.goto (-31), 3) := by decide +kernel
theorem dX0_findWayOut_36 : decode cX0_findWayOut 36 = .ok (.iconst 1, 1) := by decide +kernel
theorem dX0_findWayOut_37 : decode cX0_findWayOut 37 = .ok (.istore_n 2, 1) := by decide +kernel
theorem dX0_findWayOut_38 : decode cX0_findWayOut 38 = .ok (.iconst 0, 1) := by decide +kernel
theorem dX0_findWayOut_39 : decode cX0_findWayOut 39 = .ok (.istore_n 3, 1) := by decide +kernel
theorem dX0_findWayOut_40 : decode cX0_findWayOut 40 = .ok (.iload_n 2, 1) := by decide +kernel
theorem dX0_findWayOut_41 : decode cX0_findWayOut 41 = .ok (.ifCond .eq 113, 3) := by decide +kernel
theorem dX0_findWayOut_44 : decode cX0_findWayOut 44 = .ok (.iload_n 3, 1) := by decide +kernel
theorem dX0_findWayOut_45 : decode cX0_findWayOut 45 = .ok (.sipush 366, 3) := by decide +kernel
theorem dX0_findWayOut_48 : decode cX0_findWayOut 48 = .ok (.if_icmp .gt 106, 3) := by decide +kernel
theorem dX0_findWayOut_51 : decode cX0_findWayOut 51 = .ok (.iconst 0, 1) := by decide +kernel
theorem dX0_findWayOut_52 : decode cX0_findWayOut 52 = .ok (.istore_n 2, 1) := by decide +kernel
theorem dX0_findWayOut_53 : decode cX0_findWayOut 53 = .ok (.iconst 0, 1) := by decide +kernel
theorem dX0_findWayOut_54 : decode cX0_findWayOut 54 = .ok (.istore 4, 2) := by decide +kernel
theorem dX0_findWayOut_56 : decode cX0_findWayOut 56 = .ok (.iload 4, 2) := by decide +kernel
theorem dX0_findWayOut_58 : decode cX0_findWayOut 58 = .ok (.bipush 6, 2) := by decide +kernel
theorem dX0_findWayOut_60 : decode cX0_findWayOut 60 = .ok (.if_icmp .ge 19, 3) := by decide +kernel
theorem dX0_findWayOut_63 : decode cX0_findWayOut 63 = .ok (.iload_n 2, 1) := by decide +kernel
theorem dX0_findWayOut_64 : decode cX0_findWayOut 64 = .ok (.aload_n 0, 1) := by decide +kernel
theorem dX0_findWayOut_65 : decode cX0_findWayOut 65 = .ok (.iload 4, 2) := by decide +kernel
theorem dX0_findWayOut_67 : decode cX0_findWayOut 67 = .ok (.iload_n 1, 1) := by decide +kernel
theorem dX0_findWayOut_68 : decode cX0_findWayOut 68 = .ok (.invokevirtual 112, 3) := by decide +kernel
theorem dX0_findWayOut_71 : decode cX0_findWayOut 71 = .ok (.ior, 1) := by decide +kernel
theorem dX0_findWayOut_72 : decode cX0_findWayOut 72 = .ok (.istore_n 2, 1) := by decide +kernel
theorem dX0_findWayOut_73 : decode cX0_findWayOut 73 = .ok (.iinc 4 1, 3) := by decide +kernel
theorem dX0_findWayOut_76 : decode cX0_findWayOut 76 = .ok (.goto (-20), 3) := by decide +kernel
theorem dX0_findWayOut_79 : decode cX0_findWayOut 79 = .ok (.bipush 6, 2) := by decide +kernel
theorem dX0_findWayOut_81 : decode cX0_findWayOut 81 = .ok (.istore 4, 2) := by decide +kernel
theorem dX0_findWayOut_83 : decode cX0_findWayOut 83 = .ok (.iload 4, 2) := by decide +kernel
theorem dX0_findWayOut_85 : decode cX0_findWayOut 85 = .ok (.aload_n 0, 1) := by decide +kernel
theorem dX0_findWayOut_86 : decode cX0_findWayOut 86 = .ok (.getfield 11, 3) := by decide +kernel
theorem dX0_findWayOut_89 : decode cX0_findWayOut 89 = .ok (.if_icmp .ge 45, 3) := by decide +kernel
theorem dX0_findWayOut_92 : decode cX0_findWayOut 92 = .ok (.aload_n 0, 1) := by decide +kernel
theorem dX0_findWayOut_93 : decode cX0_findWayOut 93 = .ok (.getfield 31, 3) := by decide +kernel
theorem dX0_findWayOut_96 : decode cX0_findWayOut 96 = .ok (.aload_n 0, 1) := by decide +kernel
theorem dX0_findWayOut_97 : decode cX0_findWayOut 97 = .ok (.getfield 15, 3) := by decide +kernel
theorem dX0_findWayOut_100 : decode cX0_findWayOut 100 = .ok (.iload 4, 2) := by decide +kernel
theorem dX0_findWayOut_102 : decode cX0_findWayOut 102 = .ok (.iaload, 1) := by decide +kernel
theorem dX0_findWayOut_103 : decode cX0_findWayOut 103 = .ok (.invokestatic 86, 3) := by decide +kernel
theorem dX0_findWayOut_106 : decode cX0_findWayOut 106 = .ok (.ifCond .ne 22, 3) := by decide +kernel
theorem dX0_findWayOut_109 : decode cX0_findWayOut 109 = .ok (.iload_n 2, 1) := by decide +kernel
theorem dX0_findWayOut_110 : decode cX0_findWayOut 110 = .ok (.aload_n 0, 1) := by decide +kernel
theorem dX0_findWayOut_111 : decode cX0_findWayOut 111 = .ok (.iload 4, 2) := by decide +kernel
theorem dX0_findWayOut_113 : decode cX0_findWayOut 113 = .ok (.invokevirtual 115, 3) := by decide +kernel
theorem dX0_findWayOut_116 : decode cX0_findWayOut 116 = .ok (.ior, 1) := by decide +kernel
theorem dX0_findWayOut_117 : decode cX0_findWayOut 117 = .ok (.istore_n 2, 1) := by decide +kernel
theorem dX0_findWayOut_118 : decode cX0_findWayOut 118 = .ok (.iload_n 2, 1) := by decide +kernel
theorem dX0_findWayOut_119 : decode cX0_findWayOut 119 = .ok (.aload_n 0, 1) := by decide +kernel
theorem dX0_findWayOut_120 : decode cX0_findWayOut 120 = .ok (.iload 4, 2) := by decide +kernel
theorem dX0_findWayOut_122 : decode cX0_findWayOut 122 = .ok (.iload_n 1, 1) := by decide +kernel
theorem dX0_findWayOut_123 : decode cX0_findWayOut 123 = .ok (.invokevirtual 119, 3) := by decide +kernel
theorem dX0_findWayOut_126 : decode cX0_findWayOut 126 = .ok (.ior, 1) := by decide +kernel
theorem dX0_findWayOut_127 : decode cX0_findWayOut 127 = .ok (.istore_n 2, 1) := by decide +kernel
theorem dX0_findWayOut_128 : decode cX0_findWayOut 128 = .ok (.iinc 4 1, 3) := by decide +kernel
theorem dX0_findWayOut_131 : decode cX0_findWayOut 131 = .ok (.goto (-48), 3) := by decide +kernel
theorem dX0_findWayOut_134 : decode cX0_findWayOut 134 = .ok (.aload_n 0, 1) := by decide +kernel
theorem dX0_findWayOut_135 : decode cX0_findWayOut 135 = .ok (.invokevirtual 122, 3) := by decide +kernel
theorem dX0_findWayOut_138 : decode cX0_findWayOut 138 = .ok (.istore 4, 2) := by decide +kernel
theorem dX0_findWayOut_140 : decode cX0_findWayOut 140 = .ok (.iload 4, 2) := by decide +kernel
theorem dX0_findWayOut_142 : decode cX0_findWayOut 142 = .ok (.ifCond .lt 6, 3) := by decide +kernel
theorem dX0_findWayOut_145 : decode cX0_findWayOut 145 = .ok (.iload 4, 2) := by decide +kernel
theorem dX0_findWayOut_147 : decode cX0_findWayOut 147 = .ok (.ireturn, 1) := by decide +kernel
theorem dX0_findWayOut_148 : decode cX0_findWayOut 148 = .ok (.iinc 3 1, 3) := by decide +kernel
theorem dX0_findWayOut_151 : decode cX0_findWayOut 151 = .ok (.goto (-111), 3) := by decide +kernel
theorem dX0_findWayOut_154 : decode cX0_findWayOut 154 = .ok (.iconst (-1), 1) := by decide +kernel
theorem dX0_findWayOut_155 : decode cX0_findWayOut 155 = .ok (.ireturn, 1) := by decide +kernel
theorem dX0_reachedRoomNotLed_0 : decode cX0_reachedRoomNotLed 0 = .ok (.iconst 0, 1) := by decide +kernel
theorem dX0_reachedRoomNotLed_1 : decode cX0_reachedRoomNotLed 1 = .ok (.istore_n 1, 1) := by decide +kernel
theorem dX0_reachedRoomNotLed_2 : decode cX0_reachedRoomNotLed 2 = .ok (.iload_n 1, 1) := by decide +kernel
theorem dX0_reachedRoomNotLed_3 : decode cX0_reachedRoomNotLed 3 = .ok (.bipush 6, 2) := by decide +kernel
theorem dX0_reachedRoomNotLed_5 : decode cX0_reachedRoomNotLed 5 = .ok (.if_icmp .ge 29, 3) := by decide +kernel
theorem dX0_reachedRoomNotLed_8 : decode cX0_reachedRoomNotLed 8 = .ok (.aload_n 0, 1) := by decide +kernel
theorem dX0_reachedRoomNotLed_9 : decode cX0_reachedRoomNotLed 9 = .ok (.getfield 40, 3) := by decide +kernel
theorem dX0_reachedRoomNotLed_12 : decode cX0_reachedRoomNotLed 12 = .ok (.iload_n 1, 1) := by decide +kernel
theorem dX0_reachedRoomNotLed_13 : decode cX0_reachedRoomNotLed 13 = .ok (.iaload, 1) := by decide +kernel
theorem dX0_reachedRoomNotLed_14 : decode cX0_reachedRoomNotLed 14 = .ok (.ifCond .le 14, 3) := by decide +kernel
theorem dX0_reachedRoomNotLed_17 : decode cX0_reachedRoomNotLed 17 = .ok (.aload_n 0, 1) := by decide +kernel
theorem dX0_reachedRoomNotLed_18 : decode cX0_reachedRoomNotLed 18 = .ok (.getfield 46, 3) := by decide +kernel
theorem dX0_reachedRoomNotLed_21 : decode cX0_reachedRoomNotLed 21 = .ok (.iload_n 1, 1) := by decide +kernel
theorem dX0_reachedRoomNotLed_22 : decode cX0_reachedRoomNotLed 22 = .ok (.iaload, 1) := by decide +kernel
theorem dX0_reachedRoomNotLed_23 : decode cX0_reachedRoomNotLed 23 = .ok (.ifCond .lt 5, 3) := by decide +kernel
theorem dX0_reachedRoomNotLed_26 : decode cX0_reachedRoomNotLed 26 = .ok (.iload_n 1, 1) := by decide +kernel
theorem dX0_reachedRoomNotLed_27 : decode cX0_reachedRoomNotLed 27 = .ok (.ireturn, 1) := by decide +kernel
theorem dX0_reachedRoomNotLed_28 : decode cX0_reachedRoomNotLed 28 = .ok (.iinc 1 1, 3) := by decide +kernel
theorem dX0_reachedRoomNotLed_31 : decode cX0_reachedRoomNotLed 31 = .ok (.goto (-29), 3) := by decide +kernel
theorem dX0_reachedRoomNotLed_34 : decode cX0_reachedRoomNotLed 34 = .ok (.iconst (-1), 1) := by decide +kernel
theorem dX0_reachedRoomNotLed_35 : decode cX0_reachedRoomNotLed 35 = .ok (.ireturn, 1) := by decide +kernel
theorem dX0_reachByNotWaiting_0 : decode cX0_reachByNotWaiting 0 = .ok (.iload_n 1, 1) := by decide +kernel
theorem dX0_reachByNotWaiting_1 : decode cX0_reachByNotWaiting 1 = .ok (.bipush 61, 2) := by decide +kernel
theorem dX0_reachByNotWaiting_3 : decode cX0_reachByNotWaiting 3 = .ok (.imul, 1) := by decide +kernel
theorem dX0_reachByNotWaiting_4 : decode cX0_reachByNotWaiting 4 = .ok (.istore_n 3, 1) := by decide +kernel
theorem dX0_reachByNotWaiting_5 : decode cX0_reachByNotWaiting 5 = .ok (.aload_n 0, 1) := by decide +kernel
theorem dX0_reachByNotWaiting_6 : decode cX0_reachByNotWaiting 6 = .ok (.getfield 46, 3) := by decide +kernel
theorem dX0_reachByNotWaiting_9 : decode cX0_reachByNotWaiting 9 = .ok (.iload_n 1, 1) := by decide +kernel
theorem dX0_reachByNotWaiting_10 : decode cX0_reachByNotWaiting 10 = .ok (.iaload, 1) := by decide +kernel
theorem dX0_reachByNotWaiting_11 : decode cX0_reachByNotWaiting 11 = .ok (.istore 4, 2) := by decide +kernel
theorem dX0_reachByNotWaiting_13 : decode cX0_reachByNotWaiting 13 = .ok (.iload 4, 2) := by decide +kernel
theorem dX0_reachByNotWaiting_15 : decode cX0_reachByNotWaiting 15 = .ok (.ifCond .ge 5, 3) := by decide +kernel
theorem dX0_reachByNotWaiting_18 : decode cX0_reachByNotWaiting 18 = .ok (.iconst 0, 1) := by decide +kernel
theorem dX0_reachByNotWaiting_19 : decode cX0_reachByNotWaiting 19 = .ok (.ireturn, 1) := by decide +kernel
theorem dX0_reachByNotWaiting_20 : decode cX0_reachByNotWaiting 20 = .ok (.iload 4, 2) := by decide +kernel
theorem dX0_reachByNotWaiting_22 : decode cX0_reachByNotWaiting 22 = .ok (.iload_n 2, 1) := by decide +kernel
theorem dX0_reachByNotWaiting_23 : decode cX0_reachByNotWaiting 23 = .ok (.if_icmp .ge 34, 3) := by decide +kernel
theorem dX0_reachByNotWaiting_26 : decode cX0_reachByNotWaiting 26 = .ok (.aload_n 0, 1) := by decide +kernel
theorem dX0_reachByNotWaiting_27 : decode cX0_reachByNotWaiting 27 = .ok (.getfield 43, 3) := by decide +kernel
theorem dX0_reachByNotWaiting_30 : decode cX0_reachByNotWaiting 30 = .ok (.iload_n 3, 1) := by decide +kernel
theorem dX0_reachByNotWaiting_31 : decode cX0_reachByNotWaiting 31 = .ok (.iload 4, 2) := by decide +kernel
theorem dX0_reachByNotWaiting_33 : decode cX0_reachByNotWaiting 33 = .ok (.iadd, 1) := by decide +kernel
theorem dX0_reachByNotWaiting_34 : decode cX0_reachByNotWaiting 34 = .ok (.iaload, 1) := by decide +kernel
theorem dX0_reachByNotWaiting_35 : decode cX0_reachByNotWaiting 35 = .ok (.ifCond .le 22, 3) := by decide +kernel
theorem dX0_reachByNotWaiting_38 : decode cX0_reachByNotWaiting 38 = .ok (.iinc 4 1, 3) := by decide +kernel
theorem dX0_reachByNotWaiting_41 : decode cX0_reachByNotWaiting 41 = .ok (.aload_n 0, 1) := by decide +kernel
theorem dX0_reachByNotWaiting_42 : decode cX0_reachByNotWaiting 42 = .ok (.getfield 49, 3) := by decide +kernel
theorem dX0_reachByNotWaiting_45 : decode cX0_reachByNotWaiting 45 = .ok (.iload_n 3, 1) := by decide +kernel
theorem dX0_reachByNotWaiting_46 : decode cX0_reachByNotWaiting 46 = .ok (.iload 4, 2) := by decide +kernel
theorem dX0_reachByNotWaiting_48 : decode cX0_reachByNotWaiting 48 = .ok (.iadd, 1) := by decide +kernel
theorem dX0_reachByNotWaiting_49 : decode cX0_reachByNotWaiting 49 = .ok (.iload_n 1, 1) := by decide +kernel
theorem dX0_reachByNotWaiting_50 : decode cX0_reachByNotWaiting 50 = .ok (.iconst 1, 1) := by decide +kernel
theorem dX0_reachByNotWaiting_51 : decode cX0_reachByNotWaiting 51 = .ok (.iadd, 1) := by decide +kernel
theorem dX0_reachByNotWaiting_52 : decode cX0_reachByNotWaiting 52 = .ok (.ineg, 1) := by decide +kernel
theorem dX0_reachByNotWaiting_53 : decode cX0_reachByNotWaiting 53 = .ok (.iastore, 1) := by decide +kernel
theorem dX0_reachByNotWaiting_54 : decode cX0_reachByNotWaiting 54 = .ok (.goto (-34), 3) := by decide +kernel
theorem dX0_reachByNotWaiting_57 : decode cX0_reachByNotWaiting 57 = .ok (.iload 4, 2) := by decide +kernel
theorem dX0_reachByNotWaiting_59 : decode cX0_reachByNotWaiting 59 = .ok (.aload_n 0, 1) := by decide +kernel
theorem dX0_reachByNotWaiting_60 : decode cX0_reachByNotWaiting 60 = .ok (.getfield 46, 3) := by decide +kernel
theorem dX0_reachByNotWaiting_63 : decode cX0_reachByNotWaiting 63 = .ok (.iload_n 1, 1) := by decide +kernel
theorem dX0_reachByNotWaiting_64 : decode cX0_reachByNotWaiting 64 = .ok (.iaload, 1) := by decide +kernel
theorem dX0_reachByNotWaiting_65 : decode cX0_reachByNotWaiting 65 = .ok (.if_icmp .le 7, 3) := by decide +kernel
theorem dX0_reachByNotWaiting_68 : decode cX0_reachByNotWaiting 68 = .ok (.iconst 1, 1) := by decide +kernel
theorem dX0_reachByNotWaiting_69 : decode cX0_reachByNotWaiting 69 = .ok (.goto 4, 3) := by decide +kernel
theorem dX0_reachByNotWaiting_72 : decode cX0_reachByNotWaiting 72 = .ok (.iconst 0, 1) := by decide +kernel
theorem dX0_reachByNotWaiting_73 : decode cX0_reachByNotWaiting 73 = .ok (.istore 5, 2) := by decide +kernel
theorem dX0_reachByNotWaiting_75 : decode cX0_reachByNotWaiting 75 = .ok (.aload_n 0, 1) := by decide +kernel
theorem dX0_reachByNotWaiting_76 : decode cX0_reachByNotWaiting 76 = .ok (.getfield 46, 3) := by decide +kernel
theorem dX0_reachByNotWaiting_79 : decode cX0_reachByNotWaiting 79 = .ok (.iload_n 1, 1) := by decide +kernel
theorem dX0_reachByNotWaiting_80 : decode cX0_reachByNotWaiting 80 = .ok (.iload 4, 2) := by decide +kernel
theorem dX0_reachByNotWaiting_82 : decode cX0_reachByNotWaiting 82 = .ok (.iastore, 1) := by decide +kernel
theorem dX0_reachByNotWaiting_83 : decode cX0_reachByNotWaiting 83 = .ok (.iload 5, 2) := by decide +kernel
theorem dX0_reachByNotWaiting_85 : decode cX0_reachByNotWaiting 85 = .ok (.ireturn, 1) := by decide +kernel
theorem dX0_reachByEntering_0 : decode cX0_reachByEntering 0 = .ok (.iload_n 1, 1) := by decide +kernel
theorem dX0_reachByEntering_1 : decode cX0_reachByEntering 1 = .ok (.bipush 61, 2) := by decide +kernel
theorem dX0_reachByEntering_3 : decode cX0_reachByEntering 3 = .ok (.imul, 1) := by decide +kernel
theorem dX0_reachByEntering_4 : decode cX0_reachByEntering 4 = .ok (.istore_n 2, 1) := by decide +kernel
theorem dX0_reachByEntering_5 : decode cX0_reachByEntering 5 = .ok (.aload_n 0, 1) := by decide +kernel
theorem dX0_reachByEntering_6 : decode cX0_reachByEntering 6 = .ok (.getfield 15, 3) := by decide +kernel
theorem dX0_reachByEntering_9 : decode cX0_reachByEntering 9 = .ok (.iload_n 1, 1) := by decide +kernel
theorem dX0_reachByEntering_10 : decode cX0_reachByEntering 10 = .ok (.iaload, 1) := by decide +kernel
theorem dX0_reachByEntering_11 : decode cX0_reachByEntering 11 = .ok (.istore_n 3, 1) := by decide +kernel
theorem dX0_reachByEntering_12 : decode cX0_reachByEntering 12 = .ok (.aload_n 0, 1) := by decide +kernel
theorem dX0_reachByEntering_13 : decode cX0_reachByEntering 13 = .ok (.getfield 46, 3) := by decide +kernel
theorem dX0_reachByEntering_16 : decode cX0_reachByEntering 16 = .ok (.aload_n 0, 1) := by decide +kernel
theorem dX0_reachByEntering_17 : decode cX0_reachByEntering 17 = .ok (.getfield 19, 3) := by decide +kernel
theorem dX0_reachByEntering_20 : decode cX0_reachByEntering 20 = .ok (.iload_n 1, 1) := by decide +kernel
theorem dX0_reachByEntering_21 : decode cX0_reachByEntering 21 = .ok (.iaload, 1) := by decide +kernel
theorem dX0_reachByEntering_22 : decode cX0_reachByEntering 22 = .ok (.iaload, 1) := by decide +kernel
theorem dX0_reachByEntering_23 : decode cX0_reachByEntering 23 = .ok (.aload_n 0, 1) := by decide +kernel
theorem dX0_reachByEntering_24 : decode cX0_reachByEntering 24 = .ok (.getfield 25, 3) := by decide +kernel
theorem dX0_reachByEntering_27 : decode cX0_reachByEntering 27 = .ok (.iload_n 1, 1) := by decide +kernel
theorem dX0_reachByEntering_28 : decode cX0_reachByEntering 28 = .ok (.iaload, 1) := by decide +kernel
theorem dX0_reachByEntering_29 : decode cX0_reachByEntering 29 = .ok (.isub, 1) := by decide +kernel
theorem dX0_reachByEntering_30 : decode cX0_reachByEntering 30 = .ok (.aload_n 0, 1) := by decide +kernel
theorem dX0_reachByEntering_31 : decode cX0_reachByEntering 31 = .ok (.getfield 28, 3) := by decide +kernel
theorem dX0_reachByEntering_34 : decode cX0_reachByEntering 34 = .ok (.iload_n 1, 1) := by decide +kernel
theorem dX0_reachByEntering_35 : decode cX0_reachByEntering 35 = .ok (.iaload, 1) := by decide +kernel
theorem dX0_reachByEntering_36 : decode cX0_reachByEntering 36 = .ok (.iconst 1, 1) := by decide +kernel
theorem dX0_reachByEntering_37 : decode cX0_reachByEntering 37 = .ok (.isub, 1) := by decide +kernel
theorem dX0_reachByEntering_38 : decode cX0_reachByEntering 38 = .ok (.invokestatic 125, 3) := by decide +kernel
theorem dX0_reachByEntering_41 : decode cX0_reachByEntering 41 = .ok (.istore 4, 2) := by decide +kernel
theorem dX0_reachByEntering_43 : decode cX0_reachByEntering 43 = .ok (.iload 4, 2) := by decide +kernel
theorem dX0_reachByEntering_45 : decode cX0_reachByEntering 45 = .ok (.aload_n 0, 1) := by decide +kernel
theorem dX0_reachByEntering_46 : decode cX0_reachByEntering 46 = .ok (.getfield 46, 3) := by decide +kernel
theorem dX0_reachByEntering_49 : decode cX0_reachByEntering 49 = .ok (.iload_n 3, 1) := by decide +kernel
theorem dX0_reachByEntering_50 : decode cX0_reachByEntering 50 = .ok (.iaload, 1) := by decide +kernel
theorem dX0_reachByEntering_51 : decode cX0_reachByEntering 51 = .ok (.if_icmp .le 39, 3) := by decide +kernel
theorem dX0_reachByEntering_54 : decode cX0_reachByEntering 54 = .ok (.aload_n 0, 1) := by decide +kernel
theorem dX0_reachByEntering_55 : decode cX0_reachByEntering 55 = .ok (.getfield 43, 3) := by decide +kernel
theorem dX0_reachByEntering_58 : decode cX0_reachByEntering 58 = .ok (.iload_n 2, 1) := by decide +kernel
theorem dX0_reachByEntering_59 : decode cX0_reachByEntering 59 = .ok (.iload 4, 2) := by decide +kernel
theorem dX0_reachByEntering_61 : decode cX0_reachByEntering 61 = .ok (.iadd, 1) := by decide +kernel
theorem dX0_reachByEntering_62 : decode cX0_reachByEntering 62 = .ok (.iaload, 1) := by decide +kernel
theorem dX0_reachByEntering_63 : decode cX0_reachByEntering 63 = .ok (.aload_n 0, 1) := by decide +kernel
theorem dX0_reachByEntering_64 : decode cX0_reachByEntering 64 = .ok (.getfield 22, 3) := by decide +kernel
theorem dX0_reachByEntering_67 : decode cX0_reachByEntering 67 = .ok (.iload_n 1, 1) := by decide +kernel
theorem dX0_reachByEntering_68 : decode cX0_reachByEntering 68 = .ok (.iaload, 1) := by decide +kernel
theorem dX0_reachByEntering_69 : decode cX0_reachByEntering 69 = .ok (.if_icmp .ge 15, 3) := by decide +kernel
theorem dX0_reachByEntering_72 : decode cX0_reachByEntering 72 = .ok (.aload_n 0, 1) := by decide +kernel
theorem dX0_reachByEntering_73 : decode cX0_reachByEntering 73 = .ok (.iload_n 3, 1) := by decide +kernel
theorem dX0_reachByEntering_74 : decode cX0_reachByEntering 74 = .ok (.iload 4, 2) := by decide +kernel
theorem dX0_reachByEntering_76 : decode cX0_reachByEntering 76 = .ok (.iload_n 1, 1) := by decide +kernel
theorem dX0_reachByEntering_77 : decode cX0_reachByEntering 77 = .ok (.iconst 1, 1) := by decide +kernel
theorem dX0_reachByEntering_78 : decode cX0_reachByEntering 78 = .ok (.iadd, 1) := by decide +kernel
theorem dX0_reachByEntering_79 : decode cX0_reachByEntering 79 = .ok (.invokevirtual 131, 3) := by decide +kernel
theorem dX0_reachByEntering_82 : decode cX0_reachByEntering 82 = .ok (.iconst 1, 1) := by decide +kernel
theorem dX0_reachByEntering_83 : decode cX0_reachByEntering 83 = .ok (.ireturn, 1) := by decide +kernel
theorem dX0_reachByEntering_84 : decode cX0_reachByEntering 84 = .ok (.iinc 4 (-1), 3) := by decide +kernel
theorem dX0_reachByEntering_87 : decode cX0_reachByEntering 87 = .ok (.goto (-44), 3) := by decide +kernel
theorem dX0_reachByEntering_90 : decode cX0_reachByEntering 90 = .ok (.iconst 0, 1) := by decide +kernel
theorem dX0_reachByEntering_91 : decode cX0_reachByEntering 91 = .ok (.ireturn, 1) := by decide +kernel
theorem dX0_reachByTakingBack_0 : decode cX0_reachByTakingBack 0 = .ok (.iload_n 1, 1) := by decide +kernel
theorem dX0_reachByTakingBack_1 : decode cX0_reachByTakingBack 1 = .ok (.bipush 61, 2) := by decide +kernel
theorem dX0_reachByTakingBack_3 : decode cX0_reachByTakingBack 3 = .ok (.imul, 1) := by decide +kernel
theorem dX0_reachByTakingBack_4 : decode cX0_reachByTakingBack 4 = .ok (.istore_n 3, 1) := by decide +kernel
theorem dX0_reachByTakingBack_5 : decode cX0_reachByTakingBack 5 = .ok (.aload_n 0, 1) := by decide +kernel
theorem dX0_reachByTakingBack_6 : decode cX0_reachByTakingBack 6 = .ok (.getfield 19, 3) := by decide +kernel
theorem dX0_reachByTakingBack_9 : decode cX0_reachByTakingBack 9 = .ok (.iload_n 1, 1) := by decide +kernel
theorem dX0_reachByTakingBack_10 : decode cX0_reachByTakingBack 10 = .ok (.iaload, 1) := by decide +kernel
theorem dX0_reachByTakingBack_11 : decode cX0_reachByTakingBack 11 = .ok (.istore 4, 2) := by decide +kernel
theorem dX0_reachByTakingBack_13 : decode cX0_reachByTakingBack 13 = .ok (.aload_n 0, 1) := by decide +kernel
theorem dX0_reachByTakingBack_14 : decode cX0_reachByTakingBack 14 = .ok (.getfield 46, 3) := by decide +kernel
theorem dX0_reachByTakingBack_17 : decode cX0_reachByTakingBack 17 = .ok (.aload_n 0, 1) := by decide +kernel
theorem dX0_reachByTakingBack_18 : decode cX0_reachByTakingBack 18 = .ok (.getfield 15, 3) := by decide +kernel
theorem dX0_reachByTakingBack_21 : decode cX0_reachByTakingBack 21 = .ok (.iload_n 1, 1) := by decide +kernel
theorem dX0_reachByTakingBack_22 : decode cX0_reachByTakingBack 22 = .ok (.iaload, 1) := by decide +kernel
theorem dX0_reachByTakingBack_23 : decode cX0_reachByTakingBack 23 = .ok (.iaload, 1) := by decide +kernel
theorem dX0_reachByTakingBack_24 : decode cX0_reachByTakingBack 24 = .ok (.iload_n 2, 1) := by decide +kernel
theorem dX0_reachByTakingBack_25 : decode cX0_reachByTakingBack 25 = .ok (.aload_n 0, 1) := by decide +kernel
theorem dX0_reachByTakingBack_26 : decode cX0_reachByTakingBack 26 = .ok (.getfield 25, 3) := by decide +kernel
theorem dX0_reachByTakingBack_29 : decode cX0_reachByTakingBack 29 = .ok (.iload_n 1, 1) := by decide +kernel
theorem dX0_reachByTakingBack_30 : decode cX0_reachByTakingBack 30 = .ok (.iaload, 1) := by decide +kernel
theorem dX0_reachByTakingBack_31 : decode cX0_reachByTakingBack 31 = .ok (.isub, 1) := by decide +kernel
theorem dX0_reachByTakingBack_32 : decode cX0_reachByTakingBack 32 = .ok (.invokestatic 125, 3) := by decide +kernel
theorem dX0_reachByTakingBack_35 : decode cX0_reachByTakingBack 35 = .ok (.istore 5, 2) := by decide +kernel
theorem dX0_reachByTakingBack_37 : decode cX0_reachByTakingBack 37 = .ok (.iload 5, 2) := by decide +kernel
theorem dX0_reachByTakingBack_39 : decode cX0_reachByTakingBack 39 = .ok (.ifCond .lt 61, 3) := by decide +kernel
theorem dX0_reachByTakingBack_42 : decode cX0_reachByTakingBack 42 = .ok (.iload 5, 2) := by decide +kernel
theorem dX0_reachByTakingBack_44 : decode cX0_reachByTakingBack 44 = .ok (.aload_n 0, 1) := by decide +kernel
theorem dX0_reachByTakingBack_45 : decode cX0_reachByTakingBack 45 = .ok (.getfield 25, 3) := by decide +kernel
theorem dX0_reachByTakingBack_48 : decode cX0_reachByTakingBack 48 = .ok (.iload_n 1, 1) := by decide +kernel
theorem dX0_reachByTakingBack_49 : decode cX0_reachByTakingBack 49 = .ok (.iaload, 1) := by decide +kernel
theorem dX0_reachByTakingBack_50 : decode cX0_reachByTakingBack 50 = .ok (.iadd, 1) := by decide +kernel
theorem dX0_reachByTakingBack_51 : decode cX0_reachByTakingBack 51 = .ok (.aload_n 0, 1) := by decide +kernel
theorem dX0_reachByTakingBack_52 : decode cX0_reachByTakingBack 52 = .ok (.getfield 46, 3) := by decide +kernel
theorem dX0_reachByTakingBack_55 : decode cX0_reachByTakingBack 55 = .ok (.iload 4, 2) := by decide +kernel
theorem dX0_reachByTakingBack_57 : decode cX0_reachByTakingBack 57 = .ok (.iaload, 1) := by decide +kernel
theorem dX0_reachByTakingBack_58 : decode cX0_reachByTakingBack 58 = .ok (.if_icmp .le 42, 3) := by decide +kernel
theorem dX0_reachByTakingBack_61 : decode cX0_reachByTakingBack 61 = .ok (.aload_n 0, 1) := by decide +kernel
theorem dX0_reachByTakingBack_62 : decode cX0_reachByTakingBack 62 = .ok (.getfield 43, 3) := by decide +kernel
theorem dX0_reachByTakingBack_65 : decode cX0_reachByTakingBack 65 = .ok (.iload_n 3, 1) := by decide +kernel
theorem dX0_reachByTakingBack_66 : decode cX0_reachByTakingBack 66 = .ok (.iload 5, 2) := by decide +kernel
theorem dX0_reachByTakingBack_68 : decode cX0_reachByTakingBack 68 = .ok (.iadd, 1) := by decide +kernel
theorem dX0_reachByTakingBack_69 : decode cX0_reachByTakingBack 69 = .ok (.iaload, 1) := by decide +kernel
theorem dX0_reachByTakingBack_70 : decode cX0_reachByTakingBack 70 = .ok (.ifCond .le 24, 3) := by decide +kernel
theorem dX0_reachByTakingBack_73 : decode cX0_reachByTakingBack 73 = .ok (.aload_n 0, 1) := by decide +kernel
theorem dX0_reachByTakingBack_74 : decode cX0_reachByTakingBack 74 = .ok (.iload 4, 2) := by decide +kernel
theorem dX0_reachByTakingBack_76 : decode cX0_reachByTakingBack 76 = .ok (.iload 5, 2) := by decide +kernel
theorem dX0_reachByTakingBack_78 : decode cX0_reachByTakingBack 78 = .ok (.aload_n 0, 1) := by decide +kernel
theorem dX0_reachByTakingBack_79 : decode cX0_reachByTakingBack 79 = .ok (.getfield 25, 3) := by decide +kernel
theorem dX0_reachByTakingBack_82 : decode cX0_reachByTakingBack 82 = .ok (.iload_n 1, 1) := by decide +kernel
theorem dX0_reachByTakingBack_83 : decode cX0_reachByTakingBack 83 = .ok (.iaload, 1) := by decide +kernel
theorem dX0_reachByTakingBack_84 : decode cX0_reachByTakingBack 84 = .ok (.iadd, 1) := by decide +kernel
theorem dX0_reachByTakingBack_85 : decode cX0_reachByTakingBack 85 = .ok (.iload_n 1, 1) := by decide +kernel
theorem dX0_reachByTakingBack_86 : decode cX0_reachByTakingBack 86 = .ok (.iconst 1, 1) := by decide +kernel
theorem dX0_reachByTakingBack_87 : decode cX0_reachByTakingBack 87 = .ok (.iadd, 1) := by decide +kernel
theorem dX0_reachByTakingBack_88 : decode cX0_reachByTakingBack 88 = .ok (.ineg, 1) := by decide +kernel
theorem dX0_reachByTakingBack_89 : decode cX0_reachByTakingBack 89 = .ok (.invokevirtual 131, 3) := by decide +kernel
theorem dX0_reachByTakingBack_92 : decode cX0_reachByTakingBack 92 = .ok (.iconst 1, 1) := by decide +kernel
theorem dX0_reachByTakingBack_93 : decode cX0_reachByTakingBack 93 = .ok (.ireturn, 1) := by decide +kernel
theorem dX0_reachByTakingBack_94 : decode cX0_reachByTakingBack 94 = .ok (.iinc 5 (-1), 3) := by decide +kernel
theorem dX0_reachByTakingBack_97 : decode cX0_reachByTakingBack 97 = .ok (.goto (-60), 3) := by decide +kernel
theorem dX0_reachByTakingBack_100 : decode cX0_reachByTakingBack 100 = .ok (.iconst 0, 1) := by decide +kernel
theorem dX0_reachByTakingBack_101 : decode cX0_reachByTakingBack 101 = .ok (.ireturn, 1) := by decide +kernel
theorem dX0_reach_0 : decode cX0_reach 0 = .ok (.iload_n 1, 1) := by decide +kernel
theorem dX0_reach_1 : decode cX0_reach 1 = .ok (.bipush 61, 2) := by decide +kernel
theorem dX0_reach_3 : decode cX0_reach 3 = .ok (.imul, 1) := by decide +kernel
theorem dX0_reach_4 : decode cX0_reach 4 = .ok (.istore 4, 2) := by decide +kernel
theorem dX0_reach_6 : decode cX0_reach 6 = .ok (.aload_n 0, 1) := by decide +kernel
theorem dX0_reach_7 : decode cX0_reach 7 = .ok (.getfield 46, 3) := by decide +kernel
theorem dX0_reach_10 : decode cX0_reach 10 = .ok (.iload_n 1, 1) := by decide +kernel
theorem dX0_reach_11 : decode cX0_reach 11 = .ok (.iaload, 1) := by decide +kernel
theorem dX0_reach_12 : decode cX0_reach 12 = .ok (.iconst 1, 1) := by decide +kernel
theorem dX0_reach_13 : decode cX0_reach 13 = .ok (.iadd, 1) := by decide +kernel
theorem dX0_reach_14 : decode cX0_reach 14 = .ok (.istore 5, 2) := by decide +kernel
theorem dX0_reach_16 : decode cX0_reach 16 = .ok (.iload 5, 2) := by decide +kernel
theorem dX0_reach_18 : decode cX0_reach 18 = .ok (.iload_n 2, 1) := by decide +kernel
theorem dX0_reach_19 : decode cX0_reach 19 = .ok (.if_icmp .ge 22, 3) := by decide +kernel
theorem dX0_reach_22 : decode cX0_reach 22 = .ok (.aload_n 0, 1) := by decide +kernel
theorem dX0_reach_23 : decode cX0_reach 23 = .ok (.getfield 49, 3) := by decide +kernel
theorem dX0_reach_26 : decode cX0_reach 26 = .ok (.iload 4, 2) := by decide +kernel
theorem dX0_reach_28 : decode cX0_reach 28 = .ok (.iload 5, 2) := by decide +kernel
theorem dX0_reach_30 : decode cX0_reach 30 = .ok (.iadd, 1) := by decide +kernel
theorem dX0_reach_31 : decode cX0_reach 31 = .ok (.iload_n 1, 1) := by decide +kernel
theorem dX0_reach_32 : decode cX0_reach 32 = .ok (.iconst 1, 1) := by decide +kernel
theorem dX0_reach_33 : decode cX0_reach 33 = .ok (.iadd, 1) := by decide +kernel
theorem dX0_reach_34 : decode cX0_reach 34 = .ok (.iastore, 1) := by decide +kernel
theorem dX0_reach_35 : decode cX0_reach 35 = .ok (.iinc 5 1, 3) := by decide +kernel
theorem dX0_reach_38 : decode cX0_reach 38 = .ok (.goto (-22), 3) := by decide +kernel
theorem dX0_reach_41 : decode cX0_reach 41 = .ok (.aload_n 0, 1) := by decide +kernel
theorem dX0_reach_42 : decode cX0_reach 42 = .ok (.getfield 49, 3) := by decide +kernel
theorem dX0_reach_45 : decode cX0_reach 45 = .ok (.iload 4, 2) := by decide +kernel
theorem dX0_reach_47 : decode cX0_reach 47 = .ok (.iload_n 2, 1) := by decide +kernel
theorem dX0_reach_48 : decode cX0_reach 48 = .ok (.iadd, 1) := by decide +kernel
theorem dX0_reach_49 : decode cX0_reach 49 = .ok (.iload_n 3, 1) := by decide +kernel
theorem dX0_reach_50 : decode cX0_reach 50 = .ok (.iastore, 1) := by decide +kernel
theorem dX0_reach_51 : decode cX0_reach 51 = .ok (.aload_n 0, 1) := by decide +kernel
theorem dX0_reach_52 : decode cX0_reach 52 = .ok (.getfield 46, 3) := by decide +kernel
theorem dX0_reach_55 : decode cX0_reach 55 = .ok (.iload_n 1, 1) := by decide +kernel
theorem dX0_reach_56 : decode cX0_reach 56 = .ok (.iload_n 2, 1) := by decide +kernel
theorem dX0_reach_57 : decode cX0_reach 57 = .ok (.iastore, 1) := by decide +kernel
theorem dX0_reach_58 : decode cX0_reach 58 = .ok (.return_, 1) := by decide +kernel
theorem dX0_traceWay_0 : decode cX0_traceWay 0 = .ok (.iload_n 1, 1) := by decide +kernel
theorem dX0_traceWay_1 : decode cX0_traceWay 1 = .ok (.istore_n 2, 1) := by decide +kernel
theorem dX0_traceWay_2 : decode cX0_traceWay 2 = .ok (.iconst 0, 1) := by decide +kernel
theorem dX0_traceWay_3 : decode cX0_traceWay 3 = .ok (.istore_n 3, 1) := by decide +kernel
theorem dX0_traceWay_4 : decode cX0_traceWay 4 = .ok (.aload_n 0, 1) := by decide +kernel
theorem dX0_traceWay_5 : decode cX0_traceWay 5 = .ok (.aload_n 0, 1) := by decide +kernel
theorem dX0_traceWay_6 : decode cX0_traceWay 6 = .ok (.getfield 40, 3) := by decide +kernel
theorem dX0_traceWay_9 : decode cX0_traceWay 9 = .ok (.iload_n 1, 1) := by decide +kernel
theorem dX0_traceWay_10 : decode cX0_traceWay 10 = .ok (.iaload, 1) := by decide +kernel
theorem dX0_traceWay_11 : decode cX0_traceWay 11 = .ok (.putfield 62, 3) := by decide +kernel
theorem dX0_traceWay_14 : decode cX0_traceWay 14 = .ok (.aload_n 0, 1) := by decide +kernel
theorem dX0_traceWay_15 : decode cX0_traceWay 15 = .ok (.iconst 0, 1) := by decide +kernel
theorem dX0_traceWay_16 : decode cX0_traceWay 16 = .ok (.putfield 59, 3) := by decide +kernel
theorem dX0_traceWay_19 : decode cX0_traceWay 19 = .ok (.aload_n 0, 1) := by decide +kernel
theorem dX0_traceWay_20 : decode cX0_traceWay 20 = .ok (.getfield 59, 3) := by decide +kernel
theorem dX0_traceWay_23 : decode cX0_traceWay 23 = .ok (.sipush 366, 3) := by decide +kernel
theorem dX0_traceWay_26 : decode cX0_traceWay 26 = .ok (.if_icmp .ge 245, 3) := by decide +kernel
theorem dX0_traceWay_29 : decode cX0_traceWay 29 = .ok (.aload_n 0, 1) := by decide +kernel
theorem dX0_traceWay_30 : decode cX0_traceWay 30 = .ok (.getfield 31, 3) := by decide +kernel
theorem dX0_traceWay_33 : decode cX0_traceWay 33 = .ok (.iload_n 2, 1) := by decide +kernel
theorem dX0_traceWay_34 : decode cX0_traceWay 34 = .ok (.invokestatic 86, 3) := by decide +kernel
theorem dX0_traceWay_37 : decode cX0_traceWay 37 = .ok (.ifCond .ne 234, 3) := by decide +kernel
theorem dX0_traceWay_40 : decode cX0_traceWay 40 = .ok (.aload_n 0, 1) := by decide +kernel
theorem dX0_traceWay_41 : decode cX0_traceWay 41 = .ok (.getfield 49, 3) := by decide +kernel
theorem dX0_traceWay_44 : decode cX0_traceWay 44 = .ok (.iload_n 2, 1) := by decide +kernel
theorem dX0_traceWay_45 : decode cX0_traceWay 45 = .ok (.bipush 61, 2) := by decide +kernel
theorem dX0_traceWay_47 : decode cX0_traceWay 47 = .ok (.imul, 1) := by decide +kernel
theorem dX0_traceWay_48 : decode cX0_traceWay 48 = .ok (.iload_n 3, 1) := by decide +kernel
theorem dX0_traceWay_49 : decode cX0_traceWay 49 = .ok (.iadd, 1) := by decide +kernel
theorem dX0_traceWay_50 : decode cX0_traceWay 50 = .ok (.iaload, 1) := by decide +kernel
theorem dX0_traceWay_51 : decode cX0_traceWay 51 = .ok (.istore 4, 2) := by decide +kernel
theorem dX0_traceWay_53 : decode cX0_traceWay 53 = .ok (.iload 4, 2) := by decide +kernel
theorem dX0_traceWay_55 : decode cX0_traceWay 55 = .ok (.ifCond .le 7, 3) := by decide +kernel
theorem dX0_traceWay_58 : decode cX0_traceWay 58 = .ok (.iconst 1, 1) := by decide +kernel
theorem dX0_traceWay_59 : decode cX0_traceWay 59 = .ok (.goto 4, 3) := by decide +kernel
theorem dX0_traceWay_62 : decode cX0_traceWay 62 = .ok (.iconst 0, 1) := by decide +kernel
theorem dX0_traceWay_63 : decode cX0_traceWay 63 = .ok (.istore 5, 2) := by decide +kernel
theorem dX0_traceWay_65 : decode cX0_traceWay 65 = .ok (.iload 4, 2) := by decide +kernel
theorem dX0_traceWay_67 : decode cX0_traceWay 67 = .ok (.invokestatic 135, 3) := by decide +kernel
theorem dX0_traceWay_70 : decode cX0_traceWay 70 = .ok (.iconst 1, 1) := by decide +kernel
theorem dX0_traceWay_71 : decode cX0_traceWay 71 = .ok (.isub, 1) := by decide +kernel
theorem dX0_traceWay_72 : decode cX0_traceWay 72 = .ok (.istore 6, 2) := by decide +kernel
theorem dX0_traceWay_74 : decode cX0_traceWay 74 = .ok (.iload 6, 2) := by decide +kernel
theorem dX0_traceWay_76 : decode cX0_traceWay 76 = .ok (.iconst 0, 1) := by decide +kernel
theorem dX0_traceWay_77 : decode cX0_traceWay 77 = .ok (.aload_n 0, 1) := by decide +kernel
theorem dX0_traceWay_78 : decode cX0_traceWay 78 = .ok (.getfield 11, 3) := by decide +kernel
theorem dX0_traceWay_81 : decode cX0_traceWay 81 = .ok (.iconst 1, 1) := by decide +kernel
theorem dX0_traceWay_82 : decode cX0_traceWay 82 = .ok (.isub, 1) := by decide +kernel
theorem dX0_traceWay_83 : decode cX0_traceWay 83 = .ok (.invokestatic 138, 3) := by decide +kernel
theorem dX0_traceWay_86 : decode cX0_traceWay 86 = .ok (.ifCond .ne 9, 3) := by decide +kernel
theorem dX0_traceWay_89 : decode cX0_traceWay 89 = .ok (.aload_n 0, 1) := by decide +kernel
theorem dX0_traceWay_90 : decode cX0_traceWay 90 = .ok (.iconst 0, 1) := by decide +kernel
theorem dX0_traceWay_91 : decode cX0_traceWay 91 = .ok (.putfield 62, 3) := by decide +kernel
theorem dX0_traceWay_94 : decode cX0_traceWay 94 = .ok (.return_, 1) := by decide +kernel
theorem dX0_traceWay_95 : decode cX0_traceWay 95 = .ok (.iload 5, 2) := by decide +kernel
theorem dX0_traceWay_97 : decode cX0_traceWay 97 = .ok (.ifCond .eq 7, 3) := by decide +kernel
theorem dX0_traceWay_100 : decode cX0_traceWay 100 = .ok (.iload_n 3, 1) := by decide +kernel
theorem dX0_traceWay_101 : decode cX0_traceWay 101 = .ok (.goto 12, 3) := by decide +kernel
theorem dX0_traceWay_104 : decode cX0_traceWay 104 = .ok (.iload_n 3, 1) := by decide +kernel
theorem dX0_traceWay_105 : decode cX0_traceWay 105 = .ok (.aload_n 0, 1) := by decide +kernel
theorem dX0_traceWay_106 : decode cX0_traceWay 106 = .ok (.getfield 25, 3) := by decide +kernel
theorem dX0_traceWay_109 : decode cX0_traceWay 109 = .ok (.iload 6, 2) := by decide +kernel
theorem dX0_traceWay_111 : decode cX0_traceWay 111 = .ok (.iaload, 1) := by decide +kernel
theorem dX0_traceWay_112 : decode cX0_traceWay 112 = .ok (.isub, 1) := by decide +kernel
theorem dX0_traceWay_113 : decode cX0_traceWay 113 = .ok (.istore 7, 2) := by decide +kernel
theorem dX0_traceWay_115 : decode cX0_traceWay 115 = .ok (.iload 5, 2) := by decide +kernel
theorem dX0_traceWay_117 : decode cX0_traceWay 117 = .ok (.ifCond .eq 15, 3) := by decide +kernel
theorem dX0_traceWay_120 : decode cX0_traceWay 120 = .ok (.iload_n 3, 1) := by decide +kernel
theorem dX0_traceWay_121 : decode cX0_traceWay 121 = .ok (.aload_n 0, 1) := by decide +kernel
theorem dX0_traceWay_122 : decode cX0_traceWay 122 = .ok (.getfield 25, 3) := by decide +kernel
theorem dX0_traceWay_125 : decode cX0_traceWay 125 = .ok (.iload 6, 2) := by decide +kernel
theorem dX0_traceWay_127 : decode cX0_traceWay 127 = .ok (.iaload, 1) := by decide +kernel
theorem dX0_traceWay_128 : decode cX0_traceWay 128 = .ok (.iadd, 1) := by decide +kernel
theorem dX0_traceWay_129 : decode cX0_traceWay 129 = .ok (.goto 5, 3) := by decide +kernel
theorem dX0_traceWay_132 : decode cX0_traceWay 132 = .ok (.iload 7, 2) := by decide +kernel
theorem dX0_traceWay_134 : decode cX0_traceWay 134 = .ok (.istore_n 3, 1) := by decide +kernel
theorem dX0_traceWay_135 : decode cX0_traceWay 135 = .ok (.iload 7, 2) := by decide +kernel
theorem dX0_traceWay_137 : decode cX0_traceWay 137 = .ok (.iconst 0, 1) := by decide +kernel
theorem dX0_traceWay_138 : decode cX0_traceWay 138 = .ok (.bipush 60, 2) := by decide +kernel
theorem dX0_traceWay_140 : decode cX0_traceWay 140 = .ok (.invokestatic 138, 3) := by decide +kernel
theorem dX0_traceWay_143 : decode cX0_traceWay 143 = .ok (.ifCond .eq 13, 3) := by decide +kernel
theorem dX0_traceWay_146 : decode cX0_traceWay 146 = .ok (.iload_n 3, 1) := by decide +kernel
theorem dX0_traceWay_147 : decode cX0_traceWay 147 = .ok (.iconst 0, 1) := by decide +kernel
theorem dX0_traceWay_148 : decode cX0_traceWay 148 = .ok (.bipush 60, 2) := by decide +kernel
theorem dX0_traceWay_150 : decode cX0_traceWay 150 = .ok (.invokestatic 138, 3) := by decide +kernel
theorem dX0_traceWay_153 : decode cX0_traceWay 153 = .ok (.ifCond .ne 9, 3) := by decide +kernel
theorem dX0_traceWay_156 : decode cX0_traceWay 156 = .ok (.aload_n 0, 1) := by decide +kernel
theorem dX0_traceWay_157 : decode cX0_traceWay 157 = .ok (.iconst 0, 1) := by decide +kernel
theorem dX0_traceWay_158 : decode cX0_traceWay 158 = .ok (.putfield 62, 3) := by decide +kernel
theorem dX0_traceWay_161 : decode cX0_traceWay 161 = .ok (.return_, 1) := by decide +kernel
theorem dX0_traceWay_162 : decode cX0_traceWay 162 = .ok (.iload 5, 2) := by decide +kernel
theorem dX0_traceWay_164 : decode cX0_traceWay 164 = .ok (.ifCond .eq 13, 3) := by decide +kernel
theorem dX0_traceWay_167 : decode cX0_traceWay 167 = .ok (.aload_n 0, 1) := by decide +kernel
theorem dX0_traceWay_168 : decode cX0_traceWay 168 = .ok (.getfield 19, 3) := by decide +kernel
theorem dX0_traceWay_171 : decode cX0_traceWay 171 = .ok (.iload 6, 2) := by decide +kernel
theorem dX0_traceWay_173 : decode cX0_traceWay 173 = .ok (.iaload, 1) := by decide +kernel
theorem dX0_traceWay_174 : decode cX0_traceWay 174 = .ok (.goto 10, 3) := by decide +kernel
theorem dX0_traceWay_177 : decode cX0_traceWay 177 = .ok (.aload_n 0, 1) := by decide +kernel
theorem dX0_traceWay_178 : decode cX0_traceWay 178 = .ok (.getfield 15, 3) := by decide +kernel
theorem dX0_traceWay_181 : decode cX0_traceWay 181 = .ok (.iload 6, 2) := by decide +kernel
theorem dX0_traceWay_183 : decode cX0_traceWay 183 = .ok (.iaload, 1) := by decide +kernel
theorem dX0_traceWay_184 : decode cX0_traceWay 184 = .ok (.istore_n 2, 1) := by decide +kernel
theorem dX0_traceWay_185 : decode cX0_traceWay 185 = .ok (.iload 6, 2) := by decide +kernel
theorem dX0_traceWay_187 : decode cX0_traceWay 187 = .ok (.bipush 61, 2) := by decide +kernel
theorem dX0_traceWay_189 : decode cX0_traceWay 189 = .ok (.imul, 1) := by decide +kernel
theorem dX0_traceWay_190 : decode cX0_traceWay 190 = .ok (.iload 7, 2) := by decide +kernel
theorem dX0_traceWay_192 : decode cX0_traceWay 192 = .ok (.iadd, 1) := by decide +kernel
theorem dX0_traceWay_193 : decode cX0_traceWay 193 = .ok (.istore 8, 2) := by decide +kernel
theorem dX0_traceWay_195 : decode cX0_traceWay 195 = .ok (.aload_n 0, 1) := by decide +kernel
theorem dX0_traceWay_196 : decode cX0_traceWay 196 = .ok (.aload_n 0, 1) := by decide +kernel
theorem dX0_traceWay_197 : decode cX0_traceWay 197 = .ok (.getfield 62, 3) := by decide +kernel
theorem dX0_traceWay_200 : decode cX0_traceWay 200 = .ok (.iload 5, 2) := by decide +kernel
theorem dX0_traceWay_202 : decode cX0_traceWay 202 = .ok (.ifCond .eq 21, 3) := by decide +kernel
theorem dX0_traceWay_205 : decode cX0_traceWay 205 = .ok (.aload_n 0, 1) := by decide +kernel
theorem dX0_traceWay_206 : decode cX0_traceWay 206 = .ok (.getfield 22, 3) := by decide +kernel
theorem dX0_traceWay_209 : decode cX0_traceWay 209 = .ok (.iload 6, 2) := by decide +kernel
theorem dX0_traceWay_211 : decode cX0_traceWay 211 = .ok (.iaload, 1) := by decide +kernel
theorem dX0_traceWay_212 : decode cX0_traceWay 212 = .ok (.aload_n 0, 1) := by decide +kernel
theorem dX0_traceWay_213 : decode cX0_traceWay 213 = .ok (.getfield 43, 3) := by decide +kernel
theorem dX0_traceWay_216 : decode cX0_traceWay 216 = .ok (.iload 8, 2) := by decide +kernel
theorem dX0_traceWay_218 : decode cX0_traceWay 218 = .ok (.iaload, 1) := by decide +kernel
theorem dX0_traceWay_219 : decode cX0_traceWay 219 = .ok (.isub, 1) := by decide +kernel
theorem dX0_traceWay_220 : decode cX0_traceWay 220 = .ok (.goto 10, 3) := by decide +kernel
theorem dX0_traceWay_223 : decode cX0_traceWay 223 = .ok (.aload_n 0, 1) := by decide +kernel
theorem dX0_traceWay_224 : decode cX0_traceWay 224 = .ok (.getfield 43, 3) := by decide +kernel
theorem dX0_traceWay_227 : decode cX0_traceWay 227 = .ok (.iload 8, 2) := by decide +kernel
theorem dX0_traceWay_229 : decode cX0_traceWay 229 = .ok (.iaload, 1) := by decide +kernel
theorem dX0_traceWay_230 : decode cX0_traceWay 230 = .ok (.invokestatic 125, 3) := by decide +kernel
theorem dX0_traceWay_233 : decode cX0_traceWay 233 = .ok (.putfield 62, 3) := by decide +kernel
theorem dX0_traceWay_236 : decode cX0_traceWay 236 = .ok (.aload_n 0, 1) := by decide +kernel
theorem dX0_traceWay_237 : decode cX0_traceWay 237 = .ok (.getfield 52, 3) := by decide +kernel
theorem dX0_traceWay_240 : decode cX0_traceWay 240 = .ok (.aload_n 0, 1) := by decide +kernel
theorem dX0_traceWay_241 : decode cX0_traceWay 241 = .ok (.getfield 59, 3) := by decide +kernel
theorem dX0_traceWay_244 : decode cX0_traceWay 244 = .ok (.iload 8, 2) := by decide +kernel
theorem dX0_traceWay_246 : decode cX0_traceWay 246 = .ok (.iastore, 1) := by decide +kernel
theorem dX0_traceWay_247 : decode cX0_traceWay 247 = .ok (.aload_n 0, 1) := by decide +kernel
theorem dX0_traceWay_248 : decode cX0_traceWay 248 = .ok (.getfield 55, 3) := by decide +kernel
theorem dX0_traceWay_251 : decode cX0_traceWay 251 = .ok (.aload_n 0, 1) := by decide +kernel
theorem dX0_traceWay_252 : decode cX0_traceWay 252 = .ok (.getfield 59, 3) := by decide +kernel
theorem dX0_traceWay_255 : decode cX0_traceWay 255 = .ok (.iload 5, 2) := by decide +kernel
theorem dX0_traceWay_257 : decode cX0_traceWay 257 = .ok (.bastore, 1) := by decide +kernel
theorem dX0_traceWay_258 : decode cX0_traceWay 258 = .ok (.aload_n 0, 1) := by decide +kernel
theorem dX0_traceWay_259 : decode cX0_traceWay 259 = .ok (.dup, 1) := by decide +kernel
theorem dX0_traceWay_260 : decode cX0_traceWay 260 = .ok (.getfield 59, 3) := by decide +kernel
theorem dX0_traceWay_263 : decode cX0_traceWay 263 = .ok (.iconst 1, 1) := by decide +kernel
theorem dX0_traceWay_264 : decode cX0_traceWay 264 = .ok (.iadd, 1) := by decide +kernel
theorem dX0_traceWay_265 : decode cX0_traceWay 265 = .ok (.putfield 59, 3) := by decide +kernel
theorem dX0_traceWay_268 : decode cX0_traceWay 268 = .ok (.goto (-249), 3) := by decide +kernel
theorem dX0_traceWay_271 : decode cX0_traceWay 271 = .ok (.return_, 1) := by decide +kernel
theorem dX0_leadAlongWay_0 : decode cX0_leadAlongWay 0 = .ok (.iconst 0, 1) := by decide +kernel
theorem dX0_leadAlongWay_1 : decode cX0_leadAlongWay 1 = .ok (.istore_n 2, 1) := by decide +kernel
theorem dX0_leadAlongWay_2 : decode cX0_leadAlongWay 2 = .ok (.iload_n 2, 1) := by decide +kernel
theorem dX0_leadAlongWay_3 : decode cX0_leadAlongWay 3 = .ok (.aload_n 0, 1) := by decide +kernel
theorem dX0_leadAlongWay_4 : decode cX0_leadAlongWay 4 = .ok (.getfield 59, 3) := by decide +kernel
theorem dX0_leadAlongWay_7 : decode cX0_leadAlongWay 7 = .ok (.if_icmp .ge 44, 3) := by decide +kernel
theorem dX0_leadAlongWay_10 : decode cX0_leadAlongWay 10 = .ok (.aload_n 0, 1) := by decide +kernel
theorem dX0_leadAlongWay_11 : decode cX0_leadAlongWay 11 = .ok (.getfield 43, 3) := by decide +kernel
theorem dX0_leadAlongWay_14 : decode cX0_leadAlongWay 14 = .ok (.aload_n 0, 1) := by decide +kernel
theorem dX0_leadAlongWay_15 : decode cX0_leadAlongWay 15 = .ok (.getfield 52, 3) := by decide +kernel
theorem dX0_leadAlongWay_18 : decode cX0_leadAlongWay 18 = .ok (.iload_n 2, 1) := by decide +kernel
theorem dX0_leadAlongWay_19 : decode cX0_leadAlongWay 19 = .ok (.iaload, 1) := by decide +kernel
theorem dX0_leadAlongWay_20 : decode cX0_leadAlongWay 20 = .ok (.dup2, 1) := by decide +kernel
theorem dX0_leadAlongWay_21 : decode cX0_leadAlongWay 21 = .ok (.iaload, 1) := by decide +kernel
theorem dX0_leadAlongWay_22 : decode cX0_leadAlongWay 22 = .ok (.aload_n 0, 1) := by decide +kernel
theorem dX0_leadAlongWay_23 : decode cX0_leadAlongWay 23 = .ok (.getfield 55, 3) := by decide +kernel
theorem dX0_leadAlongWay_26 : decode cX0_leadAlongWay 26 = .ok (.iload_n 2, 1) := by decide +kernel
theorem dX0_leadAlongWay_27 : decode cX0_leadAlongWay 27 = .ok (.baload, 1) := by decide +kernel
theorem dX0_leadAlongWay_28 : decode cX0_leadAlongWay 28 = .ok (.ifCond .eq 10, 3) := by decide +kernel
theorem dX0_leadAlongWay_31 : decode cX0_leadAlongWay 31 = .ok (.aload_n 0, 1) := by decide +kernel
theorem dX0_leadAlongWay_32 : decode cX0_leadAlongWay 32 = .ok (.getfield 62, 3) := by decide +kernel
theorem dX0_leadAlongWay_35 : decode cX0_leadAlongWay 35 = .ok (.goto 8, 3) := by decide +kernel
theorem dX0_leadAlongWay_38 : decode cX0_leadAlongWay 38 = .ok (.aload_n 0, 1) := by decide +kernel
theorem dX0_leadAlongWay_39 : decode cX0_leadAlongWay 39 = .ok (.getfield 62, 3) := by decide +kernel
theorem dX0_leadAlongWay_42 : decode cX0_leadAlongWay 42 = .ok (.ineg, 1) := by decide +kernel
theorem dX0_leadAlongWay_43 : decode cX0_leadAlongWay 43 = .ok (.iadd, 1) := by decide +kernel
theorem dX0_leadAlongWay_44 : decode cX0_leadAlongWay 44 = .ok (.iastore, 1) := by decide +kernel
theorem dX0_leadAlongWay_45 : decode cX0_leadAlongWay 45 = .ok (.iinc 2 1, 3) := by decide +kernel
theorem dX0_leadAlongWay_48 : decode cX0_leadAlongWay 48 = .ok (.goto (-46), 3) := by decide +kernel
theorem dX0_leadAlongWay_51 : decode cX0_leadAlongWay 51 = .ok (.aload_n 0, 1) := by decide +kernel
theorem dX0_leadAlongWay_52 : decode cX0_leadAlongWay 52 = .ok (.getfield 40, 3) := by decide +kernel
theorem dX0_leadAlongWay_55 : decode cX0_leadAlongWay 55 = .ok (.iload_n 1, 1) := by decide +kernel
theorem dX0_leadAlongWay_56 : decode cX0_leadAlongWay 56 = .ok (.dup2, 1) := by decide +kernel
theorem dX0_leadAlongWay_57 : decode cX0_leadAlongWay 57 = .ok (.iaload, 1) := by decide +kernel
theorem dX0_leadAlongWay_58 : decode cX0_leadAlongWay 58 = .ok (.aload_n 0, 1) := by decide +kernel
theorem dX0_leadAlongWay_59 : decode cX0_leadAlongWay 59 = .ok (.getfield 62, 3) := by decide +kernel
theorem dX0_leadAlongWay_62 : decode cX0_leadAlongWay 62 = .ok (.isub, 1) := by decide +kernel
theorem dX0_leadAlongWay_63 : decode cX0_leadAlongWay 63 = .ok (.iastore, 1) := by decide +kernel
theorem dX0_leadAlongWay_64 : decode cX0_leadAlongWay 64 = .ok (.aload_n 0, 1) := by decide +kernel
theorem dX0_leadAlongWay_65 : decode cX0_leadAlongWay 65 = .ok (.dup, 1) := by decide +kernel
theorem dX0_leadAlongWay_66 : decode cX0_leadAlongWay 66 = .ok (.getfield 37, 3) := by decide +kernel
theorem dX0_leadAlongWay_69 : decode cX0_leadAlongWay 69 = .ok (.aload_n 0, 1) := by decide +kernel
theorem dX0_leadAlongWay_70 : decode cX0_leadAlongWay 70 = .ok (.getfield 62, 3) := by decide +kernel
theorem dX0_leadAlongWay_73 : decode cX0_leadAlongWay 73 = .ok (.iadd, 1) := by decide +kernel
theorem dX0_leadAlongWay_74 : decode cX0_leadAlongWay 74 = .ok (.putfield 37, 3) := by decide +kernel
theorem dX0_leadAlongWay_77 : decode cX0_leadAlongWay 77 = .ok (.return_, 1) := by decide +kernel
theorem dX1_init_0 : decode cX1_init 0 = .ok (.aload_n 0, 1) := by decide +kernel
theorem dX1_init_1 : decode cX1_init 1 = .ok (.invokespecial 3, 3) := by decide +kernel
theorem dX1_init_4 : decode cX1_init 4 = .ok (.aload_n 0, 1) := by decide +kernel
theorem dX1_init_5 : decode cX1_init 5 = .ok (.bipush 40, 2) := by decide +kernel
theorem dX1_init_7 : decode cX1_init 7 = .ok (.newarray .int, 2) := by decide +kernel
theorem dX1_init_9 : decode cX1_init 9 = .ok (.putfield 9, 3) := by decide +kernel
theorem dX1_init_12 : decode cX1_init 12 = .ok (.aload_n 0, 1) := by decide +kernel
theorem dX1_init_13 : decode cX1_init 13 = .ok (.iconst 0, 1) := by decide +kernel
theorem dX1_init_14 : decode cX1_init 14 = .ok (.putfield 15, 3) := by decide +kernel
theorem dX1_init_17 : decode cX1_init 17 = .ok (.return_, 1) := by decide +kernel
theorem dX1_add_0 : decode cX1_add 0 = .ok (.aload_n 0, 1) := by decide +kernel
theorem dX1_add_1 : decode cX1_add 1 = .ok (.getfield 15, 3) := by decide +kernel
theorem dX1_add_4 : decode cX1_add 4 = .ok (.bipush 40, 2) := by decide +kernel
theorem dX1_add_6 : decode cX1_add 6 = .ok (.if_icmp .ge 23, 3) := by decide +kernel
theorem dX1_add_9 : decode cX1_add 9 = .ok (.aload_n 0, 1) := by decide +kernel
theorem dX1_add_10 : decode cX1_add 10 = .ok (.getfield 9, 3) := by decide +kernel
theorem dX1_add_13 : decode cX1_add 13 = .ok (.aload_n 0, 1) := by decide +kernel
theorem dX1_add_14 : decode cX1_add 14 = .ok (.getfield 15, 3) := by decide +kernel
theorem dX1_add_17 : decode cX1_add 17 = .ok (.iload_n 1, 1) := by decide +kernel
theorem dX1_add_18 : decode cX1_add 18 = .ok (.iastore, 1) := by decide +kernel
theorem dX1_add_19 : decode cX1_add 19 = .ok (.aload_n 0, 1) := by decide +kernel
theorem dX1_add_20 : decode cX1_add 20 = .ok (.dup, 1) := by decide +kernel
theorem dX1_add_21 : decode cX1_add 21 = .ok (.getfield 15, 3) := by decide +kernel
theorem dX1_add_24 : decode cX1_add 24 = .ok (.iconst 1, 1) := by decide +kernel
theorem dX1_add_25 : decode cX1_add 25 = .ok (.iadd, 1) := by decide +kernel
theorem dX1_add_26 : decode cX1_add 26 = .ok (.putfield 15, 3) := by decide +kernel
theorem dX1_add_29 : decode cX1_add 29 = .ok (.return_, 1) := by decide +kernel
theorem dX1_faultPlace_0 : decode cX1_faultPlace 0 = .ok (.iconst 0, 1) := by decide +kernel
theorem dX1_faultPlace_1 : decode cX1_faultPlace 1 = .ok (.istore_n 1, 1) := by decide +kernel
theorem dX1_faultPlace_2 : decode cX1_faultPlace 2 = .ok (.iload_n 1, 1) := by decide +kernel
theorem dX1_faultPlace_3 : decode cX1_faultPlace 3 = .ok (.aload_n 0, 1) := by decide +kernel
theorem dX1_faultPlace_4 : decode cX1_faultPlace 4 = .ok (.getfield 15, 3) := by decide +kernel
theorem dX1_faultPlace_7 : decode cX1_faultPlace 7 = .ok (.if_icmp .ge 19, 3) := by decide +kernel
theorem dX1_faultPlace_10 : decode cX1_faultPlace 10 = .ok (.aload_n 0, 1) := by decide +kernel
theorem dX1_faultPlace_11 : decode cX1_faultPlace 11 = .ok (.iload_n 1, 1) := by decide +kernel
theorem dX1_faultPlace_12 : decode cX1_faultPlace 12 = .ok (.invokevirtual 19, 3) := by decide +kernel
theorem dX1_faultPlace_15 : decode cX1_faultPlace 15 = .ok (.ifCond .ne 5, 3) := by decide +kernel
theorem dX1_faultPlace_18 : decode cX1_faultPlace 18 = .ok (.iload_n 1, 1) := by decide +kernel
theorem dX1_faultPlace_19 : decode cX1_faultPlace 19 = .ok (.ireturn, 1) := by decide +kernel
theorem dX1_faultPlace_20 : decode cX1_faultPlace 20 = .ok (.iinc 1 1, 3) := by decide +kernel
theorem dX1_faultPlace_23 : decode cX1_faultPlace 23 = .ok (.goto (-21), 3) := by decide +kernel
theorem dX1_faultPlace_26 : decode cX1_faultPlace 26 = .ok (.aload_n 0, 1) := by decide +kernel
theorem dX1_faultPlace_27 : decode cX1_faultPlace 27 = .ok (.getfield 15, 3) := by decide +kernel
theorem dX1_faultPlace_30 : decode cX1_faultPlace 30 = .ok (.iconst 4, 1) := by decide +kernel
theorem dX1_faultPlace_31 : decode cX1_faultPlace 31 = .ok (.irem, 1) := by decide +kernel
theorem dX1_faultPlace_32 : decode cX1_faultPlace 32 = .ok (.ifCond .ne 8, 3) := by decide +kernel
theorem dX1_faultPlace_35 : decode cX1_faultPlace 35 = .ok (.bipush (-6), 2) := by decide +kernel
theorem dX1_faultPlace_37 : decode cX1_faultPlace 37 = .ok (.goto 7, 3) := by decide +kernel
theorem dX1_faultPlace_40 : decode cX1_faultPlace 40 = .ok (.aload_n 0, 1) := by decide +kernel
theorem dX1_faultPlace_41 : decode cX1_faultPlace 41 = .ok (.getfield 15, 3) := by decide +kernel
theorem dX1_faultPlace_44 : decode cX1_faultPlace 44 = .ok (.ireturn, 1) := by decide +kernel
theorem dX1_canStand_0 : decode cX1_canStand 0 = .ok (.aload_n 0, 1) := by decide +kernel
theorem dX1_canStand_1 : decode cX1_canStand 1 = .ok (.getfield 9, 3) := by decide +kernel
theorem dX1_canStand_4 : decode cX1_canStand 4 = .ok (.iload_n 1, 1) := by decide +kernel
theorem dX1_canStand_5 : decode cX1_canStand 5 = .ok (.iaload, 1) := by decide +kernel
theorem dX1_canStand_6 : decode cX1_canStand 6 = .ok (.istore_n 2, 1) := by decide +kernel
theorem dX1_canStand_7 : decode cX1_canStand 7 = .ok (.iload_n 1, 1) := by decide +kernel
theorem dX1_canStand_8 : decode cX1_canStand 8 = .ok (.iconst 4, 1) := by decide +kernel
theorem dX1_canStand_9 : decode cX1_canStand 9 = .ok (.irem, 1) := by decide +kernel
theorem dX1_canStand_10 : decode cX1_canStand 10 = .ok (.tableswitch 73 0 2 #[26, 34, 62], 26) := by decide +kernel
theorem dX1_canStand_36 : decode cX1_canStand 36 = .ok (.iload_n 2, 1) := by decide +kernel
theorem dX1_canStand_37 : decode cX1_canStand 37 = .ok (.bipush 97, 2) := by decide +kernel
theorem dX1_canStand_39 : decode cX1_canStand 39 = .ok (.isub, 1) := by decide +kernel
theorem dX1_canStand_40 : decode cX1_canStand 40 = .ok (.invokestatic 23, 3) := by decide +kernel
theorem dX1_canStand_43 : decode cX1_canStand 43 = .ok (.ireturn, 1) := by decide +kernel
theorem dX1_canStand_44 : decode cX1_canStand 44 = .ok (.iload_n 2, 1) := by decide +kernel
theorem dX1_canStand_45 : decode cX1_canStand 45 = .ok (.bipush 97, 2) := by decide +kernel
theorem dX1_canStand_47 : decode cX1_canStand 47 = .ok (.isub, 1) := by decide +kernel
theorem dX1_canStand_48 : decode cX1_canStand 48 = .ok (.invokestatic 23, 3) := by decide +kernel
theorem dX1_canStand_51 : decode cX1_canStand 51 = .ok (.ifCond .eq 19, 3) := by decide +kernel
theorem dX1_canStand_54 : decode cX1_canStand 54 = .ok (.iload_n 2, 1) := by decide +kernel
theorem dX1_canStand_55 : decode cX1_canStand 55 = .ok (.aload_n 0, 1) := by decide +kernel
theorem dX1_canStand_56 : decode cX1_canStand 56 = .ok (.getfield 9, 3) := by decide +kernel
theorem dX1_canStand_59 : decode cX1_canStand 59 = .ok (.iload_n 1, 1) := by decide +kernel
theorem dX1_canStand_60 : decode cX1_canStand 60 = .ok (.iconst 1, 1) := by decide +kernel
theorem dX1_canStand_61 : decode cX1_canStand 61 = .ok (.isub, 1) := by decide +kernel
theorem dX1_canStand_62 : decode cX1_canStand 62 = .ok (.iaload, 1) := by decide +kernel
theorem dX1_canStand_63 : decode cX1_canStand 63 = .ok (.if_icmp .eq 7, 3) := by decide +kernel
theorem dX1_canStand_66 : decode cX1_canStand 66 = .ok (.iconst 1, 1) := by decide +kernel
theorem dX1_canStand_67 : decode cX1_canStand 67 = .ok (.goto 4, 3) := by decide +kernel
theorem dX1_canStand_70 : decode cX1_canStand 70 = .ok (.iconst 0, 1) := by decide +kernel
theorem dX1_canStand_71 : decode cX1_canStand 71 = .ok (.ireturn, 1) := by decide +kernel
theorem dX1_canStand_72 : decode cX1_canStand 72 = .ok (.iload_n 2, 1) := by decide +kernel
theorem dX1_canStand_73 : decode cX1_canStand 73 = .ok (.bipush 48, 2) := by decide +kernel
theorem dX1_canStand_75 : decode cX1_canStand 75 = .ok (.isub, 1) := by decide +kernel
theorem dX1_canStand_76 : decode cX1_canStand 76 = .ok (.iconst 1, 1) := by decide +kernel
theorem dX1_canStand_77 : decode cX1_canStand 77 = .ok (.bipush 6, 2) := by decide +kernel
theorem dX1_canStand_79 : decode cX1_canStand 79 = .ok (.invokestatic 26, 3) := by decide +kernel
theorem dX1_canStand_82 : decode cX1_canStand 82 = .ok (.ireturn, 1) := by decide +kernel
theorem dX1_canStand_83 : decode cX1_canStand 83 = .ok (.iload_n 2, 1) := by decide +kernel
theorem dX1_canStand_84 : decode cX1_canStand 84 = .ok (.bipush 48, 2) := by decide +kernel
theorem dX1_canStand_86 : decode cX1_canStand 86 = .ok (.isub, 1) := by decide +kernel
theorem dX1_canStand_87 : decode cX1_canStand 87 = .ok (.iconst 1, 1) := by decide +kernel
theorem dX1_canStand_88 : decode cX1_canStand 88 = .ok (.iconst 4, 1) := by decide +kernel
theorem dX1_canStand_89 : decode cX1_canStand 89 = .ok (.invokestatic 26, 3) := by decide +kernel
theorem dX1_canStand_92 : decode cX1_canStand 92 = .ok (.ireturn, 1) := by decide +kernel
theorem dX1_moveInto_0 : decode cX1_moveInto 0 = .ok (.iconst 0, 1) := by decide +kernel
theorem dX1_moveInto_1 : decode cX1_moveInto 1 = .ok (.istore_n 2, 1) := by decide +kernel
theorem dX1_moveInto_2 : decode cX1_moveInto 2 = .ok (.iload_n 2, 1) := by decide +kernel
theorem dX1_moveInto_3 : decode cX1_moveInto 3 = .ok (.iconst 3, 1) := by decide +kernel
theorem dX1_moveInto_4 : decode cX1_moveInto 4 = .ok (.iadd, 1) := by decide +kernel
theorem dX1_moveInto_5 : decode cX1_moveInto 5 = .ok (.aload_n 0, 1) := by decide +kernel
theorem dX1_moveInto_6 : decode cX1_moveInto 6 = .ok (.getfield 15, 3) := by decide +kernel
theorem dX1_moveInto_9 : decode cX1_moveInto 9 = .ok (.if_icmp .ge 55, 3) := by decide +kernel
theorem dX1_moveInto_12 : decode cX1_moveInto 12 = .ok (.aload_n 1, 1) := by decide +kernel
theorem dX1_moveInto_13 : decode cX1_moveInto 13 = .ok (.aload_n 0, 1) := by decide +kernel
theorem dX1_moveInto_14 : decode cX1_moveInto 14 = .ok (.getfield 9, 3) := by decide +kernel
theorem dX1_moveInto_17 : decode cX1_moveInto 17 = .ok (.iload_n 2, 1) := by decide +kernel
theorem dX1_moveInto_18 : decode cX1_moveInto 18 = .ok (.iaload, 1) := by decide +kernel
theorem dX1_moveInto_19 : decode cX1_moveInto 19 = .ok (.bipush 97, 2) := by decide +kernel
theorem dX1_moveInto_21 : decode cX1_moveInto 21 = .ok (.isub, 1) := by decide +kernel
theorem dX1_moveInto_22 : decode cX1_moveInto 22 = .ok (.aload_n 0, 1) := by decide +kernel
theorem dX1_moveInto_23 : decode cX1_moveInto 23 = .ok (.getfield 9, 3) := by decide +kernel
theorem dX1_moveInto_26 : decode cX1_moveInto 26 = .ok (.iload_n 2, 1) := by decide +kernel
theorem dX1_moveInto_27 : decode cX1_moveInto 27 = .ok (.iconst 1, 1) := by decide +kernel
theorem dX1_moveInto_28 : decode cX1_moveInto 28 = .ok (.iadd, 1) := by decide +kernel
theorem dX1_moveInto_29 : decode cX1_moveInto 29 = .ok (.iaload, 1) := by decide +kernel
theorem dX1_moveInto_30 : decode cX1_moveInto 30 = .ok (.bipush 97, 2) := by decide +kernel
theorem dX1_moveInto_32 : decode cX1_moveInto 32 = .ok (.isub, 1) := by decide +kernel
theorem dX1_moveInto_33 : decode cX1_moveInto 33 = .ok (.aload_n 0, 1) := by decide +kernel
theorem dX1_moveInto_34 : decode cX1_moveInto 34 = .ok (.getfield 9, 3) := by decide +kernel
theorem dX1_moveInto_37 : decode cX1_moveInto 37 = .ok (.iload_n 2, 1) := by decide +kernel
theorem dX1_moveInto_38 : decode cX1_moveInto 38 = .ok (.iconst 2, 1) := by decide +kernel
theorem dX1_moveInto_39 : decode cX1_moveInto 39 = .ok (.iadd, 1) := by decide +kernel
theorem dX1_moveInto_40 : decode cX1_moveInto 40 = .ok (.iaload, 1) := by decide +kernel
theorem dX1_moveInto_41 : decode cX1_moveInto 41 = .ok (.bipush 48, 2) := by decide +kernel
theorem dX1_moveInto_43 : decode cX1_moveInto 43 = .ok (.isub, 1) := by decide +kernel
theorem dX1_moveInto_44 : decode cX1_moveInto 44 = .ok (.aload_n 0, 1) := by decide +kernel
theorem dX1_moveInto_45 : decode cX1_moveInto 45 = .ok (.getfield 9, 3) := by decide +kernel
theorem dX1_moveInto_48 : decode cX1_moveInto 48 = .ok (.iload_n 2, 1) := by decide +kernel
theorem dX1_moveInto_49 : decode cX1_moveInto 49 = .ok (.iconst 3, 1) := by decide +kernel
theorem dX1_moveInto_50 : decode cX1_moveInto 50 = .ok (.iadd, 1) := by decide +kernel
theorem dX1_moveInto_51 : decode cX1_moveInto 51 = .ok (.iaload, 1) := by decide +kernel
theorem dX1_moveInto_52 : decode cX1_moveInto 52 = .ok (.bipush 48, 2) := by decide +kernel
theorem dX1_moveInto_54 : decode cX1_moveInto 54 = .ok (.isub, 1) := by decide +kernel
theorem dX1_moveInto_55 : decode cX1_moveInto 55 = .ok (.invokevirtual 30, 3) := by decide +kernel
theorem dX1_moveInto_58 : decode cX1_moveInto 58 = .ok (.iinc 2 4, 3) := by decide +kernel
theorem dX1_moveInto_61 : decode cX1_moveInto 61 = .ok (.goto (-59), 3) := by decide +kernel
theorem dX1_moveInto_64 : decode cX1_moveInto 64 = .ok (.aload_n 0, 1) := by decide +kernel
theorem dX1_moveInto_65 : decode cX1_moveInto 65 = .ok (.iconst 0, 1) := by decide +kernel
theorem dX1_moveInto_66 : decode cX1_moveInto 66 = .ok (.putfield 15, 3) := by decide +kernel
theorem dX1_moveInto_69 : decode cX1_moveInto 69 = .ok (.return_, 1) := by decide +kernel
theorem dX2_init_0 : decode cX2_init 0 = .ok (.aload_n 0, 1) := by decide +kernel
theorem dX2_init_1 : decode cX2_init 1 = .ok (.invokespecial 3, 3) := by decide +kernel
theorem dX2_init_4 : decode cX2_init 4 = .ok (.aload_n 0, 1) := by decide +kernel
theorem dX2_init_5 : decode cX2_init 5 = .ok (.bipush 6, 2) := by decide +kernel
theorem dX2_init_7 : decode cX2_init 7 = .ok (.newarray .int, 2) := by decide +kernel
theorem dX2_init_9 : decode cX2_init 9 = .ok (.putfield 9, 3) := by decide +kernel
theorem dX2_init_12 : decode cX2_init 12 = .ok (.aload_n 0, 1) := by decide +kernel
theorem dX2_init_13 : decode cX2_init 13 = .ok (.bipush 6, 2) := by decide +kernel
theorem dX2_init_15 : decode cX2_init 15 = .ok (.newarray .int, 2) := by decide +kernel
theorem dX2_init_17 : decode cX2_init 17 = .ok (.putfield 15, 3) := by decide +kernel
theorem dX2_init_20 : decode cX2_init 20 = .ok (.aload_n 0, 1) := by decide +kernel
theorem dX2_init_21 : decode cX2_init 21 = .ok (.iconst 0, 1) := by decide +kernel
theorem dX2_init_22 : decode cX2_init 22 = .ok (.putfield 18, 3) := by decide +kernel
theorem dX2_init_25 : decode cX2_init 25 = .ok (.aload_n 0, 1) := by decide +kernel
theorem dX2_init_26 : decode cX2_init 26 = .ok (.iconst 0, 1) := by decide +kernel
theorem dX2_init_27 : decode cX2_init 27 = .ok (.putfield 22, 3) := by decide +kernel
theorem dX2_init_30 : decode cX2_init 30 = .ok (.aload_n 0, 1) := by decide +kernel
theorem dX2_init_31 : decode cX2_init 31 = .ok (.bipush 10, 2) := by decide +kernel
theorem dX2_init_33 : decode cX2_init 33 = .ok (.newarray .int, 2) := by decide +kernel
theorem dX2_init_35 : decode cX2_init 35 = .ok (.putfield 25, 3) := by decide +kernel
theorem dX2_init_38 : decode cX2_init 38 = .ok (.aload_n 0, 1) := by decide +kernel
theorem dX2_init_39 : decode cX2_init 39 = .ok (.bipush 10, 2) := by decide +kernel
theorem dX2_init_41 : decode cX2_init 41 = .ok (.newarray .int, 2) := by decide +kernel
theorem dX2_init_43 : decode cX2_init 43 = .ok (.putfield 28, 3) := by decide +kernel
theorem dX2_init_46 : decode cX2_init 46 = .ok (.aload_n 0, 1) := by decide +kernel
theorem dX2_init_47 : decode cX2_init 47 = .ok (.bipush 10, 2) := by decide +kernel
theorem dX2_init_49 : decode cX2_init 49 = .ok (.newarray .int, 2) := by decide +kernel
theorem dX2_init_51 : decode cX2_init 51 = .ok (.putfield 31, 3) := by decide +kernel
theorem dX2_init_54 : decode cX2_init 54 = .ok (.aload_n 0, 1) := by decide +kernel
theorem dX2_init_55 : decode cX2_init 55 = .ok (.bipush 10, 2) := by decide +kernel
theorem dX2_init_57 : decode cX2_init 57 = .ok (.newarray .int, 2) := by decide +kernel
theorem dX2_init_59 : decode cX2_init 59 = .ok (.putfield 34, 3) := by decide +kernel
theorem dX2_init_62 : decode cX2_init 62 = .ok (.aload_n 0, 1) := by decide +kernel
theorem dX2_init_63 : decode cX2_init 63 = .ok (.bipush 10, 2) := by decide +kernel
theorem dX2_init_65 : decode cX2_init 65 = .ok (.newarray .int, 2) := by decide +kernel
theorem dX2_init_67 : decode cX2_init 67 = .ok (.putfield 37, 3) := by decide +kernel
theorem dX2_init_70 : decode cX2_init 70 = .ok (.aload_n 0, 1) := by decide +kernel
theorem dX2_init_71 : decode cX2_init 71 = .ok (.getfield 15, 3) := by decide +kernel
theorem dX2_init_74 : decode cX2_init 74 = .ok (.bipush 10, 2) := by decide +kernel
theorem dX2_init_76 : decode cX2_init 76 = .ok (.invokestatic 40, 3) := by decide +kernel
theorem dX2_init_79 : decode cX2_init 79 = .ok (.return_, 1) := by decide +kernel
theorem dX2_copy_0 : decode cX2_copy 0 = .ok (.aload_n 1, 1) := by decide +kernel
theorem dX2_copy_1 : decode cX2_copy 1 = .ok (.getfield 9, 3) := by decide +kernel
theorem dX2_copy_4 : decode cX2_copy 4 = .ok (.iconst 0, 1) := by decide +kernel
theorem dX2_copy_5 : decode cX2_copy 5 = .ok (.aload_n 0, 1) := by decide +kernel
theorem dX2_copy_6 : decode cX2_copy 6 = .ok (.getfield 9, 3) := by decide +kernel
theorem dX2_copy_9 : decode cX2_copy 9 = .ok (.iconst 0, 1) := by decide +kernel
theorem dX2_copy_10 : decode cX2_copy 10 = .ok (.bipush 6, 2) := by decide +kernel
theorem dX2_copy_12 : decode cX2_copy 12 = .ok (.invokestatic 46, 3) := by decide +kernel
theorem dX2_copy_15 : decode cX2_copy 15 = .ok (.aload_n 1, 1) := by decide +kernel
theorem dX2_copy_16 : decode cX2_copy 16 = .ok (.getfield 15, 3) := by decide +kernel
theorem dX2_copy_19 : decode cX2_copy 19 = .ok (.iconst 0, 1) := by decide +kernel
theorem dX2_copy_20 : decode cX2_copy 20 = .ok (.aload_n 0, 1) := by decide +kernel
theorem dX2_copy_21 : decode cX2_copy 21 = .ok (.getfield 15, 3) := by decide +kernel
theorem dX2_copy_24 : decode cX2_copy 24 = .ok (.iconst 0, 1) := by decide +kernel
theorem dX2_copy_25 : decode cX2_copy 25 = .ok (.bipush 6, 2) := by decide +kernel
theorem dX2_copy_27 : decode cX2_copy 27 = .ok (.invokestatic 46, 3) := by decide +kernel
theorem dX2_copy_30 : decode cX2_copy 30 = .ok (.aload_n 0, 1) := by decide +kernel
theorem dX2_copy_31 : decode cX2_copy 31 = .ok (.aload_n 1, 1) := by decide +kernel
theorem dX2_copy_32 : decode cX2_copy 32 = .ok (.getfield 18, 3) := by decide +kernel
theorem dX2_copy_35 : decode cX2_copy 35 = .ok (.putfield 18, 3) := by decide +kernel
theorem dX2_copy_38 : decode cX2_copy 38 = .ok (.aload_n 0, 1) := by decide +kernel
theorem dX2_copy_39 : decode cX2_copy 39 = .ok (.aload_n 1, 1) := by decide +kernel
theorem dX2_copy_40 : decode cX2_copy 40 = .ok (.getfield 22, 3) := by decide +kernel
theorem dX2_copy_43 : decode cX2_copy 43 = .ok (.putfield 22, 3) := by decide +kernel
theorem dX2_copy_46 : decode cX2_copy 46 = .ok (.aload_n 1, 1) := by decide +kernel
theorem dX2_copy_47 : decode cX2_copy 47 = .ok (.getfield 25, 3) := by decide +kernel
theorem dX2_copy_50 : decode cX2_copy 50 = .ok (.iconst 0, 1) := by decide +kernel
theorem dX2_copy_51 : decode cX2_copy 51 = .ok (.aload_n 0, 1) := by decide +kernel
theorem dX2_copy_52 : decode cX2_copy 52 = .ok (.getfield 25, 3) := by decide +kernel
theorem dX2_copy_55 : decode cX2_copy 55 = .ok (.iconst 0, 1) := by decide +kernel
theorem dX2_copy_56 : decode cX2_copy 56 = .ok (.bipush 10, 2) := by decide +kernel
theorem dX2_copy_58 : decode cX2_copy 58 = .ok (.invokestatic 46, 3) := by decide +kernel
theorem dX2_copy_61 : decode cX2_copy 61 = .ok (.aload_n 1, 1) := by decide +kernel
theorem dX2_copy_62 : decode cX2_copy 62 = .ok (.getfield 28, 3) := by decide +kernel
theorem dX2_copy_65 : decode cX2_copy 65 = .ok (.iconst 0, 1) := by decide +kernel
theorem dX2_copy_66 : decode cX2_copy 66 = .ok (.aload_n 0, 1) := by decide +kernel
theorem dX2_copy_67 : decode cX2_copy 67 = .ok (.getfield 28, 3) := by decide +kernel
theorem dX2_copy_70 : decode cX2_copy 70 = .ok (.iconst 0, 1) := by decide +kernel
theorem dX2_copy_71 : decode cX2_copy 71 = .ok (.bipush 10, 2) := by decide +kernel
theorem dX2_copy_73 : decode cX2_copy 73 = .ok (.invokestatic 46, 3) := by decide +kernel
theorem dX2_copy_76 : decode cX2_copy 76 = .ok (.aload_n 1, 1) := by decide +kernel
theorem dX2_copy_77 : decode cX2_copy 77 = .ok (.getfield 31, 3) := by decide +kernel
theorem dX2_copy_80 : decode cX2_copy 80 = .ok (.iconst 0, 1) := by decide +kernel
theorem dX2_copy_81 : decode cX2_copy 81 = .ok (.aload_n 0, 1) := by decide +kernel
theorem dX2_copy_82 : decode cX2_copy 82 = .ok (.getfield 31, 3) := by decide +kernel
theorem dX2_copy_85 : decode cX2_copy 85 = .ok (.iconst 0, 1) := by decide +kernel
theorem dX2_copy_86 : decode cX2_copy 86 = .ok (.bipush 10, 2) := by decide +kernel
theorem dX2_copy_88 : decode cX2_copy 88 = .ok (.invokestatic 46, 3) := by decide +kernel
theorem dX2_copy_91 : decode cX2_copy 91 = .ok (.aload_n 1, 1) := by decide +kernel
theorem dX2_copy_92 : decode cX2_copy 92 = .ok (.getfield 34, 3) := by decide +kernel
theorem dX2_copy_95 : decode cX2_copy 95 = .ok (.iconst 0, 1) := by decide +kernel
theorem dX2_copy_96 : decode cX2_copy 96 = .ok (.aload_n 0, 1) := by decide +kernel
theorem dX2_copy_97 : decode cX2_copy 97 = .ok (.getfield 34, 3) := by decide +kernel
theorem dX2_copy_100 : decode cX2_copy 100 = .ok (.iconst 0, 1) := by decide +kernel
theorem dX2_copy_101 : decode cX2_copy 101 = .ok (.bipush 10, 2) := by decide +kernel
theorem dX2_copy_103 : decode cX2_copy 103 = .ok (.invokestatic 46, 3) := by decide +kernel
theorem dX2_copy_106 : decode cX2_copy 106 = .ok (.aload_n 1, 1) := by decide +kernel
theorem dX2_copy_107 : decode cX2_copy 107 = .ok (.getfield 37, 3) := by decide +kernel
theorem dX2_copy_110 : decode cX2_copy 110 = .ok (.iconst 0, 1) := by decide +kernel
theorem dX2_copy_111 : decode cX2_copy 111 = .ok (.aload_n 0, 1) := by decide +kernel
theorem dX2_copy_112 : decode cX2_copy 112 = .ok (.getfield 37, 3) := by decide +kernel
theorem dX2_copy_115 : decode cX2_copy 115 = .ok (.iconst 0, 1) := by decide +kernel
theorem dX2_copy_116 : decode cX2_copy 116 = .ok (.bipush 10, 2) := by decide +kernel
theorem dX2_copy_118 : decode cX2_copy 118 = .ok (.invokestatic 46, 3) := by decide +kernel
theorem dX2_copy_121 : decode cX2_copy 121 = .ok (.return_, 1) := by decide +kernel
theorem dX2_addPassage_0 : decode cX2_addPassage 0 = .ok (.aload_n 0, 1) := by decide +kernel
theorem dX2_addPassage_1 : decode cX2_addPassage 1 = .ok (.getfield 22, 3) := by decide +kernel
theorem dX2_addPassage_4 : decode cX2_addPassage 4 = .ok (.bipush 10, 2) := by decide +kernel
theorem dX2_addPassage_6 : decode cX2_addPassage 6 = .ok (.if_icmp .lt 4, 3) := by decide +kernel
theorem dX2_addPassage_9 : decode cX2_addPassage 9 = .ok (.return_, 1) := by decide +kernel
theorem dX2_addPassage_10 : decode cX2_addPassage 10 = .ok (.aload_n 0, 1) := by decide +kernel
theorem dX2_addPassage_11 : decode cX2_addPassage 11 = .ok (.getfield 25, 3) := by decide +kernel
theorem dX2_addPassage_14 : decode cX2_addPassage 14 = .ok (.aload_n 0, 1) := by decide +kernel
theorem dX2_addPassage_15 : decode cX2_addPassage 15 = .ok (.getfield 22, 3) := by decide +kernel
theorem dX2_addPassage_18 : decode cX2_addPassage 18 = .ok (.iload_n 1, 1) := by decide +kernel
theorem dX2_addPassage_19 : decode cX2_addPassage 19 = .ok (.iastore, 1) := by decide +kernel
theorem dX2_addPassage_20 : decode cX2_addPassage 20 = .ok (.aload_n 0, 1) := by decide +kernel
theorem dX2_addPassage_21 : decode cX2_addPassage 21 = .ok (.getfield 28, 3) := by decide +kernel
theorem dX2_addPassage_24 : decode cX2_addPassage 24 = .ok (.aload_n 0, 1) := by decide +kernel
theorem dX2_addPassage_25 : decode cX2_addPassage 25 = .ok (.getfield 22, 3) := by decide +kernel
theorem dX2_addPassage_28 : decode cX2_addPassage 28 = .ok (.iload_n 2, 1) := by decide +kernel
theorem dX2_addPassage_29 : decode cX2_addPassage 29 = .ok (.iastore, 1) := by decide +kernel
theorem dX2_addPassage_30 : decode cX2_addPassage 30 = .ok (.aload_n 0, 1) := by decide +kernel
theorem dX2_addPassage_31 : decode cX2_addPassage 31 = .ok (.getfield 31, 3) := by decide +kernel
theorem dX2_addPassage_34 : decode cX2_addPassage 34 = .ok (.aload_n 0, 1) := by decide +kernel
theorem dX2_addPassage_35 : decode cX2_addPassage 35 = .ok (.getfield 22, 3) := by decide +kernel
theorem dX2_addPassage_38 : decode cX2_addPassage 38 = .ok (.iload_n 3, 1) := by decide +kernel
theorem dX2_addPassage_39 : decode cX2_addPassage 39 = .ok (.iastore, 1) := by decide +kernel
theorem dX2_addPassage_40 : decode cX2_addPassage 40 = .ok (.aload_n 0, 1) := by decide +kernel
theorem dX2_addPassage_41 : decode cX2_addPassage 41 = .ok (.getfield 34, 3) := by decide +kernel
theorem dX2_addPassage_44 : decode cX2_addPassage 44 = .ok (.aload_n 0, 1) := by decide +kernel
theorem dX2_addPassage_45 : decode cX2_addPassage 45 = .ok (.getfield 22, 3) := by decide +kernel
theorem dX2_addPassage_48 : decode cX2_addPassage 48 = .ok (.iload 4, 2) := by decide +kernel
theorem dX2_addPassage_50 : decode cX2_addPassage 50 = .ok (.iastore, 1) := by decide +kernel
theorem dX2_addPassage_51 : decode cX2_addPassage 51 = .ok (.aload_n 0, 1) := by decide +kernel
theorem dX2_addPassage_52 : decode cX2_addPassage 52 = .ok (.getfield 37, 3) := by decide +kernel
theorem dX2_addPassage_55 : decode cX2_addPassage 55 = .ok (.aload_n 0, 1) := by decide +kernel
theorem dX2_addPassage_56 : decode cX2_addPassage 56 = .ok (.getfield 22, 3) := by decide +kernel
theorem dX2_addPassage_59 : decode cX2_addPassage 59 = .ok (.sipush 1000, 3) := by decide +kernel
theorem dX2_addPassage_62 : decode cX2_addPassage 62 = .ok (.iastore, 1) := by decide +kernel
theorem dX2_addPassage_63 : decode cX2_addPassage 63 = .ok (.aload_n 0, 1) := by decide +kernel
theorem dX2_addPassage_64 : decode cX2_addPassage 64 = .ok (.dup, 1) := by decide +kernel
theorem dX2_addPassage_65 : decode cX2_addPassage 65 = .ok (.getfield 22, 3) := by decide +kernel
theorem dX2_addPassage_68 : decode cX2_addPassage 68 = .ok (.iconst 1, 1) := by decide +kernel
theorem dX2_addPassage_69 : decode cX2_addPassage 69 = .ok (.iadd, 1) := by decide +kernel
theorem dX2_addPassage_70 : decode cX2_addPassage 70 = .ok (.putfield 22, 3) := by decide +kernel
theorem dX2_addPassage_73 : decode cX2_addPassage 73 = .ok (.return_, 1) := by decide +kernel
theorem dX2_shutTickOrNone_0 : decode cX2_shutTickOrNone 0 = .ok (.aload_n 0, 1) := by decide +kernel
theorem dX2_shutTickOrNone_1 : decode cX2_shutTickOrNone 1 = .ok (.getfield 37, 3) := by decide +kernel
theorem dX2_shutTickOrNone_4 : decode cX2_shutTickOrNone 4 = .ok (.iload_n 1, 1) := by decide +kernel
theorem dX2_shutTickOrNone_5 : decode cX2_shutTickOrNone 5 = .ok (.iaload, 1) := by decide +kernel
theorem dX2_shutTickOrNone_6 : decode cX2_shutTickOrNone 6 = .ok (.sipush 1000, 3) := by decide +kernel
theorem dX2_shutTickOrNone_9 : decode cX2_shutTickOrNone 9 = .ok (.if_icmp .ne 8, 3) := by decide +kernel
theorem dX2_shutTickOrNone_12 : decode cX2_shutTickOrNone 12 = .ok (.bipush (-6), 2) := by decide +kernel
theorem dX2_shutTickOrNone_14 : decode cX2_shutTickOrNone 14 = .ok (.goto 9, 3) := by decide +kernel
theorem dX2_shutTickOrNone_17 : decode cX2_shutTickOrNone 17 = .ok (.aload_n 0, 1) := by decide +kernel
theorem dX2_shutTickOrNone_18 : decode cX2_shutTickOrNone 18 = .ok (.getfield 37, 3) := by decide +kernel
theorem dX2_shutTickOrNone_21 : decode cX2_shutTickOrNone 21 = .ok (.iload_n 1, 1) := by decide +kernel
theorem dX2_shutTickOrNone_22 : decode cX2_shutTickOrNone 22 = .ok (.iaload, 1) := by decide +kernel
theorem dX2_shutTickOrNone_23 : decode cX2_shutTickOrNone 23 = .ok (.ireturn, 1) := by decide +kernel
theorem dX2_passagesEverShut_0 : decode cX2_passagesEverShut 0 = .ok (.iconst 0, 1) := by decide +kernel
theorem dX2_passagesEverShut_1 : decode cX2_passagesEverShut 1 = .ok (.istore_n 1, 1) := by decide +kernel
theorem dX2_passagesEverShut_2 : decode cX2_passagesEverShut 2 = .ok (.iconst 0, 1) := by decide +kernel
theorem dX2_passagesEverShut_3 : decode cX2_passagesEverShut 3 = .ok (.istore_n 2, 1) := by decide +kernel
theorem dX2_passagesEverShut_4 : decode cX2_passagesEverShut 4 = .ok (.iload_n 2, 1) := by decide +kernel
theorem dX2_passagesEverShut_5 : decode cX2_passagesEverShut 5 = .ok (.aload_n 0, 1) := by decide +kernel
theorem dX2_passagesEverShut_6 : decode cX2_passagesEverShut 6 = .ok (.getfield 22, 3) := by decide +kernel
theorem dX2_passagesEverShut_9 : decode cX2_passagesEverShut 9 = .ok (.if_icmp .ge 24, 3) := by decide +kernel
theorem dX2_passagesEverShut_12 : decode cX2_passagesEverShut 12 = .ok (.aload_n 0, 1) := by decide +kernel
theorem dX2_passagesEverShut_13 : decode cX2_passagesEverShut 13 = .ok (.getfield 37, 3) := by decide +kernel
theorem dX2_passagesEverShut_16 : decode cX2_passagesEverShut 16 = .ok (.iload_n 2, 1) := by decide +kernel
theorem dX2_passagesEverShut_17 : decode cX2_passagesEverShut 17 = .ok (.iaload, 1) := by decide +kernel
theorem dX2_passagesEverShut_18 : decode cX2_passagesEverShut 18 = .ok (.sipush 1000, 3) := by decide +kernel
theorem dX2_passagesEverShut_21 : decode cX2_passagesEverShut 21 = .ok (.if_icmp .eq 6, 3) := by decide +kernel
theorem dX2_passagesEverShut_24 : decode cX2_passagesEverShut 24 = .ok (.iinc 1 1, 3) := by decide +kernel
theorem dX2_passagesEverShut_27 : decode cX2_passagesEverShut 27 = .ok (.iinc 2 1, 3) := by decide +kernel
theorem dX2_passagesEverShut_30 : decode cX2_passagesEverShut 30 = .ok (.goto (-26), 3) := by decide +kernel
theorem dX2_passagesEverShut_33 : decode cX2_passagesEverShut 33 = .ok (.iload_n 1, 1) := by decide +kernel
theorem dX2_passagesEverShut_34 : decode cX2_passagesEverShut 34 = .ok (.ireturn, 1) := by decide +kernel
theorem dX2_anyShutsAt_0 : decode cX2_anyShutsAt 0 = .ok (.iconst 0, 1) := by decide +kernel
theorem dX2_anyShutsAt_1 : decode cX2_anyShutsAt 1 = .ok (.istore_n 2, 1) := by decide +kernel
theorem dX2_anyShutsAt_2 : decode cX2_anyShutsAt 2 = .ok (.iload_n 2, 1) := by decide +kernel
theorem dX2_anyShutsAt_3 : decode cX2_anyShutsAt 3 = .ok (.aload_n 0, 1) := by decide +kernel
theorem dX2_anyShutsAt_4 : decode cX2_anyShutsAt 4 = .ok (.getfield 22, 3) := by decide +kernel
theorem dX2_anyShutsAt_7 : decode cX2_anyShutsAt 7 = .ok (.if_icmp .ge 21, 3) := by decide +kernel
theorem dX2_anyShutsAt_10 : decode cX2_anyShutsAt 10 = .ok (.aload_n 0, 1) := by decide +kernel
theorem dX2_anyShutsAt_11 : decode cX2_anyShutsAt 11 = .ok (.getfield 37, 3) := by decide +kernel
theorem dX2_anyShutsAt_14 : decode cX2_anyShutsAt 14 = .ok (.iload_n 2, 1) := by decide +kernel
theorem dX2_anyShutsAt_15 : decode cX2_anyShutsAt 15 = .ok (.iaload, 1) := by decide +kernel
theorem dX2_anyShutsAt_16 : decode cX2_anyShutsAt 16 = .ok (.iload_n 1, 1) := by decide +kernel
theorem dX2_anyShutsAt_17 : decode cX2_anyShutsAt 17 = .ok (.if_icmp .ne 5, 3) := by decide +kernel
theorem dX2_anyShutsAt_20 : decode cX2_anyShutsAt 20 = .ok (.iconst 1, 1) := by decide +kernel
theorem dX2_anyShutsAt_21 : decode cX2_anyShutsAt 21 = .ok (.ireturn, 1) := by decide +kernel
theorem dX2_anyShutsAt_22 : decode cX2_anyShutsAt 22 = .ok (.iinc 2 1, 3) := by decide +kernel
theorem dX2_anyShutsAt_25 : decode cX2_anyShutsAt 25 = .ok (.goto (-23), 3) := by decide +kernel
theorem dX2_anyShutsAt_28 : decode cX2_anyShutsAt 28 = .ok (.iconst 0, 1) := by decide +kernel
theorem dX2_anyShutsAt_29 : decode cX2_anyShutsAt 29 = .ok (.ireturn, 1) := by decide +kernel
theorem dX2_allPeople_0 : decode cX2_allPeople 0 = .ok (.iconst 0, 1) := by decide +kernel
theorem dX2_allPeople_1 : decode cX2_allPeople 1 = .ok (.istore_n 1, 1) := by decide +kernel
theorem dX2_allPeople_2 : decode cX2_allPeople 2 = .ok (.iconst 0, 1) := by decide +kernel
theorem dX2_allPeople_3 : decode cX2_allPeople 3 = .ok (.istore_n 2, 1) := by decide +kernel
theorem dX2_allPeople_4 : decode cX2_allPeople 4 = .ok (.iload_n 2, 1) := by decide +kernel
theorem dX2_allPeople_5 : decode cX2_allPeople 5 = .ok (.bipush 6, 2) := by decide +kernel
theorem dX2_allPeople_7 : decode cX2_allPeople 7 = .ok (.if_icmp .ge 18, 3) := by decide +kernel
theorem dX2_allPeople_10 : decode cX2_allPeople 10 = .ok (.iload_n 1, 1) := by decide +kernel
theorem dX2_allPeople_11 : decode cX2_allPeople 11 = .ok (.aload_n 0, 1) := by decide +kernel
theorem dX2_allPeople_12 : decode cX2_allPeople 12 = .ok (.getfield 9, 3) := by decide +kernel
theorem dX2_allPeople_15 : decode cX2_allPeople 15 = .ok (.iload_n 2, 1) := by decide +kernel
theorem dX2_allPeople_16 : decode cX2_allPeople 16 = .ok (.iaload, 1) := by decide +kernel
theorem dX2_allPeople_17 : decode cX2_allPeople 17 = .ok (.iadd, 1) := by decide +kernel
theorem dX2_allPeople_18 : decode cX2_allPeople 18 = .ok (.istore_n 1, 1) := by decide +kernel
theorem dX2_allPeople_19 : decode cX2_allPeople 19 = .ok (.iinc 2 1, 3) := by decide +kernel
theorem dX2_allPeople_22 : decode cX2_allPeople 22 = .ok (.goto (-18), 3) := by decide +kernel
theorem dX2_allPeople_25 : decode cX2_allPeople 25 = .ok (.iload_n 1, 1) := by decide +kernel
theorem dX2_allPeople_26 : decode cX2_allPeople 26 = .ok (.ireturn, 1) := by decide +kernel
theorem dX2_crowd_0 : decode cX2_crowd 0 = .ok (.aload_n 0, 1) := by decide +kernel
theorem dX2_crowd_1 : decode cX2_crowd 1 = .ok (.getfield 15, 3) := by decide +kernel
theorem dX2_crowd_4 : decode cX2_crowd 4 = .ok (.iload_n 1, 1) := by decide +kernel
theorem dX2_crowd_5 : decode cX2_crowd 5 = .ok (.iaload, 1) := by decide +kernel
theorem dX2_crowd_6 : decode cX2_crowd 6 = .ok (.ifCond .gt 5, 3) := by decide +kernel
theorem dX2_crowd_9 : decode cX2_crowd 9 = .ok (.fconst 0, 1) := by decide +kernel
theorem dX2_crowd_10 : decode cX2_crowd 10 = .ok (.freturn, 1) := by decide +kernel
theorem dX2_crowd_11 : decode cX2_crowd 11 = .ok (.aload_n 0, 1) := by decide +kernel
theorem dX2_crowd_12 : decode cX2_crowd 12 = .ok (.getfield 9, 3) := by decide +kernel
theorem dX2_crowd_15 : decode cX2_crowd 15 = .ok (.iload_n 1, 1) := by decide +kernel
theorem dX2_crowd_16 : decode cX2_crowd 16 = .ok (.iaload, 1) := by decide +kernel
theorem dX2_crowd_17 : decode cX2_crowd 17 = .ok (.i2f, 1) := by decide +kernel
theorem dX2_crowd_18 : decode cX2_crowd 18 = .ok (.aload_n 0, 1) := by decide +kernel
theorem dX2_crowd_19 : decode cX2_crowd 19 = .ok (.getfield 15, 3) := by decide +kernel
theorem dX2_crowd_22 : decode cX2_crowd 22 = .ok (.iload_n 1, 1) := by decide +kernel
theorem dX2_crowd_23 : decode cX2_crowd 23 = .ok (.iaload, 1) := by decide +kernel
theorem dX2_crowd_24 : decode cX2_crowd 24 = .ok (.i2f, 1) := by decide +kernel
theorem dX2_crowd_25 : decode cX2_crowd 25 = .ok (.fdiv, 1) := by decide +kernel
theorem dX2_crowd_26 : decode cX2_crowd 26 = .ok (.freturn, 1) := by decide +kernel
theorem dX2_pace_0 : decode cX2_pace 0 = .ok (.ldc 52, 2) := by decide +kernel
theorem dX2_pace_2 : decode cX2_pace 2 = .ok (.aload_n 0, 1) := by decide +kernel
theorem dX2_pace_3 : decode cX2_pace 3 = .ok (.iload_n 1, 1) := by decide +kernel
theorem dX2_pace_4 : decode cX2_pace 4 = .ok (.invokevirtual 53, 3) := by decide +kernel
theorem dX2_pace_7 : decode cX2_pace 7 = .ok (.fmul, 1) := by decide +kernel
theorem dX2_pace_8 : decode cX2_pace 8 = .ok (.fstore_n 2, 1) := by decide +kernel
theorem dX2_pace_9 : decode cX2_pace 9 = .ok (.ldc 57, 2) := by decide +kernel
theorem dX2_pace_11 : decode cX2_pace 11 = .ok (.fload_n 2, 1) := by decide +kernel
theorem dX2_pace_12 : decode cX2_pace 12 = .ok (.fsub, 1) := by decide +kernel
theorem dX2_pace_13 : decode cX2_pace 13 = .ok (.fstore_n 3, 1) := by decide +kernel
theorem dX2_pace_14 : decode cX2_pace 14 = .ok (.fload_n 3, 1) := by decide +kernel
theorem dX2_pace_15 : decode cX2_pace 15 = .ok (.ldc 58, 2) := by decide +kernel
theorem dX2_pace_17 : decode cX2_pace 17 = .ok (.fcmp .g, 1) := by decide +kernel
theorem dX2_pace_18 : decode cX2_pace 18 = .ok (.ifCond .ge 8, 3) := by decide +kernel
theorem dX2_pace_21 : decode cX2_pace 21 = .ok (.ldc 58, 2) := by decide +kernel
theorem dX2_pace_23 : decode cX2_pace 23 = .ok (.goto 4, 3) := by decide +kernel
theorem dX2_pace_26 : decode cX2_pace 26 = .ok (.fload_n 3, 1) := by decide +kernel
theorem dX2_pace_27 : decode cX2_pace 27 = .ok (.freturn, 1) := by decide +kernel
theorem dX3_init_0 : decode cX3_init 0 = .ok (.aload_n 0, 1) := by decide +kernel
theorem dX3_init_1 : decode cX3_init 1 = .ok (.invokespecial 3, 3) := by decide +kernel
theorem dX3_init_4 : decode cX3_init 4 = .ok (.aload_n 0, 1) := by decide +kernel
theorem dX3_init_5 : decode cX3_init 5 = .ok (.bipush 6, 2) := by decide +kernel
theorem dX3_init_7 : decode cX3_init 7 = .ok (.newarray .int, 2) := by decide +kernel
theorem dX3_init_9 : decode cX3_init 9 = .ok (.putfield 9, 3) := by decide +kernel
theorem dX3_init_12 : decode cX3_init 12 = .ok (.aload_n 0, 1) := by decide +kernel
theorem dX3_init_13 : decode cX3_init 13 = .ok (.bipush 30, 2) := by decide +kernel
theorem dX3_init_15 : decode cX3_init 15 = .ok (.newarray .int, 2) := by decide +kernel
theorem dX3_init_17 : decode cX3_init 17 = .ok (.putfield 15, 3) := by decide +kernel
theorem dX3_init_20 : decode cX3_init 20 = .ok (.aload_n 0, 1) := by decide +kernel
theorem dX3_init_21 : decode cX3_init 21 = .ok (.bipush 6, 2) := by decide +kernel
theorem dX3_init_23 : decode cX3_init 23 = .ok (.newarray .int, 2) := by decide +kernel
theorem dX3_init_25 : decode cX3_init 25 = .ok (.putfield 18, 3) := by decide +kernel
theorem dX3_init_28 : decode cX3_init 28 = .ok (.aload_n 0, 1) := by decide +kernel
theorem dX3_init_29 : decode cX3_init 29 = .ok (.bipush 6, 2) := by decide +kernel
theorem dX3_init_31 : decode cX3_init 31 = .ok (.newarray .int, 2) := by decide +kernel
theorem dX3_init_33 : decode cX3_init 33 = .ok (.putfield 21, 3) := by decide +kernel
theorem dX3_init_36 : decode cX3_init 36 = .ok (.return_, 1) := by decide +kernel
theorem dX3_begin_0 : decode cX3_begin 0 = .ok (.aload_n 1, 1) := by decide +kernel
theorem dX3_begin_1 : decode cX3_begin 1 = .ok (.getfield 24, 3) := by decide +kernel
theorem dX3_begin_4 : decode cX3_begin 4 = .ok (.iconst 0, 1) := by decide +kernel
theorem dX3_begin_5 : decode cX3_begin 5 = .ok (.aload_n 0, 1) := by decide +kernel
theorem dX3_begin_6 : decode cX3_begin 6 = .ok (.getfield 9, 3) := by decide +kernel
theorem dX3_begin_9 : decode cX3_begin 9 = .ok (.iconst 0, 1) := by decide +kernel
theorem dX3_begin_10 : decode cX3_begin 10 = .ok (.bipush 6, 2) := by decide +kernel
theorem dX3_begin_12 : decode cX3_begin 12 = .ok (.invokestatic 29, 3) := by decide +kernel
theorem dX3_begin_15 : decode cX3_begin 15 = .ok (.aload_n 0, 1) := by decide +kernel
theorem dX3_begin_16 : decode cX3_begin 16 = .ok (.getfield 15, 3) := by decide +kernel
theorem dX3_begin_19 : decode cX3_begin 19 = .ok (.iconst 0, 1) := by decide +kernel
theorem dX3_begin_20 : decode cX3_begin 20 = .ok (.invokestatic 35, 3) := by decide +kernel
theorem dX3_begin_23 : decode cX3_begin 23 = .ok (.return_, 1) := by decide +kernel
theorem dX3_arrive_0 : decode cX3_arrive 0 = .ok (.iload_n 1, 1) := by decide +kernel
theorem dX3_arrive_1 : decode cX3_arrive 1 = .ok (.iconst 5, 1) := by decide +kernel
theorem dX3_arrive_2 : decode cX3_arrive 2 = .ok (.irem, 1) := by decide +kernel
theorem dX3_arrive_3 : decode cX3_arrive 3 = .ok (.bipush 6, 2) := by decide +kernel
theorem dX3_arrive_5 : decode cX3_arrive 5 = .ok (.imul, 1) := by decide +kernel
theorem dX3_arrive_6 : decode cX3_arrive 6 = .ok (.istore_n 2, 1) := by decide +kernel
theorem dX3_arrive_7 : decode cX3_arrive 7 = .ok (.iconst 0, 1) := by decide +kernel
theorem dX3_arrive_8 : decode cX3_arrive 8 = .ok (.istore_n 3, 1) := by decide +kernel
theorem dX3_arrive_9 : decode cX3_arrive 9 = .ok (.iload_n 3, 1) := by decide +kernel
theorem dX3_arrive_10 : decode cX3_arrive 10 = .ok (.bipush 6, 2) := by decide +kernel
theorem dX3_arrive_12 : decode cX3_arrive 12 = .ok (.if_icmp .ge 35, 3) := by decide +kernel
theorem dX3_arrive_15 : decode cX3_arrive 15 = .ok (.aload_n 0, 1) := by decide +kernel
theorem dX3_arrive_16 : decode cX3_arrive 16 = .ok (.getfield 9, 3) := by decide +kernel
theorem dX3_arrive_19 : decode cX3_arrive 19 = .ok (.iload_n 3, 1) := by decide +kernel
theorem dX3_arrive_20 : decode cX3_arrive 20 = .ok (.dup2, 1) := by decide +kernel
theorem dX3_arrive_21 : decode cX3_arrive 21 = .ok (.iaload, 1) := by decide +kernel
theorem dX3_arrive_22 : decode cX3_arrive 22 = .ok (.aload_n 0, 1) := by decide +kernel
theorem dX3_arrive_23 : decode cX3_arrive 23 = .ok (.getfield 15, 3) := by decide +kernel
theorem dX3_arrive_26 : decode cX3_arrive 26 = .ok (.iload_n 2, 1) := by decide +kernel
theorem dX3_arrive_27 : decode cX3_arrive 27 = .ok (.iload_n 3, 1) := by decide +kernel
theorem dX3_arrive_28 : decode cX3_arrive 28 = .ok (.iadd, 1) := by decide +kernel
theorem dX3_arrive_29 : decode cX3_arrive 29 = .ok (.iaload, 1) := by decide +kernel
theorem dX3_arrive_30 : decode cX3_arrive 30 = .ok (.iadd, 1) := by decide +kernel
theorem dX3_arrive_31 : decode cX3_arrive 31 = .ok (.iastore, 1) := by decide +kernel
theorem dX3_arrive_32 : decode cX3_arrive 32 = .ok (.aload_n 0, 1) := by decide +kernel
theorem dX3_arrive_33 : decode cX3_arrive 33 = .ok (.getfield 15, 3) := by decide +kernel
theorem dX3_arrive_36 : decode cX3_arrive 36 = .ok (.iload_n 2, 1) := by decide +kernel
theorem dX3_arrive_37 : decode cX3_arrive 37 = .ok (.iload_n 3, 1) := by decide +kernel
theorem dX3_arrive_38 : decode cX3_arrive 38 = .ok (.iadd, 1) := by decide +kernel
theorem dX3_arrive_39 : decode cX3_arrive 39 = .ok (.iconst 0, 1) := by decide +kernel
theorem dX3_arrive_40 : decode cX3_arrive 40 = .ok (.iastore, 1) := by decide +kernel
theorem dX3_arrive_41 : decode cX3_arrive 41 = .ok (.iinc 3 1, 3) := by decide +kernel
theorem dX3_arrive_44 : decode cX3_arrive 44 = .ok (.goto (-35), 3) := by decide +kernel
theorem dX3_arrive_47 : decode cX3_arrive 47 = .ok (.return_, 1) := by decide +kernel
theorem dX3_peopleIn_0 : decode cX3_peopleIn 0 = .ok (.iconst 0, 1) := by decide +kernel
theorem dX3_peopleIn_1 : decode cX3_peopleIn 1 = .ok (.istore_n 2, 1) := by decide +kernel
theorem dX3_peopleIn_2 : decode cX3_peopleIn 2 = .ok (.iconst 0, 1) := by decide +kernel
theorem dX3_peopleIn_3 : decode cX3_peopleIn 3 = .ok (.istore_n 3, 1) := by decide +kernel
theorem dX3_peopleIn_4 : decode cX3_peopleIn 4 = .ok (.iload_n 3, 1) := by decide +kernel
theorem dX3_peopleIn_5 : decode cX3_peopleIn 5 = .ok (.bipush 6, 2) := by decide +kernel
theorem dX3_peopleIn_7 : decode cX3_peopleIn 7 = .ok (.if_icmp .ge 26, 3) := by decide +kernel
theorem dX3_peopleIn_10 : decode cX3_peopleIn 10 = .ok (.iload_n 1, 1) := by decide +kernel
theorem dX3_peopleIn_11 : decode cX3_peopleIn 11 = .ok (.iload_n 3, 1) := by decide +kernel
theorem dX3_peopleIn_12 : decode cX3_peopleIn 12 = .ok (.invokestatic 41, 3) := by decide +kernel
theorem dX3_peopleIn_15 : decode cX3_peopleIn 15 = .ok (.ifCond .eq 12, 3) := by decide +kernel
theorem dX3_peopleIn_18 : decode cX3_peopleIn 18 = .ok (.iload_n 2, 1) := by decide +kernel
theorem dX3_peopleIn_19 : decode cX3_peopleIn 19 = .ok (.aload_n 0, 1) := by decide +kernel
theorem dX3_peopleIn_20 : decode cX3_peopleIn 20 = .ok (.getfield 9, 3) := by decide +kernel
theorem dX3_peopleIn_23 : decode cX3_peopleIn 23 = .ok (.iload_n 3, 1) := by decide +kernel
theorem dX3_peopleIn_24 : decode cX3_peopleIn 24 = .ok (.iaload, 1) := by decide +kernel
theorem dX3_peopleIn_25 : decode cX3_peopleIn 25 = .ok (.iadd, 1) := by decide +kernel
theorem dX3_peopleIn_26 : decode cX3_peopleIn 26 = .ok (.istore_n 2, 1) := by decide +kernel
theorem dX3_peopleIn_27 : decode cX3_peopleIn 27 = .ok (.iinc 3 1, 3) := by decide +kernel
theorem dX3_peopleIn_30 : decode cX3_peopleIn 30 = .ok (.goto (-26), 3) := by decide +kernel
theorem dX3_peopleIn_33 : decode cX3_peopleIn 33 = .ok (.iload_n 2, 1) := by decide +kernel
theorem dX3_peopleIn_34 : decode cX3_peopleIn 34 = .ok (.ireturn, 1) := by decide +kernel
theorem dX3_leave_0 : decode cX3_leave 0 = .ok (.iload_n 2, 1) := by decide +kernel
theorem dX3_leave_1 : decode cX3_leave 1 = .ok (.ifCond .eq 11, 3) := by decide +kernel
theorem dX3_leave_4 : decode cX3_leave 4 = .ok (.aload_n 1, 1) := by decide +kernel
theorem dX3_leave_5 : decode cX3_leave 5 = .ok (.iload_n 2, 1) := by decide +kernel
theorem dX3_leave_6 : decode cX3_leave 6 = .ok (.invokevirtual 45, 3) := by decide +kernel
theorem dX3_leave_9 : decode cX3_leave 9 = .ok (.ifCond .eq 15, 3) := by decide +kernel
theorem dX3_leave_12 : decode cX3_leave 12 = .ok (.aload_n 0, 1) := by decide +kernel
theorem dX3_leave_13 : decode cX3_leave 13 = .ok (.aload_n 1, 1) := by decide +kernel
theorem dX3_leave_14 : decode cX3_leave 14 = .ok (.iload_n 2, 1) := by decide +kernel
theorem dX3_leave_15 : decode cX3_leave 15 = .ok (.invokevirtual 49, 3) := by decide +kernel
theorem dX3_leave_18 : decode cX3_leave 18 = .ok (.aload_n 0, 1) := by decide +kernel
theorem dX3_leave_19 : decode cX3_leave 19 = .ok (.aload_n 1, 1) := by decide +kernel
theorem dX3_leave_20 : decode cX3_leave 20 = .ok (.iload_n 2, 1) := by decide +kernel
theorem dX3_leave_21 : decode cX3_leave 21 = .ok (.invokevirtual 53, 3) := by decide +kernel
theorem dX3_leave_24 : decode cX3_leave 24 = .ok (.iconst 0, 1) := by decide +kernel
theorem dX3_leave_25 : decode cX3_leave 25 = .ok (.istore_n 3, 1) := by decide +kernel
theorem dX3_leave_26 : decode cX3_leave 26 = .ok (.iload_n 3, 1) := by decide +kernel
theorem dX3_leave_27 : decode cX3_leave 27 = .ok (.bipush 6, 2) := by decide +kernel
theorem dX3_leave_29 : decode cX3_leave 29 = .ok (.if_icmp .ge 87, 3) := by decide +kernel
theorem dX3_leave_32 : decode cX3_leave 32 = .ok (.aload_n 0, 1) := by decide +kernel
theorem dX3_leave_33 : decode cX3_leave 33 = .ok (.getfield 21, 3) := by decide +kernel
theorem dX3_leave_36 : decode cX3_leave 36 = .ok (.iload_n 3, 1) := by decide +kernel
theorem dX3_leave_37 : decode cX3_leave 37 = .ok (.iaload, 1) := by decide +kernel
theorem dX3_leave_38 : decode cX3_leave 38 = .ok (.istore 4, 2) := by decide +kernel
theorem dX3_leave_40 : decode cX3_leave 40 = .ok (.iload 4, 2) := by decide +kernel
theorem dX3_leave_42 : decode cX3_leave 42 = .ok (.ifCond .lt 68, 3) := by decide +kernel
theorem dX3_leave_45 : decode cX3_leave 45 = .ok (.aload_n 0, 1) := by decide +kernel
theorem dX3_leave_46 : decode cX3_leave 46 = .ok (.getfield 9, 3) := by decide +kernel
theorem dX3_leave_49 : decode cX3_leave 49 = .ok (.iload_n 3, 1) := by decide +kernel
theorem dX3_leave_50 : decode cX3_leave 50 = .ok (.iaload, 1) := by decide +kernel
theorem dX3_leave_51 : decode cX3_leave 51 = .ok (.aload_n 1, 1) := by decide +kernel
theorem dX3_leave_52 : decode cX3_leave 52 = .ok (.getfield 56, 3) := by decide +kernel
theorem dX3_leave_55 : decode cX3_leave 55 = .ok (.iload 4, 2) := by decide +kernel
theorem dX3_leave_57 : decode cX3_leave 57 = .ok (.iaload, 1) := by decide +kernel
theorem dX3_leave_58 : decode cX3_leave 58 = .ok (.invokestatic 59, 3) := by decide +kernel
theorem dX3_leave_61 : decode cX3_leave 61 = .ok (.istore 5, 2) := by decide +kernel
theorem dX3_leave_63 : decode cX3_leave 63 = .ok (.aload_n 0, 1) := by decide +kernel
theorem dX3_leave_64 : decode cX3_leave 64 = .ok (.getfield 9, 3) := by decide +kernel
theorem dX3_leave_67 : decode cX3_leave 67 = .ok (.iload_n 3, 1) := by decide +kernel
theorem dX3_leave_68 : decode cX3_leave 68 = .ok (.dup2, 1) := by decide +kernel
theorem dX3_leave_69 : decode cX3_leave 69 = .ok (.iaload, 1) := by decide +kernel
theorem dX3_leave_70 : decode cX3_leave 70 = .ok (.iload 5, 2) := by decide +kernel
theorem dX3_leave_72 : decode cX3_leave 72 = .ok (.isub, 1) := by decide +kernel
theorem dX3_leave_73 : decode cX3_leave 73 = .ok (.iastore, 1) := by decide +kernel
theorem dX3_leave_74 : decode cX3_leave 74 = .ok (.iload_n 2, 1) := by decide +kernel
theorem dX3_leave_75 : decode cX3_leave 75 = .ok (.aload_n 1, 1) := by decide +kernel
theorem dX3_leave_76 : decode cX3_leave 76 = .ok (.getfield 65, 3) := by decide +kernel
theorem dX3_leave_79 : decode cX3_leave 79 = .ok (.iload 4, 2) := by decide +kernel
theorem dX3_leave_81 : decode cX3_leave 81 = .ok (.iaload, 1) := by decide +kernel
theorem dX3_leave_82 : decode cX3_leave 82 = .ok (.iadd, 1) := by decide +kernel
theorem dX3_leave_83 : decode cX3_leave 83 = .ok (.iconst 5, 1) := by decide +kernel
theorem dX3_leave_84 : decode cX3_leave 84 = .ok (.irem, 1) := by decide +kernel
theorem dX3_leave_85 : decode cX3_leave 85 = .ok (.bipush 6, 2) := by decide +kernel
theorem dX3_leave_87 : decode cX3_leave 87 = .ok (.imul, 1) := by decide +kernel
theorem dX3_leave_88 : decode cX3_leave 88 = .ok (.istore 6, 2) := by decide +kernel
theorem dX3_leave_90 : decode cX3_leave 90 = .ok (.aload_n 0, 1) := by decide +kernel
theorem dX3_leave_91 : decode cX3_leave 91 = .ok (.getfield 15, 3) := by decide +kernel
theorem dX3_leave_94 : decode cX3_leave 94 = .ok (.iload 6, 2) := by decide +kernel
theorem dX3_leave_96 : decode cX3_leave 96 = .ok (.aload_n 1, 1) := by decide +kernel
theorem dX3_leave_97 : decode cX3_leave 97 = .ok (.getfield 68, 3) := by decide +kernel
theorem dX3_leave_100 : decode cX3_leave 100 = .ok (.iload 4, 2) := by decide +kernel
theorem dX3_leave_102 : decode cX3_leave 102 = .ok (.iaload, 1) := by decide +kernel
theorem dX3_leave_103 : decode cX3_leave 103 = .ok (.iadd, 1) := by decide +kernel
theorem dX3_leave_104 : decode cX3_leave 104 = .ok (.dup2, 1) := by decide +kernel
theorem dX3_leave_105 : decode cX3_leave 105 = .ok (.iaload, 1) := by decide +kernel
theorem dX3_leave_106 : decode cX3_leave 106 = .ok (.iload 5, 2) := by decide +kernel
theorem dX3_leave_108 : decode cX3_leave 108 = .ok (.iadd, 1) := by decide +kernel
theorem dX3_leave_109 : decode cX3_leave 109 = .ok (.iastore, 1) := by decide +kernel
theorem dX3_leave_110 : decode cX3_leave 110 = .ok (.iinc 3 1, 3) := by decide +kernel
theorem dX3_leave_113 : decode cX3_leave 113 = .ok (.goto (-87), 3) := by decide +kernel
theorem dX3_leave_116 : decode cX3_leave 116 = .ok (.return_, 1) := by decide +kernel
theorem dX3_findDistances_0 : decode cX3_findDistances 0 = .ok (.iconst 0, 1) := by decide +kernel
theorem dX3_findDistances_1 : decode cX3_findDistances 1 = .ok (.istore_n 3, 1) := by decide +kernel
theorem dX3_findDistances_2 : decode cX3_findDistances 2 = .ok (.iload_n 3, 1) := by decide +kernel
theorem dX3_findDistances_3 : decode cX3_findDistances 3 = .ok (.bipush 6, 2) := by decide +kernel
theorem dX3_findDistances_5 : decode cX3_findDistances 5 = .ok (.if_icmp .ge 33, 3) := by decide +kernel
theorem dX3_findDistances_8 : decode cX3_findDistances 8 = .ok (.aload_n 0, 1) := by decide +kernel
theorem dX3_findDistances_9 : decode cX3_findDistances 9 = .ok (.getfield 18, 3) := by decide +kernel
theorem dX3_findDistances_12 : decode cX3_findDistances 12 = .ok (.iload_n 3, 1) := by decide +kernel
theorem dX3_findDistances_13 : decode cX3_findDistances 13 = .ok (.aload_n 1, 1) := by decide +kernel
theorem dX3_findDistances_14 : decode cX3_findDistances 14 = .ok (.getfield 71, 3) := by decide +kernel
theorem dX3_findDistances_17 : decode cX3_findDistances 17 = .ok (.iload_n 3, 1) := by decide +kernel
theorem dX3_findDistances_18 : decode cX3_findDistances 18 = .ok (.invokestatic 41, 3) := by decide +kernel
theorem dX3_findDistances_21 : decode cX3_findDistances 21 = .ok (.ifCond .eq 7, 3) := by decide +kernel
theorem dX3_findDistances_24 : decode cX3_findDistances 24 = .ok (.iconst 0, 1) := by decide +kernel
theorem dX3_findDistances_25 : decode cX3_findDistances 25 = .ok (.goto 6, 3) := by decide +kernel
theorem dX3_findDistances_28 : decode cX3_findDistances 28 = .ok (.sipush 1000, 3) := by decide +kernel
theorem dX3_findDistances_31 : decode cX3_findDistances 31 = .ok (.iastore, 1) := by decide +kernel
theorem dX3_findDistances_32 : decode cX3_findDistances 32 = .ok (.iinc 3 1, 3) := by decide +kernel
theorem dX3_findDistances_35 : decode cX3_findDistances 35 = .ok (.goto (-33), 3) := by decide +kernel
theorem dX3_findDistances_38 : decode cX3_findDistances 38 = .ok (.iconst 1, 1) := by decide +kernel
theorem dX3_findDistances_39 : decode cX3_findDistances 39 = .ok (.istore_n 3, 1) := by decide +kernel
theorem dX3_findDistances_40 : decode cX3_findDistances 40 = .ok (.iconst 0, 1) := by decide +kernel
theorem dX3_findDistances_41 : decode cX3_findDistances 41 = .ok (.istore 4, 2) := by decide +kernel
theorem dX3_findDistances_43 : decode cX3_findDistances 43 = .ok (.iload_n 3, 1) := by decide +kernel
theorem dX3_findDistances_44 : decode cX3_findDistances 44 = .ok (.ifCond .eq 79, 3) := by decide +kernel
theorem dX3_findDistances_47 : decode cX3_findDistances 47 = .ok (.iload 4, 2) := by decide +kernel
theorem dX3_findDistances_49 : decode cX3_findDistances 49 = .ok (.bipush 6, 2) := by decide +kernel
theorem dX3_findDistances_51 : decode cX3_findDistances 51 = .ok (.if_icmp .ge 72, 3) := by decide +kernel
theorem dX3_findDistances_54 : decode cX3_findDistances 54 = .ok (.iconst 0, 1) := by decide +kernel
theorem dX3_findDistances_55 : decode cX3_findDistances 55 = .ok (.istore_n 3, 1) := by decide +kernel
theorem dX3_findDistances_56 : decode cX3_findDistances 56 = .ok (.iconst 0, 1) := by decide +kernel
theorem dX3_findDistances_57 : decode cX3_findDistances 57 = .ok (.istore 5, 2) := by decide +kernel
theorem dX3_findDistances_59 : decode cX3_findDistances 59 = .ok (.iload 5, 2) := by decide +kernel
theorem dX3_findDistances_61 : decode cX3_findDistances 61 = .ok (.aload_n 1, 1) := by decide +kernel
theorem dX3_findDistances_62 : decode cX3_findDistances 62 = .ok (.getfield 75, 3) := by decide +kernel
theorem dX3_findDistances_65 : decode cX3_findDistances 65 = .ok (.if_icmp .ge 52, 3) := by decide +kernel
theorem dX3_findDistances_68 : decode cX3_findDistances 68 = .ok (.aload_n 0, 1) := by decide +kernel
theorem dX3_findDistances_69 : decode cX3_findDistances 69 = .ok (.aload_n 1, 1) := by decide +kernel
theorem dX3_findDistances_70 : decode cX3_findDistances 70 = .ok (.iload 5, 2) := by decide +kernel
theorem dX3_findDistances_72 : decode cX3_findDistances 72 = .ok (.iload_n 2, 1) := by decide +kernel
theorem dX3_findDistances_73 : decode cX3_findDistances 73 = .ok (.invokevirtual 78, 3) := by decide +kernel
theorem dX3_findDistances_76 : decode cX3_findDistances 76 = .ok (.istore 6, 2) := by decide +kernel
theorem dX3_findDistances_78 : decode cX3_findDistances 78 = .ok (.iload 6, 2) := by decide +kernel
theorem dX3_findDistances_80 : decode cX3_findDistances 80 = .ok (.aload_n 0, 1) := by decide +kernel
theorem dX3_findDistances_81 : decode cX3_findDistances 81 = .ok (.getfield 18, 3) := by decide +kernel
theorem dX3_findDistances_84 : decode cX3_findDistances 84 = .ok (.aload_n 1, 1) := by decide +kernel
theorem dX3_findDistances_85 : decode cX3_findDistances 85 = .ok (.getfield 82, 3) := by decide +kernel
theorem dX3_findDistances_88 : decode cX3_findDistances 88 = .ok (.iload 5, 2) := by decide +kernel
theorem dX3_findDistances_90 : decode cX3_findDistances 90 = .ok (.iaload, 1) := by decide +kernel
theorem dX3_findDistances_91 : decode cX3_findDistances 91 = .ok (.iaload, 1) := by decide +kernel
theorem dX3_findDistances_92 : decode cX3_findDistances 92 = .ok (.if_icmp .ge 19, 3) := by decide +kernel
theorem dX3_findDistances_95 : decode cX3_findDistances 95 = .ok (.aload_n 0, 1) := by decide +kernel
theorem dX3_findDistances_96 : decode cX3_findDistances 96 = .ok (.getfield 18, 3) := by decide +kernel
theorem dX3_findDistances_99 : decode cX3_findDistances 99 = .ok (.aload_n 1, 1) := by decide +kernel
theorem dX3_findDistances_100 : decode cX3_findDistances 100 = .ok (.getfield 82, 3) := by decide +kernel
theorem dX3_findDistances_103 : decode cX3_findDistances 103 = .ok (.iload 5, 2) := by decide +kernel
theorem dX3_findDistances_105 : decode cX3_findDistances 105 = .ok (.iaload, 1) := by decide +kernel
theorem dX3_findDistances_106 : decode cX3_findDistances 106 = .ok (.iload 6, 2) := by decide +kernel
theorem dX3_findDistances_108 : decode cX3_findDistances 108 = .ok (.iastore, 1) := by decide +kernel
theorem dX3_findDistances_109 : decode cX3_findDistances 109 = .ok (.iconst 1, 1) := by decide +kernel
theorem dX3_findDistances_110 : decode cX3_findDistances 110 = .ok (.istore_n 3, 1) := by decide +kernel
theorem dX3_findDistances_111 : decode cX3_findDistances 111 = .ok (.iinc 5 1, 3) := by decide +kernel
theorem dX3_findDistances_114 : decode cX3_findDistances 114 = .ok (.goto (-55), 3) := by decide +kernel
theorem dX3_findDistances_117 : decode cX3_findDistances 117 = .ok (.iinc 4 1, 3) := by decide +kernel
theorem dX3_findDistances_120 : decode cX3_findDistances 120 = .ok (.goto (-77), 3) := by decide +kernel
theorem dX3_findDistances_123 : decode cX3_findDistances 123 = .ok (.return_, 1) := by decide +kernel
theorem dX3_distanceThrough_0 : decode cX3_distanceThrough 0 = .ok (.aload_n 0, 1) := by decide +kernel
theorem dX3_distanceThrough_1 : decode cX3_distanceThrough 1 = .ok (.getfield 18, 3) := by decide +kernel
theorem dX3_distanceThrough_4 : decode cX3_distanceThrough 4 = .ok (.aload_n 1, 1) := by decide +kernel
theorem dX3_distanceThrough_5 : decode cX3_distanceThrough 5 = .ok (.getfield 68, 3) := by decide +kernel
theorem dX3_distanceThrough_8 : decode cX3_distanceThrough 8 = .ok (.iload_n 2, 1) := by decide +kernel
theorem dX3_distanceThrough_9 : decode cX3_distanceThrough 9 = .ok (.iaload, 1) := by decide +kernel
theorem dX3_distanceThrough_10 : decode cX3_distanceThrough 10 = .ok (.iaload, 1) := by decide +kernel
theorem dX3_distanceThrough_11 : decode cX3_distanceThrough 11 = .ok (.istore 4, 2) := by decide +kernel
theorem dX3_distanceThrough_13 : decode cX3_distanceThrough 13 = .ok (.aload_n 1, 1) := by decide +kernel
theorem dX3_distanceThrough_14 : decode cX3_distanceThrough 14 = .ok (.getfield 85, 3) := by decide +kernel
theorem dX3_distanceThrough_17 : decode cX3_distanceThrough 17 = .ok (.iload_n 2, 1) := by decide +kernel
theorem dX3_distanceThrough_18 : decode cX3_distanceThrough 18 = .ok (.iaload, 1) := by decide +kernel
theorem dX3_distanceThrough_19 : decode cX3_distanceThrough 19 = .ok (.iload_n 3, 1) := by decide +kernel
theorem dX3_distanceThrough_20 : decode cX3_distanceThrough 20 = .ok (.if_icmp .le 11, 3) := by decide +kernel
theorem dX3_distanceThrough_23 : decode cX3_distanceThrough 23 = .ok (.iload 4, 2) := by decide +kernel
theorem dX3_distanceThrough_25 : decode cX3_distanceThrough 25 = .ok (.sipush 1000, 3) := by decide +kernel
theorem dX3_distanceThrough_28 : decode cX3_distanceThrough 28 = .ok (.if_icmp .ne 9, 3) := by decide +kernel
theorem dX3_distanceThrough_31 : decode cX3_distanceThrough 31 = .ok (.sipush 1000, 3) := by decide +kernel
theorem dX3_distanceThrough_34 : decode cX3_distanceThrough 34 = .ok (.goto 12, 3) := by decide +kernel
theorem dX3_distanceThrough_37 : decode cX3_distanceThrough 37 = .ok (.aload_n 1, 1) := by decide +kernel
theorem dX3_distanceThrough_38 : decode cX3_distanceThrough 38 = .ok (.getfield 65, 3) := by decide +kernel
theorem dX3_distanceThrough_41 : decode cX3_distanceThrough 41 = .ok (.iload_n 2, 1) := by decide +kernel
theorem dX3_distanceThrough_42 : decode cX3_distanceThrough 42 = .ok (.iaload, 1) := by decide +kernel
theorem dX3_distanceThrough_43 : decode cX3_distanceThrough 43 = .ok (.iload 4, 2) := by decide +kernel
theorem dX3_distanceThrough_45 : decode cX3_distanceThrough 45 = .ok (.iadd, 1) := by decide +kernel
theorem dX3_distanceThrough_46 : decode cX3_distanceThrough 46 = .ok (.ireturn, 1) := by decide +kernel
theorem dX3_findFirstPassages_0 : decode cX3_findFirstPassages 0 = .ok (.aload_n 0, 1) := by decide +kernel
theorem dX3_findFirstPassages_1 : decode cX3_findFirstPassages 1 = .ok (.getfield 21, 3) := by decide +kernel
theorem dX3_findFirstPassages_4 : decode cX3_findFirstPassages 4 = .ok (.iconst (-1), 1) := by decide +kernel
theorem dX3_findFirstPassages_5 : decode cX3_findFirstPassages 5 = .ok (.invokestatic 35, 3) := by decide +kernel
theorem dX3_findFirstPassages_8 : decode cX3_findFirstPassages 8 = .ok (.aload_n 1, 1) := by decide +kernel
theorem dX3_findFirstPassages_9 : decode cX3_findFirstPassages 9 = .ok (.getfield 75, 3) := by decide +kernel
theorem dX3_findFirstPassages_12 : decode cX3_findFirstPassages 12 = .ok (.iconst 1, 1) := by decide +kernel
theorem dX3_findFirstPassages_13 : decode cX3_findFirstPassages 13 = .ok (.isub, 1) := by decide +kernel
theorem dX3_findFirstPassages_14 : decode cX3_findFirstPassages 14 = .ok (.istore_n 3, 1) := by decide +kernel
theorem dX3_findFirstPassages_15 : decode cX3_findFirstPassages 15 = .ok (.iload_n 3, 1) := by decide +kernel
theorem dX3_findFirstPassages_16 : decode cX3_findFirstPassages 16 = .ok (.ifCond .lt 54, 3) := by decide +kernel
theorem dX3_findFirstPassages_19 : decode cX3_findFirstPassages 19 = .ok (.aload_n 1, 1) := by decide +kernel
theorem dX3_findFirstPassages_20 : decode cX3_findFirstPassages 20 = .ok (.getfield 82, 3) := by decide +kernel
theorem dX3_findFirstPassages_23 : decode cX3_findFirstPassages 23 = .ok (.iload_n 3, 1) := by decide +kernel
theorem dX3_findFirstPassages_24 : decode cX3_findFirstPassages 24 = .ok (.iaload, 1) := by decide +kernel
theorem dX3_findFirstPassages_25 : decode cX3_findFirstPassages 25 = .ok (.istore 4, 2) := by decide +kernel
theorem dX3_findFirstPassages_27 : decode cX3_findFirstPassages 27 = .ok (.aload_n 0, 1) := by decide +kernel
theorem dX3_findFirstPassages_28 : decode cX3_findFirstPassages 28 = .ok (.aload_n 1, 1) := by decide +kernel
theorem dX3_findFirstPassages_29 : decode cX3_findFirstPassages 29 = .ok (.iload_n 3, 1) := by decide +kernel
theorem dX3_findFirstPassages_30 : decode cX3_findFirstPassages 30 = .ok (.iload_n 2, 1) := by decide +kernel
theorem dX3_findFirstPassages_31 : decode cX3_findFirstPassages 31 = .ok (.invokevirtual 78, 3) := by decide +kernel
theorem dX3_findFirstPassages_34 : decode cX3_findFirstPassages 34 = .ok (.istore 5, 2) := by decide +kernel
theorem dX3_findFirstPassages_36 : decode cX3_findFirstPassages 36 = .ok (.iload 5, 2) := by decide +kernel
theorem dX3_findFirstPassages_38 : decode cX3_findFirstPassages 38 = .ok (.sipush 1000, 3) := by decide +kernel
theorem dX3_findFirstPassages_41 : decode cX3_findFirstPassages 41 = .ok (.if_icmp .eq 23, 3) := by decide +kernel
theorem dX3_findFirstPassages_44 : decode cX3_findFirstPassages 44 = .ok (.iload 5, 2) := by decide +kernel
theorem dX3_findFirstPassages_46 : decode cX3_findFirstPassages 46 = .ok (.aload_n 0, 1) := by decide +kernel
theorem dX3_findFirstPassages_47 : decode cX3_findFirstPassages 47 = .ok (.getfield 18, 3) := by decide +kernel
theorem dX3_findFirstPassages_50 : decode cX3_findFirstPassages 50 = .ok (.iload 4, 2) := by decide +kernel
theorem dX3_findFirstPassages_52 : decode cX3_findFirstPassages 52 = .ok (.iaload, 1) := by decide +kernel
theorem dX3_findFirstPassages_53 : decode cX3_findFirstPassages 53 = .ok (.if_icmp .ne 11, 3) := by decide +kernel
theorem dX3_findFirstPassages_56 : decode cX3_findFirstPassages 56 = .ok (.aload_n 0, 1) := by decide +kernel
theorem dX3_findFirstPassages_57 : decode cX3_findFirstPassages 57 = .ok (.getfield 21, 3) := by decide +kernel
theorem dX3_findFirstPassages_60 : decode cX3_findFirstPassages 60 = .ok (.iload 4, 2) := by decide +kernel
theorem dX3_findFirstPassages_62 : decode cX3_findFirstPassages 62 = .ok (.iload_n 3, 1) := by decide +kernel
theorem dX3_findFirstPassages_63 : decode cX3_findFirstPassages 63 = .ok (.iastore, 1) := by decide +kernel
theorem dX3_findFirstPassages_64 : decode cX3_findFirstPassages 64 = .ok (.iinc 3 (-1), 3) := by decide +kernel
theorem dX3_findFirstPassages_67 : decode cX3_findFirstPassages 67 = .ok (.goto (-52), 3) := by decide +kernel
theorem dX3_findFirstPassages_70 : decode cX3_findFirstPassages 70 = .ok (.return_, 1) := by decide +kernel
