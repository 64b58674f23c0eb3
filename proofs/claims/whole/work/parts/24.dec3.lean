theorem dX12_stand_13 : decode cX12_stand 13 = .ok (.getfield 18, 3) := by decide +kernel
theorem dX12_stand_16 : decode cX12_stand 16 = .ok (.iload_n 1, 1) := by decide +kernel
theorem dX12_stand_17 : decode cX12_stand 17 = .ok (.baload, 1) := by decide +kernel
theorem dX12_stand_18 : decode cX12_stand 18 = .ok (.ifCond .eq 25, 3) := by decide +kernel
theorem dX12_stand_21 : decode cX12_stand 21 = .ok (.aload_n 0, 1) := by decide +kernel
theorem dX12_stand_22 : decode cX12_stand 22 = .ok (.getfield 39, 3) := by decide +kernel
theorem dX12_stand_25 : decode cX12_stand 25 = .ok (.iload_n 1, 1) := by decide +kernel
theorem dX12_stand_26 : decode cX12_stand 26 = .ok (.iaload, 1) := by decide +kernel
theorem dX12_stand_27 : decode cX12_stand 27 = .ok (.iconst 2, 1) := by decide +kernel
theorem dX12_stand_28 : decode cX12_stand 28 = .ok (.if_icmp .eq 15, 3) := by decide +kernel
theorem dX12_stand_31 : decode cX12_stand 31 = .ok (.aload_n 0, 1) := by decide +kernel
theorem dX12_stand_32 : decode cX12_stand 32 = .ok (.iload_n 1, 1) := by decide +kernel
theorem dX12_stand_33 : decode cX12_stand 33 = .ok (.invokevirtual 226, 3) := by decide +kernel
theorem dX12_stand_36 : decode cX12_stand 36 = .ok (.ifCond .ne 7, 3) := by decide +kernel
theorem dX12_stand_39 : decode cX12_stand 39 = .ok (.iconst 1, 1) := by decide +kernel
theorem dX12_stand_40 : decode cX12_stand 40 = .ok (.goto 4, 3) := by decide +kernel
theorem dX12_stand_43 : decode cX12_stand 43 = .ok (.iconst 0, 1) := by decide +kernel
theorem dX12_stand_44 : decode cX12_stand 44 = .ok (.iconst 1, 1) := by decide +kernel
theorem dX12_stand_45 : decode cX12_stand 45 = .ok (.invokevirtual 173, 3) := by decide +kernel
theorem dX12_stand_48 : decode cX12_stand 48 = .ok (.ifCond .ne 5, 3) := by decide +kernel
theorem dX12_stand_51 : decode cX12_stand 51 = .ok (.iconst 0, 1) := by decide +kernel
theorem dX12_stand_52 : decode cX12_stand 52 = .ok (.ireturn, 1) := by decide +kernel
theorem dX12_stand_53 : decode cX12_stand 53 = .ok (.aload_n 0, 1) := by decide +kernel
theorem dX12_stand_54 : decode cX12_stand 54 = .ok (.dup, 1) := by decide +kernel
theorem dX12_stand_55 : decode cX12_stand 55 = .ok (.getfield 164, 3) := by decide +kernel
theorem dX12_stand_58 : decode cX12_stand 58 = .ok (.iconst 1, 1) := by decide +kernel
theorem dX12_stand_59 : decode cX12_stand 59 = .ok (.iadd, 1) := by decide +kernel
theorem dX12_stand_60 : decode cX12_stand 60 = .ok (.putfield 164, 3) := by decide +kernel
theorem dX12_stand_63 : decode cX12_stand 63 = .ok (.iload_n 1, 1) := by decide +kernel
theorem dX12_stand_64 : decode cX12_stand 64 = .ok (.istore_n 3, 1) := by decide +kernel
theorem dX12_stand_65 : decode cX12_stand 65 = .ok (.aload_n 0, 1) := by decide +kernel
theorem dX12_stand_66 : decode cX12_stand 66 = .ok (.getfield 32, 3) := by decide +kernel
theorem dX12_stand_69 : decode cX12_stand 69 = .ok (.iload_n 3, 1) := by decide +kernel
theorem dX12_stand_70 : decode cX12_stand 70 = .ok (.dup2, 1) := by decide +kernel
theorem dX12_stand_71 : decode cX12_stand 71 = .ok (.iaload, 1) := by decide +kernel
theorem dX12_stand_72 : decode cX12_stand 72 = .ok (.iconst 1, 1) := by decide +kernel
theorem dX12_stand_73 : decode cX12_stand 73 = .ok (.iadd, 1) := by decide +kernel
theorem dX12_stand_74 : decode cX12_stand 74 = .ok (.iastore, 1) := by decide +kernel
theorem dX12_stand_75 : decode cX12_stand 75 = .ok (.aload_n 0, 1) := by decide +kernel
theorem dX12_stand_76 : decode cX12_stand 76 = .ok (.getfield 36, 3) := by decide +kernel
theorem dX12_stand_79 : decode cX12_stand 79 = .ok (.iload_n 3, 1) := by decide +kernel
theorem dX12_stand_80 : decode cX12_stand 80 = .ok (.iload_n 3, 1) := by decide +kernel
theorem dX12_stand_81 : decode cX12_stand 81 = .ok (.iastore, 1) := by decide +kernel
theorem dX12_stand_82 : decode cX12_stand 82 = .ok (.aload_n 0, 1) := by decide +kernel
theorem dX12_stand_83 : decode cX12_stand 83 = .ok (.getfield 39, 3) := by decide +kernel
theorem dX12_stand_86 : decode cX12_stand 86 = .ok (.iload_n 3, 1) := by decide +kernel
theorem dX12_stand_87 : decode cX12_stand 87 = .ok (.iconst 1, 1) := by decide +kernel
theorem dX12_stand_88 : decode cX12_stand 88 = .ok (.iastore, 1) := by decide +kernel
theorem dX12_stand_89 : decode cX12_stand 89 = .ok (.aload_n 0, 1) := by decide +kernel
theorem dX12_stand_90 : decode cX12_stand 90 = .ok (.getfield 75, 3) := by decide +kernel
theorem dX12_stand_93 : decode cX12_stand 93 = .ok (.iload_n 3, 1) := by decide +kernel
theorem dX12_stand_94 : decode cX12_stand 94 = .ok (.iconst 0, 1) := by decide +kernel
theorem dX12_stand_95 : decode cX12_stand 95 = .ok (.bastore, 1) := by decide +kernel
theorem dX12_stand_96 : decode cX12_stand 96 = .ok (.aload_n 0, 1) := by decide +kernel
theorem dX12_stand_97 : decode cX12_stand 97 = .ok (.getfield 60, 3) := by decide +kernel
theorem dX12_stand_100 : decode cX12_stand 100 = .ok (.iload_n 3, 1) := by decide +kernel
theorem dX12_stand_101 : decode cX12_stand 101 = .ok (.iconst 1, 1) := by decide +kernel
theorem dX12_stand_102 : decode cX12_stand 102 = .ok (.iload_n 3, 1) := by decide +kernel
theorem dX12_stand_103 : decode cX12_stand 103 = .ok (.ishl, 1) := by decide +kernel
theorem dX12_stand_104 : decode cX12_stand 104 = .ok (.iastore, 1) := by decide +kernel
theorem dX12_stand_105 : decode cX12_stand 105 = .ok (.iconst 0, 1) := by decide +kernel
theorem dX12_stand_106 : decode cX12_stand 106 = .ok (.istore 4, 2) := by decide +kernel
theorem dX12_stand_108 : decode cX12_stand 108 = .ok (.iload 4, 2) := by decide +kernel
theorem dX12_stand_110 : decode cX12_stand 110 = .ok (.aload_n 0, 1) := by decide +kernel
theorem dX12_stand_111 : decode cX12_stand 111 = .ok (.getfield 7, 3) := by decide +kernel
theorem dX12_stand_114 : decode cX12_stand 114 = .ok (.if_icmp .ge 72, 3) := by decide +kernel
theorem dX12_stand_117 : decode cX12_stand 117 = .ok (.iload 4, 2) := by decide +kernel
theorem dX12_stand_119 : decode cX12_stand 119 = .ok (.iload_n 3, 1) := by decide +kernel
theorem dX12_stand_120 : decode cX12_stand 120 = .ok (.if_icmp .eq 60, 3) := by decide +kernel
theorem dX12_stand_123 : decode cX12_stand 123 = .ok (.aload_n 0, 1) := by decide +kernel
theorem dX12_stand_124 : decode cX12_stand 124 = .ok (.iconst 0, 1) := by decide +kernel
theorem dX12_stand_125 : decode cX12_stand 125 = .ok (.iload_n 3, 1) := by decide +kernel
theorem dX12_stand_126 : decode cX12_stand 126 = .ok (.iload 4, 2) := by decide +kernel
theorem dX12_stand_128 : decode cX12_stand 128 = .ok (.aload_n 0, 1) := by decide +kernel
theorem dX12_stand_129 : decode cX12_stand 129 = .ok (.getfield 32, 3) := by decide +kernel
theorem dX12_stand_132 : decode cX12_stand 132 = .ok (.iload_n 3, 1) := by decide +kernel
theorem dX12_stand_133 : decode cX12_stand 133 = .ok (.iaload, 1) := by decide +kernel
theorem dX12_stand_134 : decode cX12_stand 134 = .ok (.invokevirtual 229, 3) := by decide +kernel
theorem dX12_stand_137 : decode cX12_stand 137 = .ok (.istore 5, 2) := by decide +kernel
theorem dX12_stand_139 : decode cX12_stand 139 = .ok (.iload 5, 2) := by decide +kernel
theorem dX12_stand_141 : decode cX12_stand 141 = .ok (.iconst (-1), 1) := by decide +kernel
theorem dX12_stand_142 : decode cX12_stand 142 = .ok (.if_icmp .eq 38, 3) := by decide +kernel
theorem dX12_stand_145 : decode cX12_stand 145 = .ok (.aload_n 0, 1) := by decide +kernel
theorem dX12_stand_146 : decode cX12_stand 146 = .ok (.getfield 117, 3) := by decide +kernel
theorem dX12_stand_149 : decode cX12_stand 149 = .ok (.iload 5, 2) := by decide +kernel
theorem dX12_stand_151 : decode cX12_stand 151 = .ok (.iconst 4, 1) := by decide +kernel
theorem dX12_stand_152 : decode cX12_stand 152 = .ok (.iadd, 1) := by decide +kernel
theorem dX12_stand_153 : decode cX12_stand 153 = .ok (.aload_n 0, 1) := by decide +kernel
theorem dX12_stand_154 : decode cX12_stand 154 = .ok (.getfield 42, 3) := by decide +kernel
theorem dX12_stand_157 : decode cX12_stand 157 = .ok (.iload_n 3, 1) := by decide +kernel
theorem dX12_stand_158 : decode cX12_stand 158 = .ok (.iaload, 1) := by decide +kernel
theorem dX12_stand_159 : decode cX12_stand 159 = .ok (.iastore, 1) := by decide +kernel
theorem dX12_stand_160 : decode cX12_stand 160 = .ok (.aload_n 0, 1) := by decide +kernel
theorem dX12_stand_161 : decode cX12_stand 161 = .ok (.getfield 117, 3) := by decide +kernel
theorem dX12_stand_164 : decode cX12_stand 164 = .ok (.iload 5, 2) := by decide +kernel
theorem dX12_stand_166 : decode cX12_stand 166 = .ok (.iconst 5, 1) := by decide +kernel
theorem dX12_stand_167 : decode cX12_stand 167 = .ok (.iadd, 1) := by decide +kernel
theorem dX12_stand_168 : decode cX12_stand 168 = .ok (.aload_n 0, 1) := by decide +kernel
theorem dX12_stand_169 : decode cX12_stand 169 = .ok (.iload_n 3, 1) := by decide +kernel
theorem dX12_stand_170 : decode cX12_stand 170 = .ok (.aload_n 0, 1) := by decide +kernel
theorem dX12_stand_171 : decode cX12_stand 171 = .ok (.getfield 42, 3) := by decide +kernel
theorem dX12_stand_174 : decode cX12_stand 174 = .ok (.iload_n 3, 1) := by decide +kernel
theorem dX12_stand_175 : decode cX12_stand 175 = .ok (.iaload, 1) := by decide +kernel
theorem dX12_stand_176 : decode cX12_stand 176 = .ok (.invokevirtual 233, 3) := by decide +kernel
theorem dX12_stand_179 : decode cX12_stand 179 = .ok (.iastore, 1) := by decide +kernel
theorem dX12_stand_180 : decode cX12_stand 180 = .ok (.iinc 4 1, 3) := by decide +kernel
theorem dX12_stand_183 : decode cX12_stand 183 = .ok (.goto (-75), 3) := by decide +kernel
theorem dX12_stand_186 : decode cX12_stand 186 = .ok (.aload_n 0, 1) := by decide +kernel
theorem dX12_stand_187 : decode cX12_stand 187 = .ok (.invokevirtual 187, 3) := by decide +kernel
theorem dX12_stand_190 : decode cX12_stand 190 = .ok (.aload_n 0, 1) := by decide +kernel
theorem dX12_stand_191 : decode cX12_stand 191 = .ok (.getfield 32, 3) := by decide +kernel
theorem dX12_stand_194 : decode cX12_stand 194 = .ok (.iload_n 3, 1) := by decide +kernel
theorem dX12_stand_195 : decode cX12_stand 195 = .ok (.iaload, 1) := by decide +kernel
theorem dX12_stand_196 : decode cX12_stand 196 = .ok (.ireturn, 1) := by decide +kernel
theorem dX12_asked_0 : decode cX12_asked 0 = .ok (.aload_n 0, 1) := by decide +kernel
theorem dX12_asked_1 : decode cX12_asked 1 = .ok (.getfield 144, 3) := by decide +kernel
theorem dX12_asked_4 : decode cX12_asked 4 = .ok (.iconst 1, 1) := by decide +kernel
theorem dX12_asked_5 : decode cX12_asked 5 = .ok (.iaload, 1) := by decide +kernel
theorem dX12_asked_6 : decode cX12_asked 6 = .ok (.istore_n 2, 1) := by decide +kernel
theorem dX12_asked_7 : decode cX12_asked 7 = .ok (.aload_n 0, 1) := by decide +kernel
theorem dX12_asked_8 : decode cX12_asked 8 = .ok (.iload_n 1, 1) := by decide +kernel
theorem dX12_asked_9 : decode cX12_asked 9 = .ok (.aload_n 0, 1) := by decide +kernel
theorem dX12_asked_10 : decode cX12_asked 10 = .ok (.getfield 42, 3) := by decide +kernel
theorem dX12_asked_13 : decode cX12_asked 13 = .ok (.iload_n 1, 1) := by decide +kernel
theorem dX12_asked_14 : decode cX12_asked 14 = .ok (.iaload, 1) := by decide +kernel
theorem dX12_asked_15 : decode cX12_asked 15 = .ok (.invokevirtual 233, 3) := by decide +kernel
theorem dX12_asked_18 : decode cX12_asked 18 = .ok (.istore_n 3, 1) := by decide +kernel
theorem dX12_asked_19 : decode cX12_asked 19 = .ok (.aload_n 0, 1) := by decide +kernel
theorem dX12_asked_20 : decode cX12_asked 20 = .ok (.getfield 144, 3) := by decide +kernel
theorem dX12_asked_23 : decode cX12_asked 23 = .ok (.iconst 5, 1) := by decide +kernel
theorem dX12_asked_24 : decode cX12_asked 24 = .ok (.iaload, 1) := by decide +kernel
theorem dX12_asked_25 : decode cX12_asked 25 = .ok (.iload_n 3, 1) := by decide +kernel
theorem dX12_asked_26 : decode cX12_asked 26 = .ok (.if_icmp .gt 28, 3) := by decide +kernel
theorem dX12_asked_29 : decode cX12_asked 29 = .ok (.aload_n 0, 1) := by decide +kernel
theorem dX12_asked_30 : decode cX12_asked 30 = .ok (.getfield 144, 3) := by decide +kernel
theorem dX12_asked_33 : decode cX12_asked 33 = .ok (.iconst 5, 1) := by decide +kernel
theorem dX12_asked_34 : decode cX12_asked 34 = .ok (.iaload, 1) := by decide +kernel
theorem dX12_asked_35 : decode cX12_asked 35 = .ok (.iload_n 3, 1) := by decide +kernel
theorem dX12_asked_36 : decode cX12_asked 36 = .ok (.if_icmp .ne 22, 3) := by decide +kernel
theorem dX12_asked_39 : decode cX12_asked 39 = .ok (.aload_n 0, 1) := by decide +kernel
theorem dX12_asked_40 : decode cX12_asked 40 = .ok (.getfield 144, 3) := by decide +kernel
theorem dX12_asked_43 : decode cX12_asked 43 = .ok (.iconst 4, 1) := by decide +kernel
theorem dX12_asked_44 : decode cX12_asked 44 = .ok (.iaload, 1) := by decide +kernel
theorem dX12_asked_45 : decode cX12_asked 45 = .ok (.aload_n 0, 1) := by decide +kernel
theorem dX12_asked_46 : decode cX12_asked 46 = .ok (.getfield 42, 3) := by decide +kernel
theorem dX12_asked_49 : decode cX12_asked 49 = .ok (.iload_n 1, 1) := by decide +kernel
theorem dX12_asked_50 : decode cX12_asked 50 = .ok (.iaload, 1) := by decide +kernel
theorem dX12_asked_51 : decode cX12_asked 51 = .ok (.if_icmp .lt 7, 3) := by decide +kernel
theorem dX12_asked_54 : decode cX12_asked 54 = .ok (.iconst 1, 1) := by decide +kernel
theorem dX12_asked_55 : decode cX12_asked 55 = .ok (.goto 4, 3) := by decide +kernel
theorem dX12_asked_58 : decode cX12_asked 58 = .ok (.iconst 0, 1) := by decide +kernel
theorem dX12_asked_59 : decode cX12_asked 59 = .ok (.istore 4, 2) := by decide +kernel
theorem dX12_asked_61 : decode cX12_asked 61 = .ok (.aload_n 0, 1) := by decide +kernel
theorem dX12_asked_62 : decode cX12_asked 62 = .ok (.getfield 36, 3) := by decide +kernel
theorem dX12_asked_65 : decode cX12_asked 65 = .ok (.iload_n 1, 1) := by decide +kernel
theorem dX12_asked_66 : decode cX12_asked 66 = .ok (.iaload, 1) := by decide +kernel
theorem dX12_asked_67 : decode cX12_asked 67 = .ok (.iconst (-1), 1) := by decide +kernel
theorem dX12_asked_68 : decode cX12_asked 68 = .ok (.if_icmp .eq 13, 3) := by decide +kernel
theorem dX12_asked_71 : decode cX12_asked 71 = .ok (.aload_n 0, 1) := by decide +kernel
theorem dX12_asked_72 : decode cX12_asked 72 = .ok (.getfield 36, 3) := by decide +kernel
theorem dX12_asked_75 : decode cX12_asked 75 = .ok (.iload_n 1, 1) := by decide +kernel
theorem dX12_asked_76 : decode cX12_asked 76 = .ok (.iaload, 1) := by decide +kernel
theorem dX12_asked_77 : decode cX12_asked 77 = .ok (.iload_n 2, 1) := by decide +kernel
theorem dX12_asked_78 : decode cX12_asked 78 = .ok (.if_icmp .ne 7, 3) := by decide +kernel
theorem dX12_asked_81 : decode cX12_asked 81 = .ok (.iconst 1, 1) := by decide +kernel
theorem dX12_asked_82 : decode cX12_asked 82 = .ok (.goto 4, 3) := by decide +kernel
theorem dX12_asked_85 : decode cX12_asked 85 = .ok (.iconst 0, 1) := by decide +kernel
theorem dX12_asked_86 : decode cX12_asked 86 = .ok (.istore 5, 2) := by decide +kernel
theorem dX12_asked_88 : decode cX12_asked 88 = .ok (.aload_n 0, 1) := by decide +kernel
theorem dX12_asked_89 : decode cX12_asked 89 = .ok (.getfield 144, 3) := by decide +kernel
theorem dX12_asked_92 : decode cX12_asked 92 = .ok (.iconst 3, 1) := by decide +kernel
theorem dX12_asked_93 : decode cX12_asked 93 = .ok (.iaload, 1) := by decide +kernel
theorem dX12_asked_94 : decode cX12_asked 94 = .ok (.aload_n 0, 1) := by decide +kernel
theorem dX12_asked_95 : decode cX12_asked 95 = .ok (.getfield 32, 3) := by decide +kernel
theorem dX12_asked_98 : decode cX12_asked 98 = .ok (.iload_n 1, 1) := by decide +kernel
theorem dX12_asked_99 : decode cX12_asked 99 = .ok (.iaload, 1) := by decide +kernel
theorem dX12_asked_100 : decode cX12_asked 100 = .ok (.if_icmp .ne 35, 3) := by decide +kernel
theorem dX12_asked_103 : decode cX12_asked 103 = .ok (.iload 5, 2) := by decide +kernel
theorem dX12_asked_105 : decode cX12_asked 105 = .ok (.ifCond .eq 30, 3) := by decide +kernel
theorem dX12_asked_108 : decode cX12_asked 108 = .ok (.iload 4, 2) := by decide +kernel
theorem dX12_asked_110 : decode cX12_asked 110 = .ok (.ifCond .eq 25, 3) := by decide +kernel
theorem dX12_asked_113 : decode cX12_asked 113 = .ok (.aload_n 0, 1) := by decide +kernel
theorem dX12_asked_114 : decode cX12_asked 114 = .ok (.iload_n 1, 1) := by decide +kernel
theorem dX12_asked_115 : decode cX12_asked 115 = .ok (.invokevirtual 226, 3) := by decide +kernel
theorem dX12_asked_118 : decode cX12_asked 118 = .ok (.ifCond .eq 13, 3) := by decide +kernel
theorem dX12_asked_121 : decode cX12_asked 121 = .ok (.aload_n 0, 1) := by decide +kernel
theorem dX12_asked_122 : decode cX12_asked 122 = .ok (.getfield 81, 3) := by decide +kernel
theorem dX12_asked_125 : decode cX12_asked 125 = .ok (.iload_n 1, 1) := by decide +kernel
theorem dX12_asked_126 : decode cX12_asked 126 = .ok (.iaload, 1) := by decide +kernel
theorem dX12_asked_127 : decode cX12_asked 127 = .ok (.iload_n 2, 1) := by decide +kernel
theorem dX12_asked_128 : decode cX12_asked 128 = .ok (.if_icmp .ne 7, 3) := by decide +kernel
theorem dX12_asked_131 : decode cX12_asked 131 = .ok (.iconst 1, 1) := by decide +kernel
theorem dX12_asked_132 : decode cX12_asked 132 = .ok (.goto 4, 3) := by decide +kernel
theorem dX12_asked_135 : decode cX12_asked 135 = .ok (.iconst 0, 1) := by decide +kernel
theorem dX12_asked_136 : decode cX12_asked 136 = .ok (.istore 6, 2) := by decide +kernel
theorem dX12_asked_138 : decode cX12_asked 138 = .ok (.aload_n 0, 1) := by decide +kernel
theorem dX12_asked_139 : decode cX12_asked 139 = .ok (.getfield 36, 3) := by decide +kernel
theorem dX12_asked_142 : decode cX12_asked 142 = .ok (.iload_n 1, 1) := by decide +kernel
theorem dX12_asked_143 : decode cX12_asked 143 = .ok (.iload 6, 2) := by decide +kernel
theorem dX12_asked_145 : decode cX12_asked 145 = .ok (.ifCond .eq 7, 3) := by decide +kernel
theorem dX12_asked_148 : decode cX12_asked 148 = .ok (.iload_n 2, 1) := by decide +kernel
theorem dX12_asked_149 : decode cX12_asked 149 = .ok (.goto 9, 3) := by decide +kernel
theorem dX12_asked_152 : decode cX12_asked 152 = .ok (.aload_n 0, 1) := by decide +kernel
theorem dX12_asked_153 : decode cX12_asked 153 = .ok (.getfield 36, 3) := by decide +kernel
theorem dX12_asked_156 : decode cX12_asked 156 = .ok (.iload_n 1, 1) := by decide +kernel
theorem dX12_asked_157 : decode cX12_asked 157 = .ok (.iaload, 1) := by decide +kernel
theorem dX12_asked_158 : decode cX12_asked 158 = .ok (.iastore, 1) := by decide +kernel
theorem dX12_asked_159 : decode cX12_asked 159 = .ok (.aload_n 0, 1) := by decide +kernel
theorem dX12_asked_160 : decode cX12_asked 160 = .ok (.iconst 1, 1) := by decide +kernel
theorem dX12_asked_161 : decode cX12_asked 161 = .ok (.iload_n 1, 1) := by decide +kernel
theorem dX12_asked_162 : decode cX12_asked 162 = .ok (.iload_n 2, 1) := by decide +kernel
theorem dX12_asked_163 : decode cX12_asked 163 = .ok (.aload_n 0, 1) := by decide +kernel
theorem dX12_asked_164 : decode cX12_asked 164 = .ok (.getfield 32, 3) := by decide +kernel
theorem dX12_asked_167 : decode cX12_asked 167 = .ok (.iload_n 1, 1) := by decide +kernel
theorem dX12_asked_168 : decode cX12_asked 168 = .ok (.iaload, 1) := by decide +kernel
theorem dX12_asked_169 : decode cX12_asked 169 = .ok (.invokevirtual 229, 3) := by decide +kernel
theorem dX12_asked_172 : decode cX12_asked 172 = .ok (.istore 7, 2) := by decide +kernel
theorem dX12_asked_174 : decode cX12_asked 174 = .ok (.iload 7, 2) := by decide +kernel
theorem dX12_asked_176 : decode cX12_asked 176 = .ok (.iconst (-1), 1) := by decide +kernel
theorem dX12_asked_177 : decode cX12_asked 177 = .ok (.if_icmp .eq 23, 3) := by decide +kernel
theorem dX12_asked_180 : decode cX12_asked 180 = .ok (.aload_n 0, 1) := by decide +kernel
theorem dX12_asked_181 : decode cX12_asked 181 = .ok (.getfield 117, 3) := by decide +kernel
theorem dX12_asked_184 : decode cX12_asked 184 = .ok (.iload 7, 2) := by decide +kernel
theorem dX12_asked_186 : decode cX12_asked 186 = .ok (.bipush 7, 2) := by decide +kernel
theorem dX12_asked_188 : decode cX12_asked 188 = .ok (.iadd, 1) := by decide +kernel
theorem dX12_asked_189 : decode cX12_asked 189 = .ok (.iload 6, 2) := by decide +kernel
theorem dX12_asked_191 : decode cX12_asked 191 = .ok (.ifCond .eq 7, 3) := by decide +kernel
theorem dX12_asked_194 : decode cX12_asked 194 = .ok (.iconst 1, 1) := by decide +kernel
theorem dX12_asked_195 : decode cX12_asked 195 = .ok (.goto 4, 3) := by decide +kernel
theorem dX12_asked_198 : decode cX12_asked 198 = .ok (.iconst 0, 1) := by decide +kernel
theorem dX12_asked_199 : decode cX12_asked 199 = .ok (.iastore, 1) := by decide +kernel
theorem dX12_asked_200 : decode cX12_asked 200 = .ok (.return_, 1) := by decide +kernel
theorem dX12_voted_0 : decode cX12_voted 0 = .ok (.aload_n 0, 1) := by decide +kernel
theorem dX12_voted_1 : decode cX12_voted 1 = .ok (.getfield 39, 3) := by decide +kernel
theorem dX12_voted_4 : decode cX12_voted 4 = .ok (.iload_n 1, 1) := by decide +kernel
theorem dX12_voted_5 : decode cX12_voted 5 = .ok (.iaload, 1) := by decide +kernel
theorem dX12_voted_6 : decode cX12_voted 6 = .ok (.iconst 1, 1) := by decide +kernel
theorem dX12_voted_7 : decode cX12_voted 7 = .ok (.if_icmp .ne 28, 3) := by decide +kernel
theorem dX12_voted_10 : decode cX12_voted 10 = .ok (.aload_n 0, 1) := by decide +kernel
theorem dX12_voted_11 : decode cX12_voted 11 = .ok (.getfield 144, 3) := by decide +kernel
theorem dX12_voted_14 : decode cX12_voted 14 = .ok (.iconst 3, 1) := by decide +kernel
theorem dX12_voted_15 : decode cX12_voted 15 = .ok (.iaload, 1) := by decide +kernel
theorem dX12_voted_16 : decode cX12_voted 16 = .ok (.aload_n 0, 1) := by decide +kernel
theorem dX12_voted_17 : decode cX12_voted 17 = .ok (.getfield 32, 3) := by decide +kernel
theorem dX12_voted_20 : decode cX12_voted 20 = .ok (.iload_n 1, 1) := by decide +kernel
theorem dX12_voted_21 : decode cX12_voted 21 = .ok (.iaload, 1) := by decide +kernel
theorem dX12_voted_22 : decode cX12_voted 22 = .ok (.if_icmp .ne 13, 3) := by decide +kernel
theorem dX12_voted_25 : decode cX12_voted 25 = .ok (.aload_n 0, 1) := by decide +kernel
theorem dX12_voted_26 : decode cX12_voted 26 = .ok (.getfield 144, 3) := by decide +kernel
theorem dX12_voted_29 : decode cX12_voted 29 = .ok (.bipush 7, 2) := by decide +kernel
theorem dX12_voted_31 : decode cX12_voted 31 = .ok (.iaload, 1) := by decide +kernel
theorem dX12_voted_32 : decode cX12_voted 32 = .ok (.ifCond .ne 4, 3) := by decide +kernel
theorem dX12_voted_35 : decode cX12_voted 35 = .ok (.return_, 1) := by decide +kernel
theorem dX12_voted_36 : decode cX12_voted 36 = .ok (.aload_n 0, 1) := by decide +kernel
theorem dX12_voted_37 : decode cX12_voted 37 = .ok (.getfield 60, 3) := by decide +kernel
theorem dX12_voted_40 : decode cX12_voted 40 = .ok (.iload_n 1, 1) := by decide +kernel
theorem dX12_voted_41 : decode cX12_voted 41 = .ok (.dup2, 1) := by decide +kernel
theorem dX12_voted_42 : decode cX12_voted 42 = .ok (.iaload, 1) := by decide +kernel
theorem dX12_voted_43 : decode cX12_voted 43 = .ok (.iconst 1, 1) := by decide +kernel
theorem dX12_voted_44 : decode cX12_voted 44 = .ok (.aload_n 0, 1) := by decide +kernel
theorem dX12_voted_45 : decode cX12_voted 45 = .ok (.getfield 144, 3) := by decide +kernel
theorem dX12_voted_48 : decode cX12_voted 48 = .ok (.iconst 1, 1) := by decide +kernel
theorem dX12_voted_49 : decode cX12_voted 49 = .ok (.iaload, 1) := by decide +kernel
theorem dX12_voted_50 : decode cX12_voted 50 = .ok (.ishl, 1) := by decide +kernel
theorem dX12_voted_51 : decode cX12_voted 51 = .ok (.ior, 1) := by decide +kernel
theorem dX12_voted_52 : decode cX12_voted 52 = .ok (.iastore, 1) := by decide +kernel
theorem dX12_voted_53 : decode cX12_voted 53 = .ok (.aload_n 0, 1) := by decide +kernel
theorem dX12_voted_54 : decode cX12_voted 54 = .ok (.getfield 60, 3) := by decide +kernel
theorem dX12_voted_57 : decode cX12_voted 57 = .ok (.iload_n 1, 1) := by decide +kernel
theorem dX12_voted_58 : decode cX12_voted 58 = .ok (.iaload, 1) := by decide +kernel
theorem dX12_voted_59 : decode cX12_voted 59 = .ok (.invokestatic 237, 3) := by decide +kernel
theorem dX12_voted_62 : decode cX12_voted 62 = .ok (.aload_n 0, 1) := by decide +kernel
theorem dX12_voted_63 : decode cX12_voted 63 = .ok (.invokevirtual 241, 3) := by decide +kernel
theorem dX12_voted_66 : decode cX12_voted 66 = .ok (.if_icmp .lt 68, 3) := by decide +kernel
theorem dX12_voted_69 : decode cX12_voted 69 = .ok (.aload_n 0, 1) := by decide +kernel
theorem dX12_voted_70 : decode cX12_voted 70 = .ok (.getfield 39, 3) := by decide +kernel
theorem dX12_voted_73 : decode cX12_voted 73 = .ok (.iload_n 1, 1) := by decide +kernel
theorem dX12_voted_74 : decode cX12_voted 74 = .ok (.iconst 2, 1) := by decide +kernel
theorem dX12_voted_75 : decode cX12_voted 75 = .ok (.iastore, 1) := by decide +kernel
theorem dX12_voted_76 : decode cX12_voted 76 = .ok (.aload_n 0, 1) := by decide +kernel
theorem dX12_voted_77 : decode cX12_voted 77 = .ok (.getfield 75, 3) := by decide +kernel
theorem dX12_voted_80 : decode cX12_voted 80 = .ok (.iload_n 1, 1) := by decide +kernel
theorem dX12_voted_81 : decode cX12_voted 81 = .ok (.iconst 0, 1) := by decide +kernel
theorem dX12_voted_82 : decode cX12_voted 82 = .ok (.bastore, 1) := by decide +kernel
theorem dX12_voted_83 : decode cX12_voted 83 = .ok (.iconst 0, 1) := by decide +kernel
theorem dX12_voted_84 : decode cX12_voted 84 = .ok (.istore_n 2, 1) := by decide +kernel
theorem dX12_voted_85 : decode cX12_voted 85 = .ok (.iload_n 2, 1) := by decide +kernel
theorem dX12_voted_86 : decode cX12_voted 86 = .ok (.iconst 5, 1) := by decide +kernel
theorem dX12_voted_87 : decode cX12_voted 87 = .ok (.if_icmp .ge 47, 3) := by decide +kernel
theorem dX12_voted_90 : decode cX12_voted 90 = .ok (.aload_n 0, 1) := by decide +kernel
theorem dX12_voted_91 : decode cX12_voted 91 = .ok (.getfield 63, 3) := by decide +kernel
theorem dX12_voted_94 : decode cX12_voted 94 = .ok (.iconst 5, 1) := by decide +kernel
theorem dX12_voted_95 : decode cX12_voted 95 = .ok (.iload_n 1, 1) := by decide +kernel
theorem dX12_voted_96 : decode cX12_voted 96 = .ok (.imul, 1) := by decide +kernel
theorem dX12_voted_97 : decode cX12_voted 97 = .ok (.iload_n 2, 1) := by decide +kernel
theorem dX12_voted_98 : decode cX12_voted 98 = .ok (.iadd, 1) := by decide +kernel
theorem dX12_voted_99 : decode cX12_voted 99 = .ok (.aload_n 0, 1) := by decide +kernel
theorem dX12_voted_100 : decode cX12_voted 100 = .ok (.getfield 42, 3) := by decide +kernel
theorem dX12_voted_103 : decode cX12_voted 103 = .ok (.iload_n 1, 1) := by decide +kernel
theorem dX12_voted_104 : decode cX12_voted 104 = .ok (.iaload, 1) := by decide +kernel
theorem dX12_voted_105 : decode cX12_voted 105 = .ok (.iastore, 1) := by decide +kernel
theorem dX12_voted_106 : decode cX12_voted 106 = .ok (.aload_n 0, 1) := by decide +kernel
theorem dX12_voted_107 : decode cX12_voted 107 = .ok (.getfield 66, 3) := by decide +kernel
theorem dX12_voted_110 : decode cX12_voted 110 = .ok (.iconst 5, 1) := by decide +kernel
theorem dX12_voted_111 : decode cX12_voted 111 = .ok (.iload_n 1, 1) := by decide +kernel
theorem dX12_voted_112 : decode cX12_voted 112 = .ok (.imul, 1) := by decide +kernel
theorem dX12_voted_113 : decode cX12_voted 113 = .ok (.iload_n 2, 1) := by decide +kernel
theorem dX12_voted_114 : decode cX12_voted 114 = .ok (.iadd, 1) := by decide +kernel
theorem dX12_voted_115 : decode cX12_voted 115 = .ok (.iconst 0, 1) := by decide +kernel
theorem dX12_voted_116 : decode cX12_voted 116 = .ok (.iastore, 1) := by decide +kernel
theorem dX12_voted_117 : decode cX12_voted 117 = .ok (.aload_n 0, 1) := by decide +kernel
theorem dX12_voted_118 : decode cX12_voted 118 = .ok (.getfield 69, 3) := by decide +kernel
theorem dX12_voted_121 : decode cX12_voted 121 = .ok (.iconst 5, 1) := by decide +kernel
theorem dX12_voted_122 : decode cX12_voted 122 = .ok (.iload_n 1, 1) := by decide +kernel
theorem dX12_voted_123 : decode cX12_voted 123 = .ok (.imul, 1) := by decide +kernel
theorem dX12_voted_124 : decode cX12_voted 124 = .ok (.iload_n 2, 1) := by decide +kernel
theorem dX12_voted_125 : decode cX12_voted 125 = .ok (.iadd, 1) := by decide +kernel
theorem dX12_voted_126 : decode cX12_voted 126 = .ok (.iconst 0, 1) := by decide +kernel
theorem dX12_voted_127 : decode cX12_voted 127 = .ok (.bastore, 1) := by decide +kernel
theorem dX12_voted_128 : decode cX12_voted 128 = .ok (.iinc 2 1, 3) := by decide +kernel
theorem dX12_voted_131 : decode cX12_voted 131 = .ok (.goto (-46), 3) := by decide +kernel
theorem dX12_voted_134 : decode cX12_voted 134 = .ok (.return_, 1) := by decide +kernel
theorem dX12_beat_0 : decode cX12_beat 0 = .ok (.aload_n 0, 1) := by decide +kernel
theorem dX12_beat_1 : decode cX12_beat 1 = .ok (.iload_n 1, 1) := by decide +kernel
theorem dX12_beat_2 : decode cX12_beat 2 = .ok (.invokevirtual 181, 3) := by decide +kernel
theorem dX12_beat_5 : decode cX12_beat 5 = .ok (.istore_n 2, 1) := by decide +kernel
theorem dX12_beat_6 : decode cX12_beat 6 = .ok (.aload_n 0, 1) := by decide +kernel
theorem dX12_beat_7 : decode cX12_beat 7 = .ok (.iload_n 2, 1) := by decide +kernel
theorem dX12_beat_8 : decode cX12_beat 8 = .ok (.iload_n 2, 1) := by decide +kernel
theorem dX12_beat_9 : decode cX12_beat 9 = .ok (.ifCond .eq 26, 3) := by decide +kernel
theorem dX12_beat_12 : decode cX12_beat 12 = .ok (.aload_n 0, 1) := by decide +kernel
theorem dX12_beat_13 : decode cX12_beat 13 = .ok (.getfield 18, 3) := by decide +kernel
theorem dX12_beat_16 : decode cX12_beat 16 = .ok (.iload_n 1, 1) := by decide +kernel
theorem dX12_beat_17 : decode cX12_beat 17 = .ok (.baload, 1) := by decide +kernel
theorem dX12_beat_18 : decode cX12_beat 18 = .ok (.ifCond .eq 17, 3) := by decide +kernel
theorem dX12_beat_21 : decode cX12_beat 21 = .ok (.aload_n 0, 1) := by decide +kernel
theorem dX12_beat_22 : decode cX12_beat 22 = .ok (.getfield 39, 3) := by decide +kernel
theorem dX12_beat_25 : decode cX12_beat 25 = .ok (.iload_n 1, 1) := by decide +kernel
theorem dX12_beat_26 : decode cX12_beat 26 = .ok (.iaload, 1) := by decide +kernel
theorem dX12_beat_27 : decode cX12_beat 27 = .ok (.iconst 2, 1) := by decide +kernel
theorem dX12_beat_28 : decode cX12_beat 28 = .ok (.if_icmp .ne 7, 3) := by decide +kernel
theorem dX12_beat_31 : decode cX12_beat 31 = .ok (.iconst 1, 1) := by decide +kernel
theorem dX12_beat_32 : decode cX12_beat 32 = .ok (.goto 4, 3) := by decide +kernel
theorem dX12_beat_35 : decode cX12_beat 35 = .ok (.iconst 0, 1) := by decide +kernel
theorem dX12_beat_36 : decode cX12_beat 36 = .ok (.iconst 1, 1) := by decide +kernel
theorem dX12_beat_37 : decode cX12_beat 37 = .ok (.invokevirtual 173, 3) := by decide +kernel
theorem dX12_beat_40 : decode cX12_beat 40 = .ok (.ifCond .ne 5, 3) := by decide +kernel
theorem dX12_beat_43 : decode cX12_beat 43 = .ok (.iconst 0, 1) := by decide +kernel
theorem dX12_beat_44 : decode cX12_beat 44 = .ok (.ireturn, 1) := by decide +kernel
theorem dX12_beat_45 : decode cX12_beat 45 = .ok (.aload_n 0, 1) := by decide +kernel
theorem dX12_beat_46 : decode cX12_beat 46 = .ok (.dup, 1) := by decide +kernel
theorem dX12_beat_47 : decode cX12_beat 47 = .ok (.getfield 164, 3) := by decide +kernel
theorem dX12_beat_50 : decode cX12_beat 50 = .ok (.iconst 1, 1) := by decide +kernel
theorem dX12_beat_51 : decode cX12_beat 51 = .ok (.iadd, 1) := by decide +kernel
theorem dX12_beat_52 : decode cX12_beat 52 = .ok (.putfield 164, 3) := by decide +kernel
theorem dX12_beat_55 : decode cX12_beat 55 = .ok (.iload_n 1, 1) := by decide +kernel
theorem dX12_beat_56 : decode cX12_beat 56 = .ok (.istore_n 3, 1) := by decide +kernel
theorem dX12_beat_57 : decode cX12_beat 57 = .ok (.iconst 0, 1) := by decide +kernel
theorem dX12_beat_58 : decode cX12_beat 58 = .ok (.istore 4, 2) := by decide +kernel
theorem dX12_beat_60 : decode cX12_beat 60 = .ok (.iconst 0, 1) := by decide +kernel
theorem dX12_beat_61 : decode cX12_beat 61 = .ok (.istore 5, 2) := by decide +kernel
theorem dX12_beat_63 : decode cX12_beat 63 = .ok (.iload 5, 2) := by decide +kernel
theorem dX12_beat_65 : decode cX12_beat 65 = .ok (.aload_n 0, 1) := by decide +kernel
theorem dX12_beat_66 : decode cX12_beat 66 = .ok (.getfield 7, 3) := by decide +kernel
theorem dX12_beat_69 : decode cX12_beat 69 = .ok (.if_icmp .ge 272, 3) := by decide +kernel
theorem dX12_beat_72 : decode cX12_beat 72 = .ok (.iload 5, 2) := by decide +kernel
theorem dX12_beat_74 : decode cX12_beat 74 = .ok (.iload_n 3, 1) := by decide +kernel
theorem dX12_beat_75 : decode cX12_beat 75 = .ok (.if_icmp .eq 260, 3) := by decide +kernel
theorem dX12_beat_78 : decode cX12_beat 78 = .ok (.aload_n 0, 1) := by decide +kernel
theorem dX12_beat_79 : decode cX12_beat 79 = .ok (.getfield 63, 3) := by decide +kernel
theorem dX12_beat_82 : decode cX12_beat 82 = .ok (.iconst 5, 1) := by decide +kernel
theorem dX12_beat_83 : decode cX12_beat 83 = .ok (.iload_n 3, 1) := by decide +kernel
theorem dX12_beat_84 : decode cX12_beat 84 = .ok (.imul, 1) := by decide +kernel
theorem dX12_beat_85 : decode cX12_beat 85 = .ok (.iload 5, 2) := by decide +kernel
theorem dX12_beat_87 : decode cX12_beat 87 = .ok (.iadd, 1) := by decide +kernel
theorem dX12_beat_88 : decode cX12_beat 88 = .ok (.iaload, 1) := by decide +kernel
theorem dX12_beat_89 : decode cX12_beat 89 = .ok (.istore 6, 2) := by decide +kernel
theorem dX12_beat_91 : decode cX12_beat 91 = .ok (.aload_n 0, 1) := by decide +kernel
theorem dX12_beat_92 : decode cX12_beat 92 = .ok (.getfield 42, 3) := by decide +kernel
theorem dX12_beat_95 : decode cX12_beat 95 = .ok (.iload_n 3, 1) := by decide +kernel
theorem dX12_beat_96 : decode cX12_beat 96 = .ok (.iaload, 1) := by decide +kernel
theorem dX12_beat_97 : decode cX12_beat 97 = .ok (.iload 6, 2) := by decide +kernel
theorem dX12_beat_99 : decode cX12_beat 99 = .ok (.isub, 1) := by decide +kernel
theorem dX12_beat_100 : decode cX12_beat 100 = .ok (.iconst 3, 1) := by decide +kernel
theorem dX12_beat_101 : decode cX12_beat 101 = .ok (.if_icmp .le 7, 3) := by decide +kernel
theorem dX12_beat_104 : decode cX12_beat 104 = .ok (.iconst 3, 1) := by decide +kernel
theorem dX12_beat_105 : decode cX12_beat 105 = .ok (.goto 12, 3) := by decide +kernel
theorem dX12_beat_108 : decode cX12_beat 108 = .ok (.aload_n 0, 1) := by decide +kernel
theorem dX12_beat_109 : decode cX12_beat 109 = .ok (.getfield 42, 3) := by decide +kernel
theorem dX12_beat_112 : decode cX12_beat 112 = .ok (.iload_n 3, 1) := by decide +kernel
theorem dX12_beat_113 : decode cX12_beat 113 = .ok (.iaload, 1) := by decide +kernel
theorem dX12_beat_114 : decode cX12_beat 114 = .ok (.iload 6, 2) := by decide +kernel
theorem dX12_beat_116 : decode cX12_beat 116 = .ok (.isub, 1) := by decide +kernel
theorem dX12_beat_117 : decode cX12_beat 117 = .ok (.istore 7, 2) := by decide +kernel
theorem dX12_beat_119 : decode cX12_beat 119 = .ok (.aload_n 0, 1) := by decide +kernel
theorem dX12_beat_120 : decode cX12_beat 120 = .ok (.iconst 2, 1) := by decide +kernel
theorem dX12_beat_121 : decode cX12_beat 121 = .ok (.iload_n 3, 1) := by decide +kernel
theorem dX12_beat_122 : decode cX12_beat 122 = .ok (.iload 5, 2) := by decide +kernel
theorem dX12_beat_124 : decode cX12_beat 124 = .ok (.aload_n 0, 1) := by decide +kernel
theorem dX12_beat_125 : decode cX12_beat 125 = .ok (.getfield 32, 3) := by decide +kernel
theorem dX12_beat_128 : decode cX12_beat 128 = .ok (.iload_n 3, 1) := by decide +kernel
theorem dX12_beat_129 : decode cX12_beat 129 = .ok (.iaload, 1) := by decide +kernel
theorem dX12_beat_130 : decode cX12_beat 130 = .ok (.invokevirtual 229, 3) := by decide +kernel
theorem dX12_beat_133 : decode cX12_beat 133 = .ok (.istore 8, 2) := by decide +kernel
theorem dX12_beat_135 : decode cX12_beat 135 = .ok (.iload 4, 2) := by decide +kernel
theorem dX12_beat_137 : decode cX12_beat 137 = .ok (.iload 7, 2) := by decide +kernel
theorem dX12_beat_139 : decode cX12_beat 139 = .ok (.iadd, 1) := by decide +kernel
theorem dX12_beat_140 : decode cX12_beat 140 = .ok (.istore 4, 2) := by decide +kernel
theorem dX12_beat_142 : decode cX12_beat 142 = .ok (.iload 8, 2) := by decide +kernel
theorem dX12_beat_144 : decode cX12_beat 144 = .ok (.iconst (-1), 1) := by decide +kernel
theorem dX12_beat_145 : decode cX12_beat 145 = .ok (.if_icmp .eq 190, 3) := by decide +kernel
theorem dX12_beat_148 : decode cX12_beat 148 = .ok (.aload_n 0, 1) := by decide +kernel
theorem dX12_beat_149 : decode cX12_beat 149 = .ok (.getfield 120, 3) := by decide +kernel
theorem dX12_beat_152 : decode cX12_beat 152 = .ok (.iload 8, 2) := by decide +kernel
theorem dX12_beat_154 : decode cX12_beat 154 = .ok (.bipush 24, 2) := by decide +kernel
theorem dX12_beat_156 : decode cX12_beat 156 = .ok (.idiv, 1) := by decide +kernel
theorem dX12_beat_157 : decode cX12_beat 157 = .ok (.aload_n 0, 1) := by decide +kernel
theorem dX12_beat_158 : decode cX12_beat 158 = .ok (.getfield 25, 3) := by decide +kernel
theorem dX12_beat_161 : decode cX12_beat 161 = .ok (.iload_n 3, 1) := by decide +kernel
theorem dX12_beat_162 : decode cX12_beat 162 = .ok (.faload, 1) := by decide +kernel
theorem dX12_beat_163 : decode cX12_beat 163 = .ok (.fastore, 1) := by decide +kernel
theorem dX12_beat_164 : decode cX12_beat 164 = .ok (.aload_n 0, 1) := by decide +kernel
theorem dX12_beat_165 : decode cX12_beat 165 = .ok (.getfield 117, 3) := by decide +kernel
theorem dX12_beat_168 : decode cX12_beat 168 = .ok (.iload 8, 2) := by decide +kernel
theorem dX12_beat_170 : decode cX12_beat 170 = .ok (.iconst 4, 1) := by decide +kernel
theorem dX12_beat_171 : decode cX12_beat 171 = .ok (.iadd, 1) := by decide +kernel
theorem dX12_beat_172 : decode cX12_beat 172 = .ok (.iload 6, 2) := by decide +kernel
theorem dX12_beat_174 : decode cX12_beat 174 = .ok (.iastore, 1) := by decide +kernel
theorem dX12_beat_175 : decode cX12_beat 175 = .ok (.aload_n 0, 1) := by decide +kernel
theorem dX12_beat_176 : decode cX12_beat 176 = .ok (.getfield 117, 3) := by decide +kernel
theorem dX12_beat_179 : decode cX12_beat 179 = .ok (.iload 8, 2) := by decide +kernel
theorem dX12_beat_181 : decode cX12_beat 181 = .ok (.iconst 5, 1) := by decide +kernel
theorem dX12_beat_182 : decode cX12_beat 182 = .ok (.iadd, 1) := by decide +kernel
theorem dX12_beat_183 : decode cX12_beat 183 = .ok (.aload_n 0, 1) := by decide +kernel
theorem dX12_beat_184 : decode cX12_beat 184 = .ok (.iload_n 3, 1) := by decide +kernel
theorem dX12_beat_185 : decode cX12_beat 185 = .ok (.iload 6, 2) := by decide +kernel
theorem dX12_beat_187 : decode cX12_beat 187 = .ok (.invokevirtual 233, 3) := by decide +kernel
theorem dX12_beat_190 : decode cX12_beat 190 = .ok (.iastore, 1) := by decide +kernel
theorem dX12_beat_191 : decode cX12_beat 191 = .ok (.aload_n 0, 1) := by decide +kernel
theorem dX12_beat_192 : decode cX12_beat 192 = .ok (.getfield 117, 3) := by decide +kernel
theorem dX12_beat_195 : decode cX12_beat 195 = .ok (.iload 8, 2) := by decide +kernel
theorem dX12_beat_197 : decode cX12_beat 197 = .ok (.bipush 6, 2) := by decide +kernel
theorem dX12_beat_199 : decode cX12_beat 199 = .ok (.iadd, 1) := by decide +kernel
theorem dX12_beat_200 : decode cX12_beat 200 = .ok (.aload_n 0, 1) := by decide +kernel
theorem dX12_beat_201 : decode cX12_beat 201 = .ok (.getfield 45, 3) := by decide +kernel
theorem dX12_beat_204 : decode cX12_beat 204 = .ok (.iload_n 3, 1) := by decide +kernel
theorem dX12_beat_205 : decode cX12_beat 205 = .ok (.iaload, 1) := by decide +kernel
theorem dX12_beat_206 : decode cX12_beat 206 = .ok (.iastore, 1) := by decide +kernel
theorem dX12_beat_207 : decode cX12_beat 207 = .ok (.aload_n 0, 1) := by decide +kernel
theorem dX12_beat_208 : decode cX12_beat 208 = .ok (.getfield 117, 3) := by decide +kernel
theorem dX12_beat_211 : decode cX12_beat 211 = .ok (.iload 8, 2) := by decide +kernel
theorem dX12_beat_213 : decode cX12_beat 213 = .ok (.bipush 8, 2) := by decide +kernel
theorem dX12_beat_215 : decode cX12_beat 215 = .ok (.iadd, 1) := by decide +kernel
theorem dX12_beat_216 : decode cX12_beat 216 = .ok (.iload 7, 2) := by decide +kernel
theorem dX12_beat_218 : decode cX12_beat 218 = .ok (.iastore, 1) := by decide +kernel
theorem dX12_beat_219 : decode cX12_beat 219 = .ok (.iconst 0, 1) := by decide +kernel
theorem dX12_beat_220 : decode cX12_beat 220 = .ok (.istore 9, 2) := by decide +kernel
theorem dX12_beat_222 : decode cX12_beat 222 = .ok (.iload 9, 2) := by decide +kernel
theorem dX12_beat_224 : decode cX12_beat 224 = .ok (.iload 7, 2) := by decide +kernel
theorem dX12_beat_226 : decode cX12_beat 226 = .ok (.if_icmp .ge 109, 3) := by decide +kernel
theorem dX12_beat_229 : decode cX12_beat 229 = .ok (.bipush 30, 2) := by decide +kernel
theorem dX12_beat_231 : decode cX12_beat 231 = .ok (.iload_n 3, 1) := by decide +kernel
theorem dX12_beat_232 : decode cX12_beat 232 = .ok (.imul, 1) := by decide +kernel
theorem dX12_beat_233 : decode cX12_beat 233 = .ok (.iload 6, 2) := by decide +kernel
theorem dX12_beat_235 : decode cX12_beat 235 = .ok (.iadd, 1) := by decide +kernel
theorem dX12_beat_236 : decode cX12_beat 236 = .ok (.iload 9, 2) := by decide +kernel
theorem dX12_beat_238 : decode cX12_beat 238 = .ok (.iadd, 1) := by decide +kernel
theorem dX12_beat_239 : decode cX12_beat 239 = .ok (.istore 10, 2) := by decide +kernel
theorem dX12_beat_241 : decode cX12_beat 241 = .ok (.aload_n 0, 1) := by decide +kernel
theorem dX12_beat_242 : decode cX12_beat 242 = .ok (.getfield 117, 3) := by decide +kernel
theorem dX12_beat_245 : decode cX12_beat 245 = .ok (.iload 8, 2) := by decide +kernel
theorem dX12_beat_247 : decode cX12_beat 247 = .ok (.bipush 10, 2) := by decide +kernel
theorem dX12_beat_249 : decode cX12_beat 249 = .ok (.iadd, 1) := by decide +kernel
theorem dX12_beat_250 : decode cX12_beat 250 = .ok (.iconst 4, 1) := by decide +kernel
theorem dX12_beat_251 : decode cX12_beat 251 = .ok (.iload 9, 2) := by decide +kernel
theorem dX12_beat_253 : decode cX12_beat 253 = .ok (.imul, 1) := by decide +kernel
theorem dX12_beat_254 : decode cX12_beat 254 = .ok (.iadd, 1) := by decide +kernel
theorem dX12_beat_255 : decode cX12_beat 255 = .ok (.aload_n 0, 1) := by decide +kernel
theorem dX12_beat_256 : decode cX12_beat 256 = .ok (.getfield 48, 3) := by decide +kernel
theorem dX12_beat_259 : decode cX12_beat 259 = .ok (.iload 10, 2) := by decide +kernel
theorem dX12_beat_261 : decode cX12_beat 261 = .ok (.iaload, 1) := by decide +kernel
theorem dX12_beat_262 : decode cX12_beat 262 = .ok (.iastore, 1) := by decide +kernel
theorem dX12_beat_263 : decode cX12_beat 263 = .ok (.aload_n 0, 1) := by decide +kernel
theorem dX12_beat_264 : decode cX12_beat 264 = .ok (.getfield 117, 3) := by decide +kernel
theorem dX12_beat_267 : decode cX12_beat 267 = .ok (.iload 8, 2) := by decide +kernel
theorem dX12_beat_269 : decode cX12_beat 269 = .ok (.bipush 11, 2) := by decide +kernel
theorem dX12_beat_271 : decode cX12_beat 271 = .ok (.iadd, 1) := by decide +kernel
theorem dX12_beat_272 : decode cX12_beat 272 = .ok (.iconst 4, 1) := by decide +kernel
theorem dX12_beat_273 : decode cX12_beat 273 = .ok (.iload 9, 2) := by decide +kernel
theorem dX12_beat_275 : decode cX12_beat 275 = .ok (.imul, 1) := by decide +kernel
theorem dX12_beat_276 : decode cX12_beat 276 = .ok (.iadd, 1) := by decide +kernel
theorem dX12_beat_277 : decode cX12_beat 277 = .ok (.aload_n 0, 1) := by decide +kernel
theorem dX12_beat_278 : decode cX12_beat 278 = .ok (.getfield 51, 3) := by decide +kernel
theorem dX12_beat_281 : decode cX12_beat 281 = .ok (.iload 10, 2) := by decide +kernel
theorem dX12_beat_283 : decode cX12_beat 283 = .ok (.iaload, 1) := by decide +kernel
theorem dX12_beat_284 : decode cX12_beat 284 = .ok (.iastore, 1) := by decide +kernel
theorem dX12_beat_285 : decode cX12_beat 285 = .ok (.aload_n 0, 1) := by decide +kernel
theorem dX12_beat_286 : decode cX12_beat 286 = .ok (.getfield 117, 3) := by decide +kernel
theorem dX12_beat_289 : decode cX12_beat 289 = .ok (.iload 8, 2) := by decide +kernel
theorem dX12_beat_291 : decode cX12_beat 291 = .ok (.bipush 12, 2) := by decide +kernel
theorem dX12_beat_293 : decode cX12_beat 293 = .ok (.iadd, 1) := by decide +kernel
theorem dX12_beat_294 : decode cX12_beat 294 = .ok (.iconst 4, 1) := by decide +kernel
theorem dX12_beat_295 : decode cX12_beat 295 = .ok (.iload 9, 2) := by decide +kernel
theorem dX12_beat_297 : decode cX12_beat 297 = .ok (.imul, 1) := by decide +kernel
theorem dX12_beat_298 : decode cX12_beat 298 = .ok (.iadd, 1) := by decide +kernel
theorem dX12_beat_299 : decode cX12_beat 299 = .ok (.aload_n 0, 1) := by decide +kernel
theorem dX12_beat_300 : decode cX12_beat 300 = .ok (.getfield 54, 3) := by decide +kernel
theorem dX12_beat_303 : decode cX12_beat 303 = .ok (.iload 10, 2) := by decide +kernel
theorem dX12_beat_305 : decode cX12_beat 305 = .ok (.iaload, 1) := by decide +kernel
theorem dX12_beat_306 : decode cX12_beat 306 = .ok (.iastore, 1) := by decide +kernel
theorem dX12_beat_307 : decode cX12_beat 307 = .ok (.aload_n 0, 1) := by decide +kernel
theorem dX12_beat_308 : decode cX12_beat 308 = .ok (.getfield 117, 3) := by decide +kernel
theorem dX12_beat_311 : decode cX12_beat 311 = .ok (.iload 8, 2) := by decide +kernel
theorem dX12_beat_313 : decode cX12_beat 313 = .ok (.bipush 13, 2) := by decide +kernel
theorem dX12_beat_315 : decode cX12_beat 315 = .ok (.iadd, 1) := by decide +kernel
theorem dX12_beat_316 : decode cX12_beat 316 = .ok (.iconst 4, 1) := by decide +kernel
theorem dX12_beat_317 : decode cX12_beat 317 = .ok (.iload 9, 2) := by decide +kernel
theorem dX12_beat_319 : decode cX12_beat 319 = .ok (.imul, 1) := by decide +kernel
theorem dX12_beat_320 : decode cX12_beat 320 = .ok (.iadd, 1) := by decide +kernel
theorem dX12_beat_321 : decode cX12_beat 321 = .ok (.aload_n 0, 1) := by decide +kernel
theorem dX12_beat_322 : decode cX12_beat 322 = .ok (.getfield 57, 3) := by decide +kernel
theorem dX12_beat_325 : decode cX12_beat 325 = .ok (.iload 10, 2) := by decide +kernel
theorem dX12_beat_327 : decode cX12_beat 327 = .ok (.iaload, 1) := by decide +kernel
theorem dX12_beat_328 : decode cX12_beat 328 = .ok (.iastore, 1) := by decide +kernel
theorem dX12_beat_329 : decode cX12_beat 329 = .ok (.iinc 9 1, 3) := by decide +kernel
theorem dX12_beat_332 : decode cX12_beat 332 = .ok (.goto (-110), 3) := by decide +kernel
theorem dX12_beat_335 : decode cX12_beat 335 = .ok (.iinc 5 1, 3) := by decide +kernel
theorem dX12_beat_338 : decode cX12_beat 338 = .ok (.goto (-275), 3) := by decide +kernel
theorem dX12_beat_341 : decode cX12_beat 341 = .ok (.aload_n 0, 1) := by decide +kernel
theorem dX12_beat_342 : decode cX12_beat 342 = .ok (.invokevirtual 187, 3) := by decide +kernel
theorem dX12_beat_345 : decode cX12_beat 345 = .ok (.iload 4, 2) := by decide +kernel
theorem dX12_beat_347 : decode cX12_beat 347 = .ok (.ireturn, 1) := by decide +kernel
theorem dX12_acks_0 : decode cX12_acks 0 = .ok (.aload_n 0, 1) := by decide +kernel
theorem dX12_acks_1 : decode cX12_acks 1 = .ok (.iconst 3, 1) := by decide +kernel
theorem dX12_acks_2 : decode cX12_acks 2 = .ok (.iload_n 1, 1) := by decide +kernel
theorem dX12_acks_3 : decode cX12_acks 3 = .ok (.iload_n 2, 1) := by decide +kernel
theorem dX12_acks_4 : decode cX12_acks 4 = .ok (.aload_n 0, 1) := by decide +kernel
theorem dX12_acks_5 : decode cX12_acks 5 = .ok (.getfield 32, 3) := by decide +kernel
theorem dX12_acks_8 : decode cX12_acks 8 = .ok (.iload_n 1, 1) := by decide +kernel
theorem dX12_acks_9 : decode cX12_acks 9 = .ok (.iaload, 1) := by decide +kernel
theorem dX12_acks_10 : decode cX12_acks 10 = .ok (.invokevirtual 229, 3) := by decide +kernel
theorem dX12_acks_13 : decode cX12_acks 13 = .ok (.istore 6, 2) := by decide +kernel
theorem dX12_acks_15 : decode cX12_acks 15 = .ok (.iload 6, 2) := by decide +kernel
theorem dX12_acks_17 : decode cX12_acks 17 = .ok (.iconst (-1), 1) := by decide +kernel
theorem dX12_acks_18 : decode cX12_acks 18 = .ok (.if_icmp .eq 45, 3) := by decide +kernel
theorem dX12_acks_21 : decode cX12_acks 21 = .ok (.aload_n 0, 1) := by decide +kernel
theorem dX12_acks_22 : decode cX12_acks 22 = .ok (.getfield 117, 3) := by decide +kernel
theorem dX12_acks_25 : decode cX12_acks 25 = .ok (.iload 6, 2) := by decide +kernel
theorem dX12_acks_27 : decode cX12_acks 27 = .ok (.iconst 4, 1) := by decide +kernel
theorem dX12_acks_28 : decode cX12_acks 28 = .ok (.iadd, 1) := by decide +kernel
theorem dX12_acks_29 : decode cX12_acks 29 = .ok (.iload 4, 2) := by decide +kernel
theorem dX12_acks_31 : decode cX12_acks 31 = .ok (.iastore, 1) := by decide +kernel
theorem dX12_acks_32 : decode cX12_acks 32 = .ok (.aload_n 0, 1) := by decide +kernel
theorem dX12_acks_33 : decode cX12_acks 33 = .ok (.getfield 117, 3) := by decide +kernel
theorem dX12_acks_36 : decode cX12_acks 36 = .ok (.iload 6, 2) := by decide +kernel
theorem dX12_acks_38 : decode cX12_acks 38 = .ok (.bipush 7, 2) := by decide +kernel
theorem dX12_acks_40 : decode cX12_acks 40 = .ok (.iadd, 1) := by decide +kernel
theorem dX12_acks_41 : decode cX12_acks 41 = .ok (.iload_n 3, 1) := by decide +kernel
theorem dX12_acks_42 : decode cX12_acks 42 = .ok (.ifCond .eq 7, 3) := by decide +kernel
theorem dX12_acks_45 : decode cX12_acks 45 = .ok (.iconst 1, 1) := by decide +kernel
theorem dX12_acks_46 : decode cX12_acks 46 = .ok (.goto 4, 3) := by decide +kernel
theorem dX12_acks_49 : decode cX12_acks 49 = .ok (.iconst 0, 1) := by decide +kernel
theorem dX12_acks_50 : decode cX12_acks 50 = .ok (.iastore, 1) := by decide +kernel
theorem dX12_acks_51 : decode cX12_acks 51 = .ok (.aload_n 0, 1) := by decide +kernel
theorem dX12_acks_52 : decode cX12_acks 52 = .ok (.getfield 120, 3) := by decide +kernel
theorem dX12_acks_55 : decode cX12_acks 55 = .ok (.iload 6, 2) := by decide +kernel
theorem dX12_acks_57 : decode cX12_acks 57 = .ok (.bipush 24, 2) := by decide +kernel
theorem dX12_acks_59 : decode cX12_acks 59 = .ok (.idiv, 1) := by decide +kernel
theorem dX12_acks_60 : decode cX12_acks 60 = .ok (.fload 5, 2) := by decide +kernel
theorem dX12_acks_62 : decode cX12_acks 62 = .ok (.fastore, 1) := by decide +kernel
theorem dX12_acks_63 : decode cX12_acks 63 = .ok (.return_, 1) := by decide +kernel
theorem dX12_appended_0 : decode cX12_appended 0 = .ok (.aload_n 0, 1) := by decide +kernel
theorem dX12_appended_1 : decode cX12_appended 1 = .ok (.getfield 144, 3) := by decide +kernel
theorem dX12_appended_4 : decode cX12_appended 4 = .ok (.iconst 1, 1) := by decide +kernel
theorem dX12_appended_5 : decode cX12_appended 5 = .ok (.iaload, 1) := by decide +kernel
theorem dX12_appended_6 : decode cX12_appended 6 = .ok (.istore_n 3, 1) := by decide +kernel
theorem dX12_appended_7 : decode cX12_appended 7 = .ok (.aload_n 0, 1) := by decide +kernel
theorem dX12_appended_8 : decode cX12_appended 8 = .ok (.getfield 144, 3) := by decide +kernel
theorem dX12_appended_11 : decode cX12_appended 11 = .ok (.iconst 3, 1) := by decide +kernel
theorem dX12_appended_12 : decode cX12_appended 12 = .ok (.iaload, 1) := by decide +kernel
theorem dX12_appended_13 : decode cX12_appended 13 = .ok (.aload_n 0, 1) := by decide +kernel
theorem dX12_appended_14 : decode cX12_appended 14 = .ok (.getfield 32, 3) := by decide +kernel
theorem dX12_appended_17 : decode cX12_appended 17 = .ok (.iload_n 1, 1) := by decide +kernel
theorem dX12_appended_18 : decode cX12_appended 18 = .ok (.iaload, 1) := by decide +kernel
theorem dX12_appended_19 : decode cX12_appended 19 = .ok (.if_icmp .ge 13, 3) := by decide +kernel
theorem dX12_appended_22 : decode cX12_appended 22 = .ok (.aload_n 0, 1) := by decide +kernel
theorem dX12_appended_23 : decode cX12_appended 23 = .ok (.iload_n 1, 1) := by decide +kernel
theorem dX12_appended_24 : decode cX12_appended 24 = .ok (.iload_n 3, 1) := by decide +kernel
theorem dX12_appended_25 : decode cX12_appended 25 = .ok (.iconst 0, 1) := by decide +kernel
theorem dX12_appended_26 : decode cX12_appended 26 = .ok (.iconst 0, 1) := by decide +kernel
theorem dX12_appended_27 : decode cX12_appended 27 = .ok (.fload_n 2, 1) := by decide +kernel
theorem dX12_appended_28 : decode cX12_appended 28 = .ok (.invokevirtual 245, 3) := by decide +kernel
theorem dX12_appended_31 : decode cX12_appended 31 = .ok (.return_, 1) := by decide +kernel
theorem dX12_appended_32 : decode cX12_appended 32 = .ok (.aload_n 0, 1) := by decide +kernel
theorem dX12_appended_33 : decode cX12_appended 33 = .ok (.iload_n 1, 1) := by decide +kernel
theorem dX12_appended_34 : decode cX12_appended 34 = .ok (.invokevirtual 184, 3) := by decide +kernel
theorem dX12_appended_37 : decode cX12_appended 37 = .ok (.aload_n 0, 1) := by decide +kernel
theorem dX12_appended_38 : decode cX12_appended 38 = .ok (.getfield 144, 3) := by decide +kernel
theorem dX12_appended_41 : decode cX12_appended 41 = .ok (.iconst 4, 1) := by decide +kernel
theorem dX12_appended_42 : decode cX12_appended 42 = .ok (.iaload, 1) := by decide +kernel
theorem dX12_appended_43 : decode cX12_appended 43 = .ok (.istore 4, 2) := by decide +kernel
theorem dX12_appended_45 : decode cX12_appended 45 = .ok (.iload 4, 2) := by decide +kernel
theorem dX12_appended_47 : decode cX12_appended 47 = .ok (.aload_n 0, 1) := by decide +kernel
theorem dX12_appended_48 : decode cX12_appended 48 = .ok (.getfield 42, 3) := by decide +kernel
theorem dX12_appended_51 : decode cX12_appended 51 = .ok (.iload_n 1, 1) := by decide +kernel
theorem dX12_appended_52 : decode cX12_appended 52 = .ok (.iaload, 1) := by decide +kernel
theorem dX12_appended_53 : decode cX12_appended 53 = .ok (.if_icmp .gt 19, 3) := by decide +kernel
theorem dX12_appended_56 : decode cX12_appended 56 = .ok (.aload_n 0, 1) := by decide +kernel
theorem dX12_appended_57 : decode cX12_appended 57 = .ok (.iload_n 1, 1) := by decide +kernel
theorem dX12_appended_58 : decode cX12_appended 58 = .ok (.iload 4, 2) := by decide +kernel
theorem dX12_appended_60 : decode cX12_appended 60 = .ok (.invokevirtual 233, 3) := by decide +kernel
theorem dX12_appended_63 : decode cX12_appended 63 = .ok (.aload_n 0, 1) := by decide +kernel
theorem dX12_appended_64 : decode cX12_appended 64 = .ok (.getfield 144, 3) := by decide +kernel
theorem dX12_appended_67 : decode cX12_appended 67 = .ok (.iconst 5, 1) := by decide +kernel
theorem dX12_appended_68 : decode cX12_appended 68 = .ok (.iaload, 1) := by decide +kernel
theorem dX12_appended_69 : decode cX12_appended 69 = .ok (.if_icmp .eq 38, 3) := by decide +kernel
theorem dX12_appended_72 : decode cX12_appended 72 = .ok (.aload_n 0, 1) := by decide +kernel
theorem dX12_appended_73 : decode cX12_appended 73 = .ok (.iload_n 1, 1) := by decide +kernel
theorem dX12_appended_74 : decode cX12_appended 74 = .ok (.iload_n 3, 1) := by decide +kernel
theorem dX12_appended_75 : decode cX12_appended 75 = .ok (.iconst 0, 1) := by decide +kernel
theorem dX12_appended_76 : decode cX12_appended 76 = .ok (.iload 4, 2) := by decide +kernel
theorem dX12_appended_78 : decode cX12_appended 78 = .ok (.iconst 1, 1) := by decide +kernel
theorem dX12_appended_79 : decode cX12_appended 79 = .ok (.isub, 1) := by decide +kernel
theorem dX12_appended_80 : decode cX12_appended 80 = .ok (.aload_n 0, 1) := by decide +kernel
theorem dX12_appended_81 : decode cX12_appended 81 = .ok (.getfield 42, 3) := by decide +kernel
theorem dX12_appended_84 : decode cX12_appended 84 = .ok (.iload_n 1, 1) := by decide +kernel
theorem dX12_appended_85 : decode cX12_appended 85 = .ok (.iaload, 1) := by decide +kernel
theorem dX12_appended_86 : decode cX12_appended 86 = .ok (.if_icmp .ge 10, 3) := by decide +kernel
theorem dX12_appended_89 : decode cX12_appended 89 = .ok (.iload 4, 2) := by decide +kernel
theorem dX12_appended_91 : decode cX12_appended 91 = .ok (.iconst 1, 1) := by decide +kernel
theorem dX12_appended_92 : decode cX12_appended 92 = .ok (.isub, 1) := by decide +kernel
theorem dX12_appended_93 : decode cX12_appended 93 = .ok (.goto 9, 3) := by decide +kernel
theorem dX12_appended_96 : decode cX12_appended 96 = .ok (.aload_n 0, 1) := by decide +kernel
theorem dX12_appended_97 : decode cX12_appended 97 = .ok (.getfield 42, 3) := by decide +kernel
theorem dX12_appended_100 : decode cX12_appended 100 = .ok (.iload_n 1, 1) := by decide +kernel
theorem dX12_appended_101 : decode cX12_appended 101 = .ok (.iaload, 1) := by decide +kernel
theorem dX12_appended_102 : decode cX12_appended 102 = .ok (.fload_n 2, 1) := by decide +kernel
theorem dX12_appended_103 : decode cX12_appended 103 = .ok (.invokevirtual 245, 3) := by decide +kernel
theorem dX12_appended_106 : decode cX12_appended 106 = .ok (.return_, 1) := by decide +kernel
theorem dX12_appended_107 : decode cX12_appended 107 = .ok (.aload_n 0, 1) := by decide +kernel
theorem dX12_appended_108 : decode cX12_appended 108 = .ok (.getfield 144, 3) := by decide +kernel
theorem dX12_appended_111 : decode cX12_appended 111 = .ok (.bipush 8, 2) := by decide +kernel
theorem dX12_appended_113 : decode cX12_appended 113 = .ok (.iaload, 1) := by decide +kernel
theorem dX12_appended_114 : decode cX12_appended 114 = .ok (.istore 5, 2) := by decide +kernel
theorem dX12_appended_116 : decode cX12_appended 116 = .ok (.iconst 0, 1) := by decide +kernel
theorem dX12_appended_117 : decode cX12_appended 117 = .ok (.istore 6, 2) := by decide +kernel
theorem dX12_appended_119 : decode cX12_appended 119 = .ok (.iconst 0, 1) := by decide +kernel
theorem dX12_appended_120 : decode cX12_appended 120 = .ok (.istore 7, 2) := by decide +kernel
theorem dX12_appended_122 : decode cX12_appended 122 = .ok (.iload 7, 2) := by decide +kernel
theorem dX12_appended_124 : decode cX12_appended 124 = .ok (.iload 5, 2) := by decide +kernel
theorem dX12_appended_126 : decode cX12_appended 126 = .ok (.if_icmp .ge 163, 3) := by decide +kernel
theorem dX12_appended_129 : decode cX12_appended 129 = .ok (.iload 4, 2) := by decide +kernel
theorem dX12_appended_131 : decode cX12_appended 131 = .ok (.iload 7, 2) := by decide +kernel
theorem dX12_appended_133 : decode cX12_appended 133 = .ok (.iadd, 1) := by decide +kernel
theorem dX12_appended_134 : decode cX12_appended 134 = .ok (.iconst 1, 1) := by decide +kernel
theorem dX12_appended_135 : decode cX12_appended 135 = .ok (.iadd, 1) := by decide +kernel
theorem dX12_appended_136 : decode cX12_appended 136 = .ok (.istore 8, 2) := by decide +kernel
theorem dX12_appended_138 : decode cX12_appended 138 = .ok (.iload 6, 2) := by decide +kernel
theorem dX12_appended_140 : decode cX12_appended 140 = .ok (.ifCond .ne 36, 3) := by decide +kernel
theorem dX12_appended_143 : decode cX12_appended 143 = .ok (.iload 8, 2) := by decide +kernel
theorem dX12_appended_145 : decode cX12_appended 145 = .ok (.aload_n 0, 1) := by decide +kernel
theorem dX12_appended_146 : decode cX12_appended 146 = .ok (.getfield 42, 3) := by decide +kernel
theorem dX12_appended_149 : decode cX12_appended 149 = .ok (.iload_n 1, 1) := by decide +kernel
theorem dX12_appended_150 : decode cX12_appended 150 = .ok (.iaload, 1) := by decide +kernel
theorem dX12_appended_151 : decode cX12_appended 151 = .ok (.if_icmp .gt 25, 3) := by decide +kernel
theorem dX12_appended_154 : decode cX12_appended 154 = .ok (.aload_n 0, 1) := by decide +kernel
theorem dX12_appended_155 : decode cX12_appended 155 = .ok (.iload_n 1, 1) := by decide +kernel
theorem dX12_appended_156 : decode cX12_appended 156 = .ok (.iload 8, 2) := by decide +kernel
theorem dX12_appended_158 : decode cX12_appended 158 = .ok (.invokevirtual 233, 3) := by decide +kernel
theorem dX12_appended_161 : decode cX12_appended 161 = .ok (.aload_n 0, 1) := by decide +kernel
theorem dX12_appended_162 : decode cX12_appended 162 = .ok (.getfield 144, 3) := by decide +kernel
theorem dX12_appended_165 : decode cX12_appended 165 = .ok (.bipush 10, 2) := by decide +kernel
theorem dX12_appended_167 : decode cX12_appended 167 = .ok (.iconst 4, 1) := by decide +kernel
theorem dX12_appended_168 : decode cX12_appended 168 = .ok (.iload 7, 2) := by decide +kernel
theorem dX12_appended_170 : decode cX12_appended 170 = .ok (.imul, 1) := by decide +kernel
theorem dX12_appended_171 : decode cX12_appended 171 = .ok (.iadd, 1) := by decide +kernel
theorem dX12_appended_172 : decode cX12_appended 172 = .ok (.iaload, 1) := by decide +kernel
theorem dX12_appended_173 : decode cX12_appended 173 = .ok (.if_icmp .eq 7, 3) := by decide +kernel
theorem dX12_appended_176 : decode cX12_appended 176 = .ok (.iconst 1, 1) := by decide +kernel
theorem dX12_appended_177 : decode cX12_appended 177 = .ok (.goto 4, 3) := by decide +kernel
theorem dX12_appended_180 : decode cX12_appended 180 = .ok (.iconst 0, 1) := by decide +kernel
theorem dX12_appended_181 : decode cX12_appended 181 = .ok (.istore 6, 2) := by decide +kernel
theorem dX12_appended_183 : decode cX12_appended 183 = .ok (.iload 6, 2) := by decide +kernel
theorem dX12_appended_185 : decode cX12_appended 185 = .ok (.ifCond .eq 98, 3) := by decide +kernel
theorem dX12_appended_188 : decode cX12_appended 188 = .ok (.bipush 30, 2) := by decide +kernel
theorem dX12_appended_190 : decode cX12_appended 190 = .ok (.iload_n 1, 1) := by decide +kernel
theorem dX12_appended_191 : decode cX12_appended 191 = .ok (.imul, 1) := by decide +kernel
theorem dX12_appended_192 : decode cX12_appended 192 = .ok (.iload 8, 2) := by decide +kernel
theorem dX12_appended_194 : decode cX12_appended 194 = .ok (.iadd, 1) := by decide +kernel
theorem dX12_appended_195 : decode cX12_appended 195 = .ok (.iconst 1, 1) := by decide +kernel
theorem dX12_appended_196 : decode cX12_appended 196 = .ok (.isub, 1) := by decide +kernel
theorem dX12_appended_197 : decode cX12_appended 197 = .ok (.istore 9, 2) := by decide +kernel
theorem dX12_appended_199 : decode cX12_appended 199 = .ok (.aload_n 0, 1) := by decide +kernel
theorem dX12_appended_200 : decode cX12_appended 200 = .ok (.getfield 48, 3) := by decide +kernel
theorem dX12_appended_203 : decode cX12_appended 203 = .ok (.iload 9, 2) := by decide +kernel
theorem dX12_appended_205 : decode cX12_appended 205 = .ok (.aload_n 0, 1) := by decide +kernel
theorem dX12_appended_206 : decode cX12_appended 206 = .ok (.getfield 144, 3) := by decide +kernel
theorem dX12_appended_209 : decode cX12_appended 209 = .ok (.bipush 10, 2) := by decide +kernel
theorem dX12_appended_211 : decode cX12_appended 211 = .ok (.iconst 4, 1) := by decide +kernel
theorem dX12_appended_212 : decode cX12_appended 212 = .ok (.iload 7, 2) := by decide +kernel
theorem dX12_appended_214 : decode cX12_appended 214 = .ok (.imul, 1) := by decide +kernel
theorem dX12_appended_215 : decode cX12_appended 215 = .ok (.iadd, 1) := by decide +kernel
theorem dX12_appended_216 : decode cX12_appended 216 = .ok (.iaload, 1) := by decide +kernel
theorem dX12_appended_217 : decode cX12_appended 217 = .ok (.iastore, 1) := by decide +kernel
theorem dX12_appended_218 : decode cX12_appended 218 = .ok (.aload_n 0, 1) := by decide +kernel
theorem dX12_appended_219 : decode cX12_appended 219 = .ok (.getfield 51, 3) := by decide +kernel
theorem dX12_appended_222 : decode cX12_appended 222 = .ok (.iload 9, 2) := by decide +kernel
theorem dX12_appended_224 : decode cX12_appended 224 = .ok (.aload_n 0, 1) := by decide +kernel
theorem dX12_appended_225 : decode cX12_appended 225 = .ok (.getfield 144, 3) := by decide +kernel
theorem dX12_appended_228 : decode cX12_appended 228 = .ok (.bipush 11, 2) := by decide +kernel
theorem dX12_appended_230 : decode cX12_appended 230 = .ok (.iconst 4, 1) := by decide +kernel
theorem dX12_appended_231 : decode cX12_appended 231 = .ok (.iload 7, 2) := by decide +kernel
theorem dX12_appended_233 : decode cX12_appended 233 = .ok (.imul, 1) := by decide +kernel
theorem dX12_appended_234 : decode cX12_appended 234 = .ok (.iadd, 1) := by decide +kernel
theorem dX12_appended_235 : decode cX12_appended 235 = .ok (.iaload, 1) := by decide +kernel
theorem dX12_appended_236 : decode cX12_appended 236 = .ok (.iastore, 1) := by decide +kernel
theorem dX12_appended_237 : decode cX12_appended 237 = .ok (.aload_n 0, 1) := by decide +kernel
theorem dX12_appended_238 : decode cX12_appended 238 = .ok (.getfield 54, 3) := by decide +kernel
theorem dX12_appended_241 : decode cX12_appended 241 = .ok (.iload 9, 2) := by decide +kernel
theorem dX12_appended_243 : decode cX12_appended 243 = .ok (.aload_n 0, 1) := by decide +kernel
theorem dX12_appended_244 : decode cX12_appended 244 = .ok (.getfield 144, 3) := by decide +kernel
theorem dX12_appended_247 : decode cX12_appended 247 = .ok (.bipush 12, 2) := by decide +kernel
theorem dX12_appended_249 : decode cX12_appended 249 = .ok (.iconst 4, 1) := by decide +kernel
theorem dX12_appended_250 : decode cX12_appended 250 = .ok (.iload 7, 2) := by decide +kernel
theorem dX12_appended_252 : decode cX12_appended 252 = .ok (.imul, 1) := by decide +kernel
theorem dX12_appended_253 : decode cX12_appended 253 = .ok (.iadd, 1) := by decide +kernel
theorem dX12_appended_254 : decode cX12_appended 254 = .ok (.iaload, 1) := by decide +kernel
theorem dX12_appended_255 : decode cX12_appended 255 = .ok (.iastore, 1) := by decide +kernel
theorem dX12_appended_256 : decode cX12_appended 256 = .ok (.aload_n 0, 1) := by decide +kernel
theorem dX12_appended_257 : decode cX12_appended 257 = .ok (.getfield 57, 3) := by decide +kernel
theorem dX12_appended_260 : decode cX12_appended 260 = .ok (.iload 9, 2) := by decide +kernel
theorem dX12_appended_262 : decode cX12_appended 262 = .ok (.aload_n 0, 1) := by decide +kernel
theorem dX12_appended_263 : decode cX12_appended 263 = .ok (.getfield 144, 3) := by decide +kernel
theorem dX12_appended_266 : decode cX12_appended 266 = .ok (.bipush 13, 2) := by decide +kernel
theorem dX12_appended_268 : decode cX12_appended 268 = .ok (.iconst 4, 1) := by decide +kernel
theorem dX12_appended_269 : decode cX12_appended 269 = .ok (.iload 7, 2) := by decide +kernel
theorem dX12_appended_271 : decode cX12_appended 271 = .ok (.imul, 1) := by decide +kernel
theorem dX12_appended_272 : decode cX12_appended 272 = .ok (.iadd, 1) := by decide +kernel
theorem dX12_appended_273 : decode cX12_appended 273 = .ok (.iaload, 1) := by decide +kernel
theorem dX12_appended_274 : decode cX12_appended 274 = .ok (.iastore, 1) := by decide +kernel
theorem dX12_appended_275 : decode cX12_appended 275 = .ok (.aload_n 0, 1) := by decide +kernel
theorem dX12_appended_276 : decode cX12_appended 276 = .ok (.getfield 42, 3) := by decide +kernel
theorem dX12_appended_279 : decode cX12_appended 279 = .ok (.iload_n 1, 1) := by decide +kernel
theorem dX12_appended_280 : decode cX12_appended 280 = .ok (.iload 8, 2) := by decide +kernel
theorem dX12_appended_282 : decode cX12_appended 282 = .ok (.iastore, 1) := by decide +kernel
theorem dX12_appended_283 : decode cX12_appended 283 = .ok (.iinc 7 1, 3) := by decide +kernel
theorem dX12_appended_286 : decode cX12_appended 286 = .ok (.goto (-164), 3) := by decide +kernel
theorem dX12_appended_289 : decode cX12_appended 289 = .ok (.aload_n 0, 1) := by decide +kernel
theorem dX12_appended_290 : decode cX12_appended 290 = .ok (.getfield 144, 3) := by decide +kernel
theorem dX12_appended_293 : decode cX12_appended 293 = .ok (.bipush 6, 2) := by decide +kernel
theorem dX12_appended_295 : decode cX12_appended 295 = .ok (.iaload, 1) := by decide +kernel
theorem dX12_appended_296 : decode cX12_appended 296 = .ok (.iload 4, 2) := by decide +kernel
theorem dX12_appended_298 : decode cX12_appended 298 = .ok (.iload 5, 2) := by decide +kernel
theorem dX12_appended_300 : decode cX12_appended 300 = .ok (.iadd, 1) := by decide +kernel
theorem dX12_appended_301 : decode cX12_appended 301 = .ok (.if_icmp .ge 13, 3) := by decide +kernel
theorem dX12_appended_304 : decode cX12_appended 304 = .ok (.aload_n 0, 1) := by decide +kernel
theorem dX12_appended_305 : decode cX12_appended 305 = .ok (.getfield 144, 3) := by decide +kernel
theorem dX12_appended_308 : decode cX12_appended 308 = .ok (.bipush 6, 2) := by decide +kernel
theorem dX12_appended_310 : decode cX12_appended 310 = .ok (.iaload, 1) := by decide +kernel
theorem dX12_appended_311 : decode cX12_appended 311 = .ok (.goto 8, 3) := by decide +kernel
theorem dX12_appended_314 : decode cX12_appended 314 = .ok (.iload 4, 2) := by decide +kernel
theorem dX12_appended_316 : decode cX12_appended 316 = .ok (.iload 5, 2) := by decide +kernel
theorem dX12_appended_318 : decode cX12_appended 318 = .ok (.iadd, 1) := by decide +kernel
theorem dX12_appended_319 : decode cX12_appended 319 = .ok (.istore 7, 2) := by decide +kernel
theorem dX12_appended_321 : decode cX12_appended 321 = .ok (.aload_n 0, 1) := by decide +kernel
theorem dX12_appended_322 : decode cX12_appended 322 = .ok (.getfield 45, 3) := by decide +kernel
theorem dX12_appended_325 : decode cX12_appended 325 = .ok (.iload_n 1, 1) := by decide +kernel
theorem dX12_appended_326 : decode cX12_appended 326 = .ok (.iload 7, 2) := by decide +kernel
theorem dX12_appended_328 : decode cX12_appended 328 = .ok (.aload_n 0, 1) := by decide +kernel
theorem dX12_appended_329 : decode cX12_appended 329 = .ok (.getfield 45, 3) := by decide +kernel
theorem dX12_appended_332 : decode cX12_appended 332 = .ok (.iload_n 1, 1) := by decide +kernel
theorem dX12_appended_333 : decode cX12_appended 333 = .ok (.iaload, 1) := by decide +kernel
theorem dX12_appended_334 : decode cX12_appended 334 = .ok (.if_icmp .le 8, 3) := by decide +kernel
theorem dX12_appended_337 : decode cX12_appended 337 = .ok (.iload 7, 2) := by decide +kernel
theorem dX12_appended_339 : decode cX12_appended 339 = .ok (.goto 9, 3) := by decide +kernel
theorem dX12_appended_342 : decode cX12_appended 342 = .ok (.aload_n 0, 1) := by decide +kernel
theorem dX12_appended_343 : decode cX12_appended 343 = .ok (.getfield 45, 3) := by decide +kernel
theorem dX12_appended_346 : decode cX12_appended 346 = .ok (.iload_n 1, 1) := by decide +kernel
theorem dX12_appended_347 : decode cX12_appended 347 = .ok (.iaload, 1) := by decide +kernel
theorem dX12_appended_348 : decode cX12_appended 348 = .ok (.iastore, 1) := by decide +kernel
theorem dX12_appended_349 : decode cX12_appended 349 = .ok (.aload_n 0, 1) := by decide +kernel
theorem dX12_appended_350 : decode cX12_appended 350 = .ok (.getfield 81, 3) := by decide +kernel
theorem dX12_appended_353 : decode cX12_appended 353 = .ok (.iload_n 1, 1) := by decide +kernel
theorem dX12_appended_354 : decode cX12_appended 354 = .ok (.iload_n 3, 1) := by decide +kernel
theorem dX12_appended_355 : decode cX12_appended 355 = .ok (.iastore, 1) := by decide +kernel
theorem dX12_appended_356 : decode cX12_appended 356 = .ok (.aload_n 0, 1) := by decide +kernel
theorem dX12_appended_357 : decode cX12_appended 357 = .ok (.getfield 84, 3) := by decide +kernel
theorem dX12_appended_360 : decode cX12_appended 360 = .ok (.iload_n 1, 1) := by decide +kernel
theorem dX12_appended_361 : decode cX12_appended 361 = .ok (.aload_n 0, 1) := by decide +kernel
theorem dX12_appended_362 : decode cX12_appended 362 = .ok (.getfield 25, 3) := by decide +kernel
theorem dX12_appended_365 : decode cX12_appended 365 = .ok (.iload_n 1, 1) := by decide +kernel
theorem dX12_appended_366 : decode cX12_appended 366 = .ok (.faload, 1) := by decide +kernel
theorem dX12_appended_367 : decode cX12_appended 367 = .ok (.aload_n 0, 1) := by decide +kernel
theorem dX12_appended_368 : decode cX12_appended 368 = .ok (.getfield 14, 3) := by decide +kernel
theorem dX12_appended_371 : decode cX12_appended 371 = .ok (.fadd, 1) := by decide +kernel
theorem dX12_appended_372 : decode cX12_appended 372 = .ok (.fastore, 1) := by decide +kernel
theorem dX12_appended_373 : decode cX12_appended 373 = .ok (.aload_n 0, 1) := by decide +kernel
theorem dX12_appended_374 : decode cX12_appended 374 = .ok (.iload_n 1, 1) := by decide +kernel
theorem dX12_appended_375 : decode cX12_appended 375 = .ok (.iload_n 3, 1) := by decide +kernel
theorem dX12_appended_376 : decode cX12_appended 376 = .ok (.iconst 1, 1) := by decide +kernel
theorem dX12_appended_377 : decode cX12_appended 377 = .ok (.iload 4, 2) := by decide +kernel
theorem dX12_appended_379 : decode cX12_appended 379 = .ok (.iload 5, 2) := by decide +kernel
theorem dX12_appended_381 : decode cX12_appended 381 = .ok (.iadd, 1) := by decide +kernel
theorem dX12_appended_382 : decode cX12_appended 382 = .ok (.fload_n 2, 1) := by decide +kernel
theorem dX12_appended_383 : decode cX12_appended 383 = .ok (.invokevirtual 245, 3) := by decide +kernel
theorem dX12_appended_386 : decode cX12_appended 386 = .ok (.return_, 1) := by decide +kernel
theorem dX12_rankedSame_0 : decode cX12_rankedSame 0 = .ok (.iconst 0, 1) := by decide +kernel
theorem dX12_rankedSame_1 : decode cX12_rankedSame 1 = .ok (.istore_n 3, 1) := by decide +kernel
theorem dX12_rankedSame_2 : decode cX12_rankedSame 2 = .ok (.aload_n 0, 1) := by decide +kernel
theorem dX12_rankedSame_3 : decode cX12_rankedSame 3 = .ok (.getfield 42, 3) := by decide +kernel
theorem dX12_rankedSame_6 : decode cX12_rankedSame 6 = .ok (.iload_n 1, 1) := by decide +kernel
theorem dX12_rankedSame_7 : decode cX12_rankedSame 7 = .ok (.iaload, 1) := by decide +kernel
theorem dX12_rankedSame_8 : decode cX12_rankedSame 8 = .ok (.istore 4, 2) := by decide +kernel
theorem dX12_rankedSame_10 : decode cX12_rankedSame 10 = .ok (.iload 4, 2) := by decide +kernel
theorem dX12_rankedSame_12 : decode cX12_rankedSame 12 = .ok (.ifCond .le 79, 3) := by decide +kernel
theorem dX12_rankedSame_15 : decode cX12_rankedSame 15 = .ok (.iload_n 3, 1) := by decide +kernel
theorem dX12_rankedSame_16 : decode cX12_rankedSame 16 = .ok (.ifCond .ne 75, 3) := by decide +kernel
theorem dX12_rankedSame_19 : decode cX12_rankedSame 19 = .ok (.iconst 0, 1) := by decide +kernel
theorem dX12_rankedSame_20 : decode cX12_rankedSame 20 = .ok (.istore 5, 2) := by decide +kernel
theorem dX12_rankedSame_22 : decode cX12_rankedSame 22 = .ok (.iconst 0, 1) := by decide +kernel
theorem dX12_rankedSame_23 : decode cX12_rankedSame 23 = .ok (.istore 6, 2) := by decide +kernel
theorem dX12_rankedSame_25 : decode cX12_rankedSame 25 = .ok (.iload 6, 2) := by decide +kernel
theorem dX12_rankedSame_27 : decode cX12_rankedSame 27 = .ok (.aload_n 0, 1) := by decide +kernel
theorem dX12_rankedSame_28 : decode cX12_rankedSame 28 = .ok (.getfield 7, 3) := by decide +kernel
theorem dX12_rankedSame_31 : decode cX12_rankedSame 31 = .ok (.if_icmp .ge 41, 3) := by decide +kernel
theorem dX12_rankedSame_34 : decode cX12_rankedSame 34 = .ok (.iload 5, 2) := by decide +kernel
theorem dX12_rankedSame_36 : decode cX12_rankedSame 36 = .ok (.iload 6, 2) := by decide +kernel
theorem dX12_rankedSame_38 : decode cX12_rankedSame 38 = .ok (.iload_n 1, 1) := by decide +kernel
theorem dX12_rankedSame_39 : decode cX12_rankedSame 39 = .ok (.if_icmp .eq 23, 3) := by decide +kernel
theorem dX12_rankedSame_42 : decode cX12_rankedSame 42 = .ok (.aload_n 0, 1) := by decide +kernel
theorem dX12_rankedSame_43 : decode cX12_rankedSame 43 = .ok (.getfield 66, 3) := by decide +kernel
theorem dX12_rankedSame_46 : decode cX12_rankedSame 46 = .ok (.iconst 5, 1) := by decide +kernel
theorem dX12_rankedSame_47 : decode cX12_rankedSame 47 = .ok (.iload_n 1, 1) := by decide +kernel
theorem dX12_rankedSame_48 : decode cX12_rankedSame 48 = .ok (.imul, 1) := by decide +kernel
theorem dX12_rankedSame_49 : decode cX12_rankedSame 49 = .ok (.iload 6, 2) := by decide +kernel
theorem dX12_rankedSame_51 : decode cX12_rankedSame 51 = .ok (.iadd, 1) := by decide +kernel
theorem dX12_rankedSame_52 : decode cX12_rankedSame 52 = .ok (.iaload, 1) := by decide +kernel
theorem dX12_rankedSame_53 : decode cX12_rankedSame 53 = .ok (.iload 4, 2) := by decide +kernel
theorem dX12_rankedSame_55 : decode cX12_rankedSame 55 = .ok (.if_icmp .lt 7, 3) := by decide +kernel
theorem dX12_rankedSame_58 : decode cX12_rankedSame 58 = .ok (.iconst 1, 1) := by decide +kernel
theorem dX12_rankedSame_59 : decode cX12_rankedSame 59 = .ok (.goto 4, 3) := by decide +kernel
theorem dX12_rankedSame_62 : decode cX12_rankedSame 62 = .ok (.iconst 0, 1) := by decide +kernel
theorem dX12_rankedSame_63 : decode cX12_rankedSame 63 = .ok (.iadd, 1) := by decide +kernel
theorem dX12_rankedSame_64 : decode cX12_rankedSame 64 = .ok (.istore 5, 2) := by decide +kernel
theorem dX12_rankedSame_66 : decode cX12_rankedSame 66 = .ok (.iinc 6 1, 3) := by decide +kernel
theorem dX12_rankedSame_69 : decode cX12_rankedSame 69 = .ok (.goto (-44), 3) := by decide +kernel
theorem dX12_rankedSame_72 : decode cX12_rankedSame 72 = .ok (.iload 5, 2) := by decide +kernel
theorem dX12_rankedSame_74 : decode cX12_rankedSame 74 = .ok (.iload_n 2, 1) := by decide +kernel
theorem dX12_rankedSame_75 : decode cX12_rankedSame 75 = .ok (.if_icmp .lt 8, 3) := by decide +kernel
theorem dX12_rankedSame_78 : decode cX12_rankedSame 78 = .ok (.iload 4, 2) := by decide +kernel
theorem dX12_rankedSame_80 : decode cX12_rankedSame 80 = .ok (.goto 4, 3) := by decide +kernel
theorem dX12_rankedSame_83 : decode cX12_rankedSame 83 = .ok (.iconst 0, 1) := by decide +kernel
theorem dX12_rankedSame_84 : decode cX12_rankedSame 84 = .ok (.istore_n 3, 1) := by decide +kernel
theorem dX12_rankedSame_85 : decode cX12_rankedSame 85 = .ok (.iinc 4 (-1), 3) := by decide +kernel
theorem dX12_rankedSame_88 : decode cX12_rankedSame 88 = .ok (.goto (-78), 3) := by decide +kernel
theorem dX12_rankedSame_91 : decode cX12_rankedSame 91 = .ok (.iload_n 3, 1) := by decide +kernel
theorem dX12_rankedSame_92 : decode cX12_rankedSame 92 = .ok (.ireturn, 1) := by decide +kernel
theorem dX12_acknowledged_0 : decode cX12_acknowledged 0 = .ok (.aload_n 0, 1) := by decide +kernel
theorem dX12_acknowledged_1 : decode cX12_acknowledged 1 = .ok (.getfield 39, 3) := by decide +kernel
theorem dX12_acknowledged_4 : decode cX12_acknowledged 4 = .ok (.iload_n 1, 1) := by decide +kernel
theorem dX12_acknowledged_5 : decode cX12_acknowledged 5 = .ok (.iaload, 1) := by decide +kernel
theorem dX12_acknowledged_6 : decode cX12_acknowledged 6 = .ok (.iconst 2, 1) := by decide +kernel
theorem dX12_acknowledged_7 : decode cX12_acknowledged 7 = .ok (.if_icmp .ne 18, 3) := by decide +kernel
theorem dX12_acknowledged_10 : decode cX12_acknowledged 10 = .ok (.aload_n 0, 1) := by decide +kernel
theorem dX12_acknowledged_11 : decode cX12_acknowledged 11 = .ok (.getfield 144, 3) := by decide +kernel
theorem dX12_acknowledged_14 : decode cX12_acknowledged 14 = .ok (.iconst 3, 1) := by decide +kernel
theorem dX12_acknowledged_15 : decode cX12_acknowledged 15 = .ok (.iaload, 1) := by decide +kernel
theorem dX12_acknowledged_16 : decode cX12_acknowledged 16 = .ok (.aload_n 0, 1) := by decide +kernel
theorem dX12_acknowledged_17 : decode cX12_acknowledged 17 = .ok (.getfield 32, 3) := by decide +kernel
theorem dX12_acknowledged_20 : decode cX12_acknowledged 20 = .ok (.iload_n 1, 1) := by decide +kernel
theorem dX12_acknowledged_21 : decode cX12_acknowledged 21 = .ok (.iaload, 1) := by decide +kernel
theorem dX12_acknowledged_22 : decode cX12_acknowledged 22 = .ok (.if_icmp .eq 4, 3) := by decide +kernel
theorem dX12_acknowledged_25 : decode cX12_acknowledged 25 = .ok (.return_, 1) := by decide +kernel
theorem dX12_acknowledged_26 : decode cX12_acknowledged 26 = .ok (.iconst 5, 1) := by decide +kernel
theorem dX12_acknowledged_27 : decode cX12_acknowledged 27 = .ok (.iload_n 1, 1) := by decide +kernel
theorem dX12_acknowledged_28 : decode cX12_acknowledged 28 = .ok (.imul, 1) := by decide +kernel
theorem dX12_acknowledged_29 : decode cX12_acknowledged 29 = .ok (.aload_n 0, 1) := by decide +kernel
theorem dX12_acknowledged_30 : decode cX12_acknowledged 30 = .ok (.getfield 144, 3) := by decide +kernel
theorem dX12_acknowledged_33 : decode cX12_acknowledged 33 = .ok (.iconst 1, 1) := by decide +kernel
theorem dX12_acknowledged_34 : decode cX12_acknowledged 34 = .ok (.iaload, 1) := by decide +kernel
theorem dX12_acknowledged_35 : decode cX12_acknowledged 35 = .ok (.iadd, 1) := by decide +kernel
theorem dX12_acknowledged_36 : decode cX12_acknowledged 36 = .ok (.istore_n 3, 1) := by decide +kernel
theorem dX12_acknowledged_37 : decode cX12_acknowledged 37 = .ok (.aload_n 0, 1) := by decide +kernel
theorem dX12_acknowledged_38 : decode cX12_acknowledged 38 = .ok (.getfield 144, 3) := by decide +kernel
theorem dX12_acknowledged_41 : decode cX12_acknowledged 41 = .ok (.bipush 7, 2) := by decide +kernel
theorem dX12_acknowledged_43 : decode cX12_acknowledged 43 = .ok (.iaload, 1) := by decide +kernel
theorem dX12_acknowledged_44 : decode cX12_acknowledged 44 = .ok (.ifCond .ne 16, 3) := by decide +kernel
theorem dX12_acknowledged_47 : decode cX12_acknowledged 47 = .ok (.aload_n 0, 1) := by decide +kernel
theorem dX12_acknowledged_48 : decode cX12_acknowledged 48 = .ok (.getfield 63, 3) := by decide +kernel
theorem dX12_acknowledged_51 : decode cX12_acknowledged 51 = .ok (.iload_n 3, 1) := by decide +kernel
theorem dX12_acknowledged_52 : decode cX12_acknowledged 52 = .ok (.aload_n 0, 1) := by decide +kernel
theorem dX12_acknowledged_53 : decode cX12_acknowledged 53 = .ok (.getfield 144, 3) := by decide +kernel
theorem dX12_acknowledged_56 : decode cX12_acknowledged 56 = .ok (.iconst 4, 1) := by decide +kernel
theorem dX12_acknowledged_57 : decode cX12_acknowledged 57 = .ok (.iaload, 1) := by decide +kernel
theorem dX12_acknowledged_58 : decode cX12_acknowledged 58 = .ok (.iastore, 1) := by decide +kernel
theorem dX12_acknowledged_59 : decode cX12_acknowledged 59 = .ok (.return_, 1) := by decide +kernel
theorem dX12_acknowledged_60 : decode cX12_acknowledged 60 = .ok (.aload_n 0, 1) := by decide +kernel
theorem dX12_acknowledged_61 : decode cX12_acknowledged 61 = .ok (.getfield 144, 3) := by decide +kernel
theorem dX12_acknowledged_64 : decode cX12_acknowledged 64 = .ok (.iconst 4, 1) := by decide +kernel
theorem dX12_acknowledged_65 : decode cX12_acknowledged 65 = .ok (.iaload, 1) := by decide +kernel
theorem dX12_acknowledged_66 : decode cX12_acknowledged 66 = .ok (.aload_n 0, 1) := by decide +kernel
theorem dX12_acknowledged_67 : decode cX12_acknowledged 67 = .ok (.getfield 66, 3) := by decide +kernel
theorem dX12_acknowledged_70 : decode cX12_acknowledged 70 = .ok (.iload_n 3, 1) := by decide +kernel
theorem dX12_acknowledged_71 : decode cX12_acknowledged 71 = .ok (.iaload, 1) := by decide +kernel
theorem dX12_acknowledged_72 : decode cX12_acknowledged 72 = .ok (.if_icmp .le 27, 3) := by decide +kernel
theorem dX12_acknowledged_75 : decode cX12_acknowledged 75 = .ok (.aload_n 0, 1) := by decide +kernel
theorem dX12_acknowledged_76 : decode cX12_acknowledged 76 = .ok (.getfield 66, 3) := by decide +kernel
theorem dX12_acknowledged_79 : decode cX12_acknowledged 79 = .ok (.iload_n 3, 1) := by decide +kernel
theorem dX12_acknowledged_80 : decode cX12_acknowledged 80 = .ok (.aload_n 0, 1) := by decide +kernel
theorem dX12_acknowledged_81 : decode cX12_acknowledged 81 = .ok (.getfield 144, 3) := by decide +kernel
theorem dX12_acknowledged_84 : decode cX12_acknowledged 84 = .ok (.iconst 4, 1) := by decide +kernel
theorem dX12_acknowledged_85 : decode cX12_acknowledged 85 = .ok (.iaload, 1) := by decide +kernel
theorem dX12_acknowledged_86 : decode cX12_acknowledged 86 = .ok (.iastore, 1) := by decide +kernel
theorem dX12_acknowledged_87 : decode cX12_acknowledged 87 = .ok (.aload_n 0, 1) := by decide +kernel
theorem dX12_acknowledged_88 : decode cX12_acknowledged 88 = .ok (.getfield 63, 3) := by decide +kernel
theorem dX12_acknowledged_91 : decode cX12_acknowledged 91 = .ok (.iload_n 3, 1) := by decide +kernel
theorem dX12_acknowledged_92 : decode cX12_acknowledged 92 = .ok (.aload_n 0, 1) := by decide +kernel
theorem dX12_acknowledged_93 : decode cX12_acknowledged 93 = .ok (.getfield 144, 3) := by decide +kernel
theorem dX12_acknowledged_96 : decode cX12_acknowledged 96 = .ok (.iconst 4, 1) := by decide +kernel
theorem dX12_acknowledged_97 : decode cX12_acknowledged 97 = .ok (.iaload, 1) := by decide +kernel
theorem dX12_acknowledged_98 : decode cX12_acknowledged 98 = .ok (.iastore, 1) := by decide +kernel
theorem dX12_acknowledged_99 : decode cX12_acknowledged 99 = .ok (.aload_n 0, 1) := by decide +kernel
theorem dX12_acknowledged_100 : decode cX12_acknowledged 100 = .ok (.iload_n 1, 1) := by decide +kernel
theorem dX12_acknowledged_101 : decode cX12_acknowledged 101 = .ok (.aload_n 0, 1) := by decide +kernel
theorem dX12_acknowledged_102 : decode cX12_acknowledged 102 = .ok (.invokevirtual 241, 3) := by decide +kernel
theorem dX12_acknowledged_105 : decode cX12_acknowledged 105 = .ok (.iconst 1, 1) := by decide +kernel
theorem dX12_acknowledged_106 : decode cX12_acknowledged 106 = .ok (.isub, 1) := by decide +kernel
theorem dX12_acknowledged_107 : decode cX12_acknowledged 107 = .ok (.invokevirtual 249, 3) := by decide +kernel
theorem dX12_acknowledged_110 : decode cX12_acknowledged 110 = .ok (.istore 4, 2) := by decide +kernel
theorem dX12_acknowledged_112 : decode cX12_acknowledged 112 = .ok (.iload 4, 2) := by decide +kernel
theorem dX12_acknowledged_114 : decode cX12_acknowledged 114 = .ok (.aload_n 0, 1) := by decide +kernel
theorem dX12_acknowledged_115 : decode cX12_acknowledged 115 = .ok (.getfield 45, 3) := by decide +kernel
theorem dX12_acknowledged_118 : decode cX12_acknowledged 118 = .ok (.iload_n 1, 1) := by decide +kernel
theorem dX12_acknowledged_119 : decode cX12_acknowledged 119 = .ok (.iaload, 1) := by decide +kernel
theorem dX12_acknowledged_120 : decode cX12_acknowledged 120 = .ok (.if_icmp .le 27, 3) := by decide +kernel
theorem dX12_acknowledged_123 : decode cX12_acknowledged 123 = .ok (.aload_n 0, 1) := by decide +kernel
theorem dX12_acknowledged_124 : decode cX12_acknowledged 124 = .ok (.iload_n 1, 1) := by decide +kernel
theorem dX12_acknowledged_125 : decode cX12_acknowledged 125 = .ok (.iload 4, 2) := by decide +kernel
theorem dX12_acknowledged_127 : decode cX12_acknowledged 127 = .ok (.invokevirtual 233, 3) := by decide +kernel
theorem dX12_acknowledged_130 : decode cX12_acknowledged 130 = .ok (.aload_n 0, 1) := by decide +kernel
theorem dX12_acknowledged_131 : decode cX12_acknowledged 131 = .ok (.getfield 32, 3) := by decide +kernel
theorem dX12_acknowledged_134 : decode cX12_acknowledged 134 = .ok (.iload_n 1, 1) := by decide +kernel
theorem dX12_acknowledged_135 : decode cX12_acknowledged 135 = .ok (.iaload, 1) := by decide +kernel
theorem dX12_acknowledged_136 : decode cX12_acknowledged 136 = .ok (.if_icmp .ne 11, 3) := by decide +kernel
theorem dX12_acknowledged_139 : decode cX12_acknowledged 139 = .ok (.aload_n 0, 1) := by decide +kernel
theorem dX12_acknowledged_140 : decode cX12_acknowledged 140 = .ok (.getfield 45, 3) := by decide +kernel
theorem dX12_acknowledged_143 : decode cX12_acknowledged 143 = .ok (.iload_n 1, 1) := by decide +kernel
theorem dX12_acknowledged_144 : decode cX12_acknowledged 144 = .ok (.iload 4, 2) := by decide +kernel
theorem dX12_acknowledged_146 : decode cX12_acknowledged 146 = .ok (.iastore, 1) := by decide +kernel
theorem dX12_acknowledged_147 : decode cX12_acknowledged 147 = .ok (.aload_n 0, 1) := by decide +kernel
theorem dX12_acknowledged_148 : decode cX12_acknowledged 148 = .ok (.getfield 72, 3) := by decide +kernel
theorem dX12_acknowledged_151 : decode cX12_acknowledged 151 = .ok (.iload_n 3, 1) := by decide +kernel
theorem dX12_acknowledged_152 : decode cX12_acknowledged 152 = .ok (.aload_n 0, 1) := by decide +kernel
theorem dX12_acknowledged_153 : decode cX12_acknowledged 153 = .ok (.getfield 69, 3) := by decide +kernel
theorem dX12_acknowledged_156 : decode cX12_acknowledged 156 = .ok (.iload_n 3, 1) := by decide +kernel
theorem dX12_acknowledged_157 : decode cX12_acknowledged 157 = .ok (.baload, 1) := by decide +kernel
theorem dX12_acknowledged_158 : decode cX12_acknowledged 158 = .ok (.ifCond .eq 23, 3) := by decide +kernel
theorem dX12_acknowledged_161 : decode cX12_acknowledged 161 = .ok (.aload_n 0, 1) := by decide +kernel
theorem dX12_acknowledged_162 : decode cX12_acknowledged 162 = .ok (.getfield 72, 3) := by decide +kernel
theorem dX12_acknowledged_165 : decode cX12_acknowledged 165 = .ok (.iload_n 3, 1) := by decide +kernel
theorem dX12_acknowledged_166 : decode cX12_acknowledged 166 = .ok (.faload, 1) := by decide +kernel
theorem dX12_acknowledged_167 : decode cX12_acknowledged 167 = .ok (.fload_n 2, 1) := by decide +kernel
theorem dX12_acknowledged_168 : decode cX12_acknowledged 168 = .ok (.fcmp .l, 1) := by decide +kernel
theorem dX12_acknowledged_169 : decode cX12_acknowledged 169 = .ok (.ifCond .le 12, 3) := by decide +kernel
theorem dX12_acknowledged_172 : decode cX12_acknowledged 172 = .ok (.aload_n 0, 1) := by decide +kernel
theorem dX12_acknowledged_173 : decode cX12_acknowledged 173 = .ok (.getfield 72, 3) := by decide +kernel
theorem dX12_acknowledged_176 : decode cX12_acknowledged 176 = .ok (.iload_n 3, 1) := by decide +kernel
theorem dX12_acknowledged_177 : decode cX12_acknowledged 177 = .ok (.faload, 1) := by decide +kernel
theorem dX12_acknowledged_178 : decode cX12_acknowledged 178 = .ok (.goto 4, 3) := by decide +kernel
theorem dX12_acknowledged_181 : decode cX12_acknowledged 181 = .ok (.fload_n 2, 1) := by decide +kernel
theorem dX12_acknowledged_182 : decode cX12_acknowledged 182 = .ok (.fastore, 1) := by decide +kernel
theorem dX12_acknowledged_183 : decode cX12_acknowledged 183 = .ok (.aload_n 0, 1) := by decide +kernel
theorem dX12_acknowledged_184 : decode cX12_acknowledged 184 = .ok (.getfield 69, 3) := by decide +kernel
theorem dX12_acknowledged_187 : decode cX12_acknowledged 187 = .ok (.iload_n 3, 1) := by decide +kernel
theorem dX12_acknowledged_188 : decode cX12_acknowledged 188 = .ok (.iconst 1, 1) := by decide +kernel
theorem dX12_acknowledged_189 : decode cX12_acknowledged 189 = .ok (.bastore, 1) := by decide +kernel
theorem dX12_acknowledged_190 : decode cX12_acknowledged 190 = .ok (.aload_n 0, 1) := by decide +kernel
theorem dX12_acknowledged_191 : decode cX12_acknowledged 191 = .ok (.iload_n 1, 1) := by decide +kernel
theorem dX12_acknowledged_192 : decode cX12_acknowledged 192 = .ok (.invokevirtual 252, 3) := by decide +kernel
theorem dX12_acknowledged_195 : decode cX12_acknowledged 195 = .ok (.return_, 1) := by decide +kernel
theorem dX12_leases_0 : decode cX12_leases 0 = .ok (.iconst 0, 1) := by decide +kernel
theorem dX12_leases_1 : decode cX12_leases 1 = .ok (.istore_n 2, 1) := by decide +kernel
theorem dX12_leases_2 : decode cX12_leases 2 = .ok (.fconst 0, 1) := by decide +kernel
theorem dX12_leases_3 : decode cX12_leases 3 = .ok (.fstore_n 3, 1) := by decide +kernel
theorem dX12_leases_4 : decode cX12_leases 4 = .ok (.iconst 0, 1) := by decide +kernel
theorem dX12_leases_5 : decode cX12_leases 5 = .ok (.istore 4, 2) := by decide +kernel
theorem dX12_leases_7 : decode cX12_leases 7 = .ok (.iload 4, 2) := by decide +kernel
theorem dX12_leases_9 : decode cX12_leases 9 = .ok (.aload_n 0, 1) := by decide +kernel
theorem dX12_leases_10 : decode cX12_leases 10 = .ok (.getfield 7, 3) := by decide +kernel
theorem dX12_leases_13 : decode cX12_leases 13 = .ok (.if_icmp .ge 180, 3) := by decide +kernel
theorem dX12_leases_16 : decode cX12_leases 16 = .ok (.iconst 0, 1) := by decide +kernel
theorem dX12_leases_17 : decode cX12_leases 17 = .ok (.istore 5, 2) := by decide +kernel
theorem dX12_leases_19 : decode cX12_leases 19 = .ok (.iconst 0, 1) := by decide +kernel
theorem dX12_leases_20 : decode cX12_leases 20 = .ok (.istore 6, 2) := by decide +kernel
theorem dX12_leases_22 : decode cX12_leases 22 = .ok (.iload 6, 2) := by decide +kernel
theorem dX12_leases_24 : decode cX12_leases 24 = .ok (.aload_n 0, 1) := by decide +kernel
theorem dX12_leases_25 : decode cX12_leases 25 = .ok (.getfield 7, 3) := by decide +kernel
theorem dX12_leases_28 : decode cX12_leases 28 = .ok (.if_icmp .ge 79, 3) := by decide +kernel
theorem dX12_leases_31 : decode cX12_leases 31 = .ok (.iload 5, 2) := by decide +kernel
theorem dX12_leases_33 : decode cX12_leases 33 = .ok (.iload 6, 2) := by decide +kernel
theorem dX12_leases_35 : decode cX12_leases 35 = .ok (.iload_n 1, 1) := by decide +kernel
theorem dX12_leases_36 : decode cX12_leases 36 = .ok (.if_icmp .eq 61, 3) := by decide +kernel
theorem dX12_leases_39 : decode cX12_leases 39 = .ok (.aload_n 0, 1) := by decide +kernel
theorem dX12_leases_40 : decode cX12_leases 40 = .ok (.getfield 69, 3) := by decide +kernel
theorem dX12_leases_43 : decode cX12_leases 43 = .ok (.iconst 5, 1) := by decide +kernel
theorem dX12_leases_44 : decode cX12_leases 44 = .ok (.iload_n 1, 1) := by decide +kernel
theorem dX12_leases_45 : decode cX12_leases 45 = .ok (.imul, 1) := by decide +kernel
theorem dX12_leases_46 : decode cX12_leases 46 = .ok (.iload 6, 2) := by decide +kernel
theorem dX12_leases_48 : decode cX12_leases 48 = .ok (.iadd, 1) := by decide +kernel
theorem dX12_leases_49 : decode cX12_leases 49 = .ok (.baload, 1) := by decide +kernel
theorem dX12_leases_50 : decode cX12_leases 50 = .ok (.ifCond .eq 47, 3) := by decide +kernel
theorem dX12_leases_53 : decode cX12_leases 53 = .ok (.aload_n 0, 1) := by decide +kernel
theorem dX12_leases_54 : decode cX12_leases 54 = .ok (.getfield 69, 3) := by decide +kernel
theorem dX12_leases_57 : decode cX12_leases 57 = .ok (.iconst 5, 1) := by decide +kernel
theorem dX12_leases_58 : decode cX12_leases 58 = .ok (.iload_n 1, 1) := by decide +kernel
theorem dX12_leases_59 : decode cX12_leases 59 = .ok (.imul, 1) := by decide +kernel
theorem dX12_leases_60 : decode cX12_leases 60 = .ok (.iload 4, 2) := by decide +kernel
theorem dX12_leases_62 : decode cX12_leases 62 = .ok (.iadd, 1) := by decide +kernel
theorem dX12_leases_63 : decode cX12_leases 63 = .ok (.baload, 1) := by decide +kernel
theorem dX12_leases_64 : decode cX12_leases 64 = .ok (.ifCond .eq 33, 3) := by decide +kernel
theorem dX12_leases_67 : decode cX12_leases 67 = .ok (.aload_n 0, 1) := by decide +kernel
theorem dX12_leases_68 : decode cX12_leases 68 = .ok (.getfield 72, 3) := by decide +kernel
theorem dX12_leases_71 : decode cX12_leases 71 = .ok (.iconst 5, 1) := by decide +kernel
theorem dX12_leases_72 : decode cX12_leases 72 = .ok (.iload_n 1, 1) := by decide +kernel
theorem dX12_leases_73 : decode cX12_leases 73 = .ok (.imul, 1) := by decide +kernel
theorem dX12_leases_74 : decode cX12_leases 74 = .ok (.iload 6, 2) := by decide +kernel
theorem dX12_leases_76 : decode cX12_leases 76 = .ok (.iadd, 1) := by decide +kernel
theorem dX12_leases_77 : decode cX12_leases 77 = .ok (.faload, 1) := by decide +kernel
theorem dX12_leases_78 : decode cX12_leases 78 = .ok (.aload_n 0, 1) := by decide +kernel
theorem dX12_leases_79 : decode cX12_leases 79 = .ok (.getfield 72, 3) := by decide +kernel
theorem dX12_leases_82 : decode cX12_leases 82 = .ok (.iconst 5, 1) := by decide +kernel
theorem dX12_leases_83 : decode cX12_leases 83 = .ok (.iload_n 1, 1) := by decide +kernel
theorem dX12_leases_84 : decode cX12_leases 84 = .ok (.imul, 1) := by decide +kernel
theorem dX12_leases_85 : decode cX12_leases 85 = .ok (.iload 4, 2) := by decide +kernel
theorem dX12_leases_87 : decode cX12_leases 87 = .ok (.iadd, 1) := by decide +kernel
theorem dX12_leases_88 : decode cX12_leases 88 = .ok (.faload, 1) := by decide +kernel
theorem dX12_leases_89 : decode cX12_leases 89 = .ok (.fcmp .l, 1) := by decide +kernel
theorem dX12_leases_90 : decode cX12_leases 90 = .ok (.ifCond .lt 7, 3) := by decide +kernel
theorem dX12_leases_93 : decode cX12_leases 93 = .ok (.iconst 1, 1) := by decide +kernel
theorem dX12_leases_94 : decode cX12_leases 94 = .ok (.goto 4, 3) := by decide +kernel
theorem dX12_leases_97 : decode cX12_leases 97 = .ok (.iconst 0, 1) := by decide +kernel
theorem dX12_leases_98 : decode cX12_leases 98 = .ok (.iadd, 1) := by decide +kernel
theorem dX12_leases_99 : decode cX12_leases 99 = .ok (.istore 5, 2) := by decide +kernel
theorem dX12_leases_101 : decode cX12_leases 101 = .ok (.iinc 6 1, 3) := by decide +kernel
theorem dX12_leases_104 : decode cX12_leases 104 = .ok (.goto (-82), 3) := by decide +kernel
theorem dX12_leases_107 : decode cX12_leases 107 = .ok (.iload 4, 2) := by decide +kernel
theorem dX12_leases_109 : decode cX12_leases 109 = .ok (.iload_n 1, 1) := by decide +kernel
theorem dX12_leases_110 : decode cX12_leases 110 = .ok (.if_icmp .eq 18, 3) := by decide +kernel
theorem dX12_leases_113 : decode cX12_leases 113 = .ok (.iload 5, 2) := by decide +kernel
theorem dX12_leases_115 : decode cX12_leases 115 = .ok (.aload_n 0, 1) := by decide +kernel
theorem dX12_leases_116 : decode cX12_leases 116 = .ok (.invokevirtual 241, 3) := by decide +kernel
theorem dX12_leases_119 : decode cX12_leases 119 = .ok (.iconst 1, 1) := by decide +kernel
theorem dX12_leases_120 : decode cX12_leases 120 = .ok (.isub, 1) := by decide +kernel
theorem dX12_leases_121 : decode cX12_leases 121 = .ok (.if_icmp .lt 7, 3) := by decide +kernel
theorem dX12_leases_124 : decode cX12_leases 124 = .ok (.iconst 1, 1) := by decide +kernel
theorem dX12_leases_125 : decode cX12_leases 125 = .ok (.goto 4, 3) := by decide +kernel
theorem dX12_leases_128 : decode cX12_leases 128 = .ok (.iconst 0, 1) := by decide +kernel
theorem dX12_leases_129 : decode cX12_leases 129 = .ok (.istore 6, 2) := by decide +kernel
theorem dX12_leases_131 : decode cX12_leases 131 = .ok (.iload 6, 2) := by decide +kernel
theorem dX12_leases_133 : decode cX12_leases 133 = .ok (.ifCond .eq 37, 3) := by decide +kernel
theorem dX12_leases_136 : decode cX12_leases 136 = .ok (.iload_n 2, 1) := by decide +kernel
theorem dX12_leases_137 : decode cX12_leases 137 = .ok (.ifCond .eq 19, 3) := by decide +kernel
theorem dX12_leases_140 : decode cX12_leases 140 = .ok (.aload_n 0, 1) := by decide +kernel
theorem dX12_leases_141 : decode cX12_leases 141 = .ok (.getfield 72, 3) := by decide +kernel
theorem dX12_leases_144 : decode cX12_leases 144 = .ok (.iconst 5, 1) := by decide +kernel
theorem dX12_leases_145 : decode cX12_leases 145 = .ok (.iload_n 1, 1) := by decide +kernel
theorem dX12_leases_146 : decode cX12_leases 146 = .ok (.imul, 1) := by decide +kernel
theorem dX12_leases_147 : decode cX12_leases 147 = .ok (.iload 4, 2) := by decide +kernel
theorem dX12_leases_149 : decode cX12_leases 149 = .ok (.iadd, 1) := by decide +kernel
theorem dX12_leases_150 : decode cX12_leases 150 = .ok (.faload, 1) := by decide +kernel
theorem dX12_leases_151 : decode cX12_leases 151 = .ok (.fload_n 3, 1) := by decide +kernel
theorem dX12_leases_152 : decode cX12_leases 152 = .ok (.fcmp .l, 1) := by decide +kernel
theorem dX12_leases_153 : decode cX12_leases 153 = .ok (.ifCond .le 17, 3) := by decide +kernel
theorem dX12_leases_156 : decode cX12_leases 156 = .ok (.aload_n 0, 1) := by decide +kernel
theorem dX12_leases_157 : decode cX12_leases 157 = .ok (.getfield 72, 3) := by decide +kernel
theorem dX12_leases_160 : decode cX12_leases 160 = .ok (.iconst 5, 1) := by decide +kernel
theorem dX12_leases_161 : decode cX12_leases 161 = .ok (.iload_n 1, 1) := by decide +kernel
theorem dX12_leases_162 : decode cX12_leases 162 = .ok (.imul, 1) := by decide +kernel
theorem dX12_leases_163 : decode cX12_leases 163 = .ok (.iload 4, 2) := by decide +kernel
theorem dX12_leases_165 : decode cX12_leases 165 = .ok (.iadd, 1) := by decide +kernel
theorem dX12_leases_166 : decode cX12_leases 166 = .ok (.faload, 1) := by decide +kernel
theorem dX12_leases_167 : decode cX12_leases 167 = .ok (.goto 4, 3) := by decide +kernel
theorem dX12_leases_170 : decode cX12_leases 170 = .ok (.fload_n 3, 1) := by decide +kernel
theorem dX12_leases_171 : decode cX12_leases 171 = .ok (.fstore_n 3, 1) := by decide +kernel
theorem dX12_leases_172 : decode cX12_leases 172 = .ok (.iload_n 2, 1) := by decide +kernel
theorem dX12_leases_173 : decode cX12_leases 173 = .ok (.ifCond .ne 8, 3) := by decide +kernel
theorem dX12_leases_176 : decode cX12_leases 176 = .ok (.iload 6, 2) := by decide +kernel
theorem dX12_leases_178 : decode cX12_leases 178 = .ok (.ifCond .eq 7, 3) := by decide +kernel
theorem dX12_leases_181 : decode cX12_leases 181 = .ok (.iconst 1, 1) := by decide +kernel
theorem dX12_leases_182 : decode cX12_leases 182 = .ok (.goto 4, 3) := by decide +kernel
theorem dX12_leases_185 : decode cX12_leases 185 = .ok (.iconst 0, 1) := by decide +kernel
theorem dX12_leases_186 : decode cX12_leases 186 = .ok (.istore_n 2, 1) := by decide +kernel
theorem dX12_leases_187 : decode cX12_leases 187 = .ok (.iinc 4 1, 3) := by decide +kernel
theorem dX12_leases_190 : decode cX12_leases 190 = .ok (.goto (-183), 3) := by decide +kernel
theorem dX12_leases_193 : decode cX12_leases 193 = .ok (.iload_n 2, 1) := by decide +kernel
theorem dX12_leases_194 : decode cX12_leases 194 = .ok (.ifCond .eq 29, 3) := by decide +kernel
theorem dX12_leases_197 : decode cX12_leases 197 = .ok (.aload_n 0, 1) := by decide +kernel
theorem dX12_leases_198 : decode cX12_leases 198 = .ok (.getfield 75, 3) := by decide +kernel
theorem dX12_leases_201 : decode cX12_leases 201 = .ok (.iload_n 1, 1) := by decide +kernel
theorem dX12_leases_202 : decode cX12_leases 202 = .ok (.iconst 1, 1) := by decide +kernel
theorem dX12_leases_203 : decode cX12_leases 203 = .ok (.bastore, 1) := by decide +kernel
theorem dX12_leases_204 : decode cX12_leases 204 = .ok (.aload_n 0, 1) := by decide +kernel
theorem dX12_leases_205 : decode cX12_leases 205 = .ok (.getfield 78, 3) := by decide +kernel
theorem dX12_leases_208 : decode cX12_leases 208 = .ok (.iload_n 1, 1) := by decide +kernel
theorem dX12_leases_209 : decode cX12_leases 209 = .ok (.fload_n 3, 1) := by decide +kernel
theorem dX12_leases_210 : decode cX12_leases 210 = .ok (.aload_n 0, 1) := by decide +kernel
theorem dX12_leases_211 : decode cX12_leases 211 = .ok (.getfield 14, 3) := by decide +kernel
theorem dX12_leases_214 : decode cX12_leases 214 = .ok (.fconst 1, 1) := by decide +kernel
theorem dX12_leases_215 : decode cX12_leases 215 = .ok (.aload_n 0, 1) := by decide +kernel
theorem dX12_leases_216 : decode cX12_leases 216 = .ok (.getfield 161, 3) := by decide +kernel
theorem dX12_leases_219 : decode cX12_leases 219 = .ok (.fsub, 1) := by decide +kernel
theorem dX12_leases_220 : decode cX12_leases 220 = .ok (.fmul, 1) := by decide +kernel
theorem dX12_leases_221 : decode cX12_leases 221 = .ok (.fadd, 1) := by decide +kernel
theorem dX12_leases_222 : decode cX12_leases 222 = .ok (.fastore, 1) := by decide +kernel
theorem dX12_leases_223 : decode cX12_leases 223 = .ok (.return_, 1) := by decide +kernel
theorem dX12_actOf_0 : decode cX12_actOf 0 = .ok (.iconst 0, 1) := by decide +kernel
theorem dX12_actOf_1 : decode cX12_actOf 1 = .ok (.istore_n 3, 1) := by decide +kernel
theorem dX12_actOf_2 : decode cX12_actOf 2 = .ok (.iload_n 3, 1) := by decide +kernel
theorem dX12_actOf_3 : decode cX12_actOf 3 = .ok (.aload_n 0, 1) := by decide +kernel
theorem dX12_actOf_4 : decode cX12_actOf 4 = .ok (.getfield 170, 3) := by decide +kernel
theorem dX12_actOf_7 : decode cX12_actOf 7 = .ok (.if_icmp .ge 40, 3) := by decide +kernel
theorem dX12_actOf_10 : decode cX12_actOf 10 = .ok (.aload_n 0, 1) := by decide +kernel
theorem dX12_actOf_11 : decode cX12_actOf 11 = .ok (.getfield 123, 3) := by decide +kernel
theorem dX12_actOf_14 : decode cX12_actOf 14 = .ok (.iload_n 3, 1) := by decide +kernel
theorem dX12_actOf_15 : decode cX12_actOf 15 = .ok (.baload, 1) := by decide +kernel
theorem dX12_actOf_16 : decode cX12_actOf 16 = .ok (.ifCond .eq 25, 3) := by decide +kernel
theorem dX12_actOf_19 : decode cX12_actOf 19 = .ok (.aload_n 0, 1) := by decide +kernel
theorem dX12_actOf_20 : decode cX12_actOf 20 = .ok (.getfield 126, 3) := by decide +kernel
theorem dX12_actOf_23 : decode cX12_actOf 23 = .ok (.iload_n 3, 1) := by decide +kernel
theorem dX12_actOf_24 : decode cX12_actOf 24 = .ok (.iaload, 1) := by decide +kernel
theorem dX12_actOf_25 : decode cX12_actOf 25 = .ok (.iload_n 1, 1) := by decide +kernel
theorem dX12_actOf_26 : decode cX12_actOf 26 = .ok (.if_icmp .ne 15, 3) := by decide +kernel
theorem dX12_actOf_29 : decode cX12_actOf 29 = .ok (.aload_n 0, 1) := by decide +kernel
theorem dX12_actOf_30 : decode cX12_actOf 30 = .ok (.getfield 129, 3) := by decide +kernel
theorem dX12_actOf_33 : decode cX12_actOf 33 = .ok (.iload_n 3, 1) := by decide +kernel
theorem dX12_actOf_34 : decode cX12_actOf 34 = .ok (.iaload, 1) := by decide +kernel
theorem dX12_actOf_35 : decode cX12_actOf 35 = .ok (.iload_n 2, 1) := by decide +kernel
theorem dX12_actOf_36 : decode cX12_actOf 36 = .ok (.if_icmp .ne 5, 3) := by decide +kernel
theorem dX12_actOf_39 : decode cX12_actOf 39 = .ok (.iload_n 3, 1) := by decide +kernel
theorem dX12_actOf_40 : decode cX12_actOf 40 = .ok (.ireturn, 1) := by decide +kernel
theorem dX12_actOf_41 : decode cX12_actOf 41 = .ok (.iinc 3 1, 3) := by decide +kernel
theorem dX12_actOf_44 : decode cX12_actOf 44 = .ok (.goto (-42), 3) := by decide +kernel
theorem dX12_actOf_47 : decode cX12_actOf 47 = .ok (.iconst (-1), 1) := by decide +kernel
theorem dX12_actOf_48 : decode cX12_actOf 48 = .ok (.ireturn, 1) := by decide +kernel
theorem dX12_acts_0 : decode cX12_acts 0 = .ok (.aload_n 0, 1) := by decide +kernel
theorem dX12_acts_1 : decode cX12_acts 1 = .ok (.getfield 123, 3) := by decide +kernel
theorem dX12_acts_4 : decode cX12_acts 4 = .ok (.aload_n 0, 1) := by decide +kernel
theorem dX12_acts_5 : decode cX12_acts 5 = .ok (.getfield 170, 3) := by decide +kernel
theorem dX12_acts_8 : decode cX12_acts 8 = .ok (.iload_n 1, 1) := by decide +kernel
theorem dX12_acts_9 : decode cX12_acts 9 = .ok (.bastore, 1) := by decide +kernel
theorem dX12_acts_10 : decode cX12_acts 10 = .ok (.aload_n 0, 1) := by decide +kernel
theorem dX12_acts_11 : decode cX12_acts 11 = .ok (.getfield 126, 3) := by decide +kernel
theorem dX12_acts_14 : decode cX12_acts 14 = .ok (.aload_n 0, 1) := by decide +kernel
theorem dX12_acts_15 : decode cX12_acts 15 = .ok (.getfield 170, 3) := by decide +kernel
theorem dX12_acts_18 : decode cX12_acts 18 = .ok (.iload_n 2, 1) := by decide +kernel
theorem dX12_acts_19 : decode cX12_acts 19 = .ok (.iastore, 1) := by decide +kernel
theorem dX12_acts_20 : decode cX12_acts 20 = .ok (.aload_n 0, 1) := by decide +kernel
theorem dX12_acts_21 : decode cX12_acts 21 = .ok (.getfield 129, 3) := by decide +kernel
theorem dX12_acts_24 : decode cX12_acts 24 = .ok (.aload_n 0, 1) := by decide +kernel
theorem dX12_acts_25 : decode cX12_acts 25 = .ok (.getfield 170, 3) := by decide +kernel
theorem dX12_acts_28 : decode cX12_acts 28 = .ok (.iload_n 3, 1) := by decide +kernel
theorem dX12_acts_29 : decode cX12_acts 29 = .ok (.iastore, 1) := by decide +kernel
theorem dX12_acts_30 : decode cX12_acts 30 = .ok (.aload_n 0, 1) := by decide +kernel
theorem dX12_acts_31 : decode cX12_acts 31 = .ok (.getfield 132, 3) := by decide +kernel
theorem dX12_acts_34 : decode cX12_acts 34 = .ok (.aload_n 0, 1) := by decide +kernel
theorem dX12_acts_35 : decode cX12_acts 35 = .ok (.getfield 170, 3) := by decide +kernel
theorem dX12_acts_38 : decode cX12_acts 38 = .ok (.iload 4, 2) := by decide +kernel
theorem dX12_acts_40 : decode cX12_acts 40 = .ok (.iastore, 1) := by decide +kernel
theorem dX12_acts_41 : decode cX12_acts 41 = .ok (.aload_n 0, 1) := by decide +kernel
theorem dX12_acts_42 : decode cX12_acts 42 = .ok (.getfield 135, 3) := by decide +kernel
theorem dX12_acts_45 : decode cX12_acts 45 = .ok (.aload_n 0, 1) := by decide +kernel
theorem dX12_acts_46 : decode cX12_acts 46 = .ok (.getfield 170, 3) := by decide +kernel
theorem dX12_acts_49 : decode cX12_acts 49 = .ok (.aload_n 0, 1) := by decide +kernel
theorem dX12_acts_50 : decode cX12_acts 50 = .ok (.getfield 164, 3) := by decide +kernel
theorem dX12_acts_53 : decode cX12_acts 53 = .ok (.iastore, 1) := by decide +kernel
theorem dX12_acts_54 : decode cX12_acts 54 = .ok (.aload_n 0, 1) := by decide +kernel
theorem dX12_acts_55 : decode cX12_acts 55 = .ok (.getfield 138, 3) := by decide +kernel
theorem dX12_acts_58 : decode cX12_acts 58 = .ok (.aload_n 0, 1) := by decide +kernel
theorem dX12_acts_59 : decode cX12_acts 59 = .ok (.getfield 170, 3) := by decide +kernel
theorem dX12_acts_62 : decode cX12_acts 62 = .ok (.iload 5, 2) := by decide +kernel
theorem dX12_acts_64 : decode cX12_acts 64 = .ok (.iastore, 1) := by decide +kernel
theorem dX12_acts_65 : decode cX12_acts 65 = .ok (.aload_n 0, 1) := by decide +kernel
theorem dX12_acts_66 : decode cX12_acts 66 = .ok (.dup, 1) := by decide +kernel
theorem dX12_acts_67 : decode cX12_acts 67 = .ok (.getfield 170, 3) := by decide +kernel
theorem dX12_acts_70 : decode cX12_acts 70 = .ok (.iconst 1, 1) := by decide +kernel
theorem dX12_acts_71 : decode cX12_acts 71 = .ok (.iadd, 1) := by decide +kernel
theorem dX12_acts_72 : decode cX12_acts 72 = .ok (.putfield 170, 3) := by decide +kernel
theorem dX12_acts_75 : decode cX12_acts 75 = .ok (.return_, 1) := by decide +kernel
theorem dX12_entryOf_0 : decode cX12_entryOf 0 = .ok (.iconst 0, 1) := by decide +kernel
theorem dX12_entryOf_1 : decode cX12_entryOf 1 = .ok (.istore 5, 2) := by decide +kernel
theorem dX12_entryOf_3 : decode cX12_entryOf 3 = .ok (.iload 5, 2) := by decide +kernel
theorem dX12_entryOf_5 : decode cX12_entryOf 5 = .ok (.aload_n 0, 1) := by decide +kernel
theorem dX12_entryOf_6 : decode cX12_entryOf 6 = .ok (.getfield 42, 3) := by decide +kernel
theorem dX12_entryOf_9 : decode cX12_entryOf 9 = .ok (.iload_n 1, 1) := by decide +kernel
theorem dX12_entryOf_10 : decode cX12_entryOf 10 = .ok (.iaload, 1) := by decide +kernel
theorem dX12_entryOf_11 : decode cX12_entryOf 11 = .ok (.if_icmp .ge 61, 3) := by decide +kernel
theorem dX12_entryOf_14 : decode cX12_entryOf 14 = .ok (.bipush 30, 2) := by decide +kernel
theorem dX12_entryOf_16 : decode cX12_entryOf 16 = .ok (.iload_n 1, 1) := by decide +kernel
theorem dX12_entryOf_17 : decode cX12_entryOf 17 = .ok (.imul, 1) := by decide +kernel
theorem dX12_entryOf_18 : decode cX12_entryOf 18 = .ok (.iload 5, 2) := by decide +kernel
theorem dX12_entryOf_20 : decode cX12_entryOf 20 = .ok (.iadd, 1) := by decide +kernel
theorem dX12_entryOf_21 : decode cX12_entryOf 21 = .ok (.istore 6, 2) := by decide +kernel
theorem dX12_entryOf_23 : decode cX12_entryOf 23 = .ok (.aload_n 0, 1) := by decide +kernel
theorem dX12_entryOf_24 : decode cX12_entryOf 24 = .ok (.getfield 51, 3) := by decide +kernel
theorem dX12_entryOf_27 : decode cX12_entryOf 27 = .ok (.iload 6, 2) := by decide +kernel
theorem dX12_entryOf_29 : decode cX12_entryOf 29 = .ok (.iaload, 1) := by decide +kernel
theorem dX12_entryOf_30 : decode cX12_entryOf 30 = .ok (.iload_n 2, 1) := by decide +kernel
theorem dX12_entryOf_31 : decode cX12_entryOf 31 = .ok (.if_icmp .ne 35, 3) := by decide +kernel
theorem dX12_entryOf_34 : decode cX12_entryOf 34 = .ok (.aload_n 0, 1) := by decide +kernel
theorem dX12_entryOf_35 : decode cX12_entryOf 35 = .ok (.getfield 54, 3) := by decide +kernel
theorem dX12_entryOf_38 : decode cX12_entryOf 38 = .ok (.iload 6, 2) := by decide +kernel
theorem dX12_entryOf_40 : decode cX12_entryOf 40 = .ok (.iaload, 1) := by decide +kernel
theorem dX12_entryOf_41 : decode cX12_entryOf 41 = .ok (.iload_n 3, 1) := by decide +kernel
theorem dX12_entryOf_42 : decode cX12_entryOf 42 = .ok (.if_icmp .eq 19, 3) := by decide +kernel
theorem dX12_entryOf_45 : decode cX12_entryOf 45 = .ok (.iload 4, 2) := by decide +kernel
theorem dX12_entryOf_47 : decode cX12_entryOf 47 = .ok (.ifCond .eq 19, 3) := by decide +kernel
theorem dX12_entryOf_50 : decode cX12_entryOf 50 = .ok (.aload_n 0, 1) := by decide +kernel
theorem dX12_entryOf_51 : decode cX12_entryOf 51 = .ok (.getfield 54, 3) := by decide +kernel
theorem dX12_entryOf_54 : decode cX12_entryOf 54 = .ok (.iload 6, 2) := by decide +kernel
theorem dX12_entryOf_56 : decode cX12_entryOf 56 = .ok (.iaload, 1) := by decide +kernel
theorem dX12_entryOf_57 : decode cX12_entryOf 57 = .ok (.iload_n 3, 1) := by decide +kernel
theorem dX12_entryOf_58 : decode cX12_entryOf 58 = .ok (.if_icmp .le 8, 3) := by decide +kernel
theorem dX12_entryOf_61 : decode cX12_entryOf 61 = .ok (.iload 5, 2) := by decide +kernel
theorem dX12_entryOf_63 : decode cX12_entryOf 63 = .ok (.iconst 1, 1) := by decide +kernel
theorem dX12_entryOf_64 : decode cX12_entryOf 64 = .ok (.iadd, 1) := by decide +kernel
theorem dX12_entryOf_65 : decode cX12_entryOf 65 = .ok (.ireturn, 1) := by decide +kernel
theorem dX12_entryOf_66 : decode cX12_entryOf 66 = .ok (.iinc 5 1, 3) := by decide +kernel
theorem dX12_entryOf_69 : decode cX12_entryOf 69 = .ok (.goto (-66), 3) := by decide +kernel
theorem dX12_entryOf_72 : decode cX12_entryOf 72 = .ok (.iconst 0, 1) := by decide +kernel
theorem dX12_entryOf_73 : decode cX12_entryOf 73 = .ok (.ireturn, 1) := by decide +kernel
theorem dX12_request_0 : decode cX12_request 0 = .ok (.aload_n 0, 1) := by decide +kernel
theorem dX12_request_1 : decode cX12_request 1 = .ok (.iload_n 1, 1) := by decide +kernel
theorem dX12_request_2 : decode cX12_request 2 = .ok (.invokevirtual 181, 3) := by decide +kernel
theorem dX12_request_5 : decode cX12_request 5 = .ok (.ifCond .eq 16, 3) := by decide +kernel
theorem dX12_request_8 : decode cX12_request 8 = .ok (.iload_n 2, 1) := by decide +kernel
theorem dX12_request_9 : decode cX12_request 9 = .ok (.iconst 0, 1) := by decide +kernel
theorem dX12_request_10 : decode cX12_request 10 = .ok (.iconst 3, 1) := by decide +kernel
theorem dX12_request_11 : decode cX12_request 11 = .ok (.invokestatic 154, 3) := by decide +kernel
theorem dX12_request_14 : decode cX12_request 14 = .ok (.ifCond .eq 7, 3) := by decide +kernel
theorem dX12_request_17 : decode cX12_request 17 = .ok (.iconst 1, 1) := by decide +kernel
theorem dX12_request_18 : decode cX12_request 18 = .ok (.goto 4, 3) := by decide +kernel
theorem dX12_request_21 : decode cX12_request 21 = .ok (.iconst 0, 1) := by decide +kernel
theorem dX12_request_22 : decode cX12_request 22 = .ok (.istore 5, 2) := by decide +kernel
theorem dX12_request_24 : decode cX12_request 24 = .ok (.iload_n 3, 1) := by decide +kernel
theorem dX12_request_25 : decode cX12_request 25 = .ok (.iconst 1, 1) := by decide +kernel
theorem dX12_request_26 : decode cX12_request 26 = .ok (.bipush 99, 2) := by decide +kernel
theorem dX12_request_28 : decode cX12_request 28 = .ok (.invokestatic 154, 3) := by decide +kernel
theorem dX12_request_31 : decode cX12_request 31 = .ok (.ifCond .eq 19, 3) := by decide +kernel
theorem dX12_request_34 : decode cX12_request 34 = .ok (.iload 4, 2) := by decide +kernel
theorem dX12_request_36 : decode cX12_request 36 = .ok (.iconst 0, 1) := by decide +kernel
theorem dX12_request_37 : decode cX12_request 37 = .ok (.sipush 999, 3) := by decide +kernel
theorem dX12_request_40 : decode cX12_request 40 = .ok (.invokestatic 154, 3) := by decide +kernel
theorem dX12_request_43 : decode cX12_request 43 = .ok (.ifCond .eq 7, 3) := by decide +kernel
theorem dX12_request_46 : decode cX12_request 46 = .ok (.iconst 1, 1) := by decide +kernel
theorem dX12_request_47 : decode cX12_request 47 = .ok (.goto 4, 3) := by decide +kernel
theorem dX12_request_50 : decode cX12_request 50 = .ok (.iconst 0, 1) := by decide +kernel
theorem dX12_request_51 : decode cX12_request 51 = .ok (.istore 6, 2) := by decide +kernel
theorem dX12_request_53 : decode cX12_request 53 = .ok (.iload 5, 2) := by decide +kernel
theorem dX12_request_55 : decode cX12_request 55 = .ok (.ifCond .eq 17, 3) := by decide +kernel
theorem dX12_request_58 : decode cX12_request 58 = .ok (.iload 6, 2) := by decide +kernel
theorem dX12_request_60 : decode cX12_request 60 = .ok (.ifCond .eq 12, 3) := by decide +kernel
theorem dX12_request_63 : decode cX12_request 63 = .ok (.aload_n 0, 1) := by decide +kernel
theorem dX12_request_64 : decode cX12_request 64 = .ok (.iload_n 2, 1) := by decide +kernel
theorem dX12_request_65 : decode cX12_request 65 = .ok (.iload_n 3, 1) := by decide +kernel
theorem dX12_request_66 : decode cX12_request 66 = .ok (.invokevirtual 254, 3) := by decide +kernel
theorem dX12_request_69 : decode cX12_request 69 = .ok (.goto 4, 3) := by decide +kernel
theorem dX12_request_72 : decode cX12_request 72 = .ok (.iconst (-1), 1) := by decide +kernel
theorem dX12_request_73 : decode cX12_request 73 = .ok (.istore 7, 2) := by decide +kernel
theorem dX12_request_75 : decode cX12_request 75 = .ok (.iload 6, 2) := by decide +kernel
theorem dX12_request_77 : decode cX12_request 77 = .ok (.ifCond .eq 25, 3) := by decide +kernel
theorem dX12_request_80 : decode cX12_request 80 = .ok (.iload 7, 2) := by decide +kernel
theorem dX12_request_82 : decode cX12_request 82 = .ok (.iconst (-1), 1) := by decide +kernel
theorem dX12_request_83 : decode cX12_request 83 = .ok (.if_icmp .eq 15, 3) := by decide +kernel
theorem dX12_request_86 : decode cX12_request 86 = .ok (.aload_n 0, 1) := by decide +kernel
theorem dX12_request_87 : decode cX12_request 87 = .ok (.getfield 132, 3) := by decide +kernel
theorem dX12_request_90 : decode cX12_request 90 = .ok (.iload 7, 2) := by decide +kernel
theorem dX12_request_92 : decode cX12_request 92 = .ok (.iaload, 1) := by decide +kernel
theorem dX12_request_93 : decode cX12_request 93 = .ok (.iload 4, 2) := by decide +kernel
theorem dX12_request_95 : decode cX12_request 95 = .ok (.if_icmp .ne 7, 3) := by decide +kernel
theorem dX12_request_98 : decode cX12_request 98 = .ok (.iconst 1, 1) := by decide +kernel
theorem dX12_request_99 : decode cX12_request 99 = .ok (.goto 4, 3) := by decide +kernel
theorem dX12_request_102 : decode cX12_request 102 = .ok (.iconst 0, 1) := by decide +kernel
theorem dX12_request_103 : decode cX12_request 103 = .ok (.istore 6, 2) := by decide +kernel
theorem dX12_request_105 : decode cX12_request 105 = .ok (.iload 5, 2) := by decide +kernel
theorem dX12_request_107 : decode cX12_request 107 = .ok (.ifCond .eq 52, 3) := by decide +kernel
theorem dX12_request_110 : decode cX12_request 110 = .ok (.aload_n 0, 1) := by decide +kernel
theorem dX12_request_111 : decode cX12_request 111 = .ok (.getfield 18, 3) := by decide +kernel
theorem dX12_request_114 : decode cX12_request 114 = .ok (.iload_n 1, 1) := by decide +kernel
theorem dX12_request_115 : decode cX12_request 115 = .ok (.baload, 1) := by decide +kernel
theorem dX12_request_116 : decode cX12_request 116 = .ok (.ifCond .eq 43, 3) := by decide +kernel
theorem dX12_request_119 : decode cX12_request 119 = .ok (.aload_n 0, 1) := by decide +kernel
theorem dX12_request_120 : decode cX12_request 120 = .ok (.getfield 39, 3) := by decide +kernel
theorem dX12_request_123 : decode cX12_request 123 = .ok (.iload_n 1, 1) := by decide +kernel
theorem dX12_request_124 : decode cX12_request 124 = .ok (.iaload, 1) := by decide +kernel
theorem dX12_request_125 : decode cX12_request 125 = .ok (.iconst 2, 1) := by decide +kernel
theorem dX12_request_126 : decode cX12_request 126 = .ok (.if_icmp .ne 33, 3) := by decide +kernel
theorem dX12_request_129 : decode cX12_request 129 = .ok (.aload_n 0, 1) := by decide +kernel
theorem dX12_request_130 : decode cX12_request 130 = .ok (.getfield 42, 3) := by decide +kernel
theorem dX12_request_133 : decode cX12_request 133 = .ok (.iload_n 1, 1) := by decide +kernel
theorem dX12_request_134 : decode cX12_request 134 = .ok (.iaload, 1) := by decide +kernel
theorem dX12_request_135 : decode cX12_request 135 = .ok (.bipush 30, 2) := by decide +kernel
theorem dX12_request_137 : decode cX12_request 137 = .ok (.if_icmp .ge 22, 3) := by decide +kernel
theorem dX12_request_140 : decode cX12_request 140 = .ok (.iload 7, 2) := by decide +kernel
theorem dX12_request_142 : decode cX12_request 142 = .ok (.iconst (-1), 1) := by decide +kernel
theorem dX12_request_143 : decode cX12_request 143 = .ok (.if_icmp .ne 12, 3) := by decide +kernel
theorem dX12_request_146 : decode cX12_request 146 = .ok (.aload_n 0, 1) := by decide +kernel
theorem dX12_request_147 : decode cX12_request 147 = .ok (.getfield 170, 3) := by decide +kernel
theorem dX12_request_150 : decode cX12_request 150 = .ok (.bipush 14, 2) := by decide +kernel
theorem dX12_request_152 : decode cX12_request 152 = .ok (.if_icmp .ge 7, 3) := by decide +kernel
theorem dX12_request_155 : decode cX12_request 155 = .ok (.iconst 1, 1) := by decide +kernel
theorem dX12_request_156 : decode cX12_request 156 = .ok (.goto 4, 3) := by decide +kernel
theorem dX12_request_159 : decode cX12_request 159 = .ok (.iconst 0, 1) := by decide +kernel
theorem dX12_request_160 : decode cX12_request 160 = .ok (.istore 8, 2) := by decide +kernel
theorem dX12_request_162 : decode cX12_request 162 = .ok (.aload_n 0, 1) := by decide +kernel
theorem dX12_request_163 : decode cX12_request 163 = .ok (.iload 5, 2) := by decide +kernel
theorem dX12_request_165 : decode cX12_request 165 = .ok (.iload 6, 2) := by decide +kernel
theorem dX12_request_167 : decode cX12_request 167 = .ok (.iload 8, 2) := by decide +kernel
theorem dX12_request_169 : decode cX12_request 169 = .ok (.invokevirtual 173, 3) := by decide +kernel
theorem dX12_request_172 : decode cX12_request 172 = .ok (.ifCond .ne 5, 3) := by decide +kernel
theorem dX12_request_175 : decode cX12_request 175 = .ok (.iconst 0, 1) := by decide +kernel
theorem dX12_request_176 : decode cX12_request 176 = .ok (.ireturn, 1) := by decide +kernel
theorem dX12_request_177 : decode cX12_request 177 = .ok (.aload_n 0, 1) := by decide +kernel
theorem dX12_request_178 : decode cX12_request 178 = .ok (.dup, 1) := by decide +kernel
theorem dX12_request_179 : decode cX12_request 179 = .ok (.getfield 164, 3) := by decide +kernel
theorem dX12_request_182 : decode cX12_request 182 = .ok (.iconst 1, 1) := by decide +kernel
theorem dX12_request_183 : decode cX12_request 183 = .ok (.iadd, 1) := by decide +kernel
theorem dX12_request_184 : decode cX12_request 184 = .ok (.putfield 164, 3) := by decide +kernel
theorem dX12_request_187 : decode cX12_request 187 = .ok (.iload_n 1, 1) := by decide +kernel
theorem dX12_request_188 : decode cX12_request 188 = .ok (.istore 9, 2) := by decide +kernel
theorem dX12_request_190 : decode cX12_request 190 = .ok (.iload 7, 2) := by decide +kernel
theorem dX12_request_192 : decode cX12_request 192 = .ok (.iconst (-1), 1) := by decide +kernel
theorem dX12_request_193 : decode cX12_request 193 = .ok (.if_icmp .ne 13, 3) := by decide +kernel
theorem dX12_request_196 : decode cX12_request 196 = .ok (.aload_n 0, 1) := by decide +kernel
theorem dX12_request_197 : decode cX12_request 197 = .ok (.iconst 1, 1) := by decide +kernel
theorem dX12_request_198 : decode cX12_request 198 = .ok (.iload_n 2, 1) := by decide +kernel
theorem dX12_request_199 : decode cX12_request 199 = .ok (.iload_n 3, 1) := by decide +kernel
theorem dX12_request_200 : decode cX12_request 200 = .ok (.iload 4, 2) := by decide +kernel
theorem dX12_request_202 : decode cX12_request 202 = .ok (.iconst (-1), 1) := by decide +kernel
theorem dX12_request_203 : decode cX12_request 203 = .ok (.invokevirtual 257, 3) := by decide +kernel
theorem dX12_request_206 : decode cX12_request 206 = .ok (.aload_n 0, 1) := by decide +kernel
theorem dX12_request_207 : decode cX12_request 207 = .ok (.iload 9, 2) := by decide +kernel
theorem dX12_request_209 : decode cX12_request 209 = .ok (.iload_n 2, 1) := by decide +kernel
theorem dX12_request_210 : decode cX12_request 210 = .ok (.iload_n 3, 1) := by decide +kernel
theorem dX12_request_211 : decode cX12_request 211 = .ok (.iconst 1, 1) := by decide +kernel
theorem dX12_request_212 : decode cX12_request 212 = .ok (.invokevirtual 260, 3) := by decide +kernel
theorem dX12_request_215 : decode cX12_request 215 = .ok (.ifCond .ne 68, 3) := by decide +kernel
theorem dX12_request_218 : decode cX12_request 218 = .ok (.bipush 30, 2) := by decide +kernel
theorem dX12_request_220 : decode cX12_request 220 = .ok (.iload 9, 2) := by decide +kernel
theorem dX12_request_222 : decode cX12_request 222 = .ok (.imul, 1) := by decide +kernel
theorem dX12_request_223 : decode cX12_request 223 = .ok (.aload_n 0, 1) := by decide +kernel
theorem dX12_request_224 : decode cX12_request 224 = .ok (.getfield 42, 3) := by decide +kernel
theorem dX12_request_227 : decode cX12_request 227 = .ok (.iload 9, 2) := by decide +kernel
theorem dX12_request_229 : decode cX12_request 229 = .ok (.iaload, 1) := by decide +kernel
theorem dX12_request_230 : decode cX12_request 230 = .ok (.iadd, 1) := by decide +kernel
theorem dX12_request_231 : decode cX12_request 231 = .ok (.istore 10, 2) := by decide +kernel
theorem dX12_request_233 : decode cX12_request 233 = .ok (.aload_n 0, 1) := by decide +kernel
theorem dX12_request_234 : decode cX12_request 234 = .ok (.getfield 48, 3) := by decide +kernel
theorem dX12_request_237 : decode cX12_request 237 = .ok (.iload 10, 2) := by decide +kernel
theorem dX12_request_239 : decode cX12_request 239 = .ok (.aload_n 0, 1) := by decide +kernel
theorem dX12_request_240 : decode cX12_request 240 = .ok (.getfield 32, 3) := by decide +kernel
theorem dX12_request_243 : decode cX12_request 243 = .ok (.iload 9, 2) := by decide +kernel
theorem dX12_request_245 : decode cX12_request 245 = .ok (.iaload, 1) := by decide +kernel
theorem dX12_request_246 : decode cX12_request 246 = .ok (.iastore, 1) := by decide +kernel
theorem dX12_request_247 : decode cX12_request 247 = .ok (.aload_n 0, 1) := by decide +kernel
theorem dX12_request_248 : decode cX12_request 248 = .ok (.getfield 51, 3) := by decide +kernel
theorem dX12_request_251 : decode cX12_request 251 = .ok (.iload 10, 2) := by decide +kernel
theorem dX12_request_253 : decode cX12_request 253 = .ok (.iload_n 2, 1) := by decide +kernel
theorem dX12_request_254 : decode cX12_request 254 = .ok (.iastore, 1) := by decide +kernel
theorem dX12_request_255 : decode cX12_request 255 = .ok (.aload_n 0, 1) := by decide +kernel
theorem dX12_request_256 : decode cX12_request 256 = .ok (.getfield 54, 3) := by decide +kernel
theorem dX12_request_259 : decode cX12_request 259 = .ok (.iload 10, 2) := by decide +kernel
theorem dX12_request_261 : decode cX12_request 261 = .ok (.iload_n 3, 1) := by decide +kernel
theorem dX12_request_262 : decode cX12_request 262 = .ok (.iastore, 1) := by decide +kernel
theorem dX12_request_263 : decode cX12_request 263 = .ok (.aload_n 0, 1) := by decide +kernel
theorem dX12_request_264 : decode cX12_request 264 = .ok (.getfield 57, 3) := by decide +kernel
theorem dX12_request_267 : decode cX12_request 267 = .ok (.iload 10, 2) := by decide +kernel
theorem dX12_request_269 : decode cX12_request 269 = .ok (.iload 4, 2) := by decide +kernel
theorem dX12_request_271 : decode cX12_request 271 = .ok (.iastore, 1) := by decide +kernel
theorem dX12_request_272 : decode cX12_request 272 = .ok (.aload_n 0, 1) := by decide +kernel
theorem dX12_request_273 : decode cX12_request 273 = .ok (.getfield 42, 3) := by decide +kernel
theorem dX12_request_276 : decode cX12_request 276 = .ok (.iload 9, 2) := by decide +kernel
theorem dX12_request_278 : decode cX12_request 278 = .ok (.dup2, 1) := by decide +kernel
theorem dX12_request_279 : decode cX12_request 279 = .ok (.iaload, 1) := by decide +kernel
theorem dX12_request_280 : decode cX12_request 280 = .ok (.iconst 1, 1) := by decide +kernel
theorem dX12_request_281 : decode cX12_request 281 = .ok (.iadd, 1) := by decide +kernel
theorem dX12_request_282 : decode cX12_request 282 = .ok (.iastore, 1) := by decide +kernel
theorem dX12_request_283 : decode cX12_request 283 = .ok (.aload_n 0, 1) := by decide +kernel
theorem dX12_request_284 : decode cX12_request 284 = .ok (.invokevirtual 187, 3) := by decide +kernel
theorem dX12_request_287 : decode cX12_request 287 = .ok (.aload_n 0, 1) := by decide +kernel
theorem dX12_request_288 : decode cX12_request 288 = .ok (.iload 9, 2) := by decide +kernel
theorem dX12_request_290 : decode cX12_request 290 = .ok (.iload_n 2, 1) := by decide +kernel
theorem dX12_request_291 : decode cX12_request 291 = .ok (.iload_n 3, 1) := by decide +kernel
theorem dX12_request_292 : decode cX12_request 292 = .ok (.iconst 0, 1) := by decide +kernel
theorem dX12_request_293 : decode cX12_request 293 = .ok (.invokevirtual 260, 3) := by decide +kernel
theorem dX12_request_296 : decode cX12_request 296 = .ok (.ireturn, 1) := by decide +kernel
theorem dX12_valueOf_0 : decode cX12_valueOf 0 = .ok (.iconst 0, 1) := by decide +kernel
theorem dX12_valueOf_1 : decode cX12_valueOf 1 = .ok (.istore_n 2, 1) := by decide +kernel
theorem dX12_valueOf_2 : decode cX12_valueOf 2 = .ok (.iconst 0, 1) := by decide +kernel
theorem dX12_valueOf_3 : decode cX12_valueOf 3 = .ok (.istore_n 3, 1) := by decide +kernel
theorem dX12_valueOf_4 : decode cX12_valueOf 4 = .ok (.iload_n 3, 1) := by decide +kernel
theorem dX12_valueOf_5 : decode cX12_valueOf 5 = .ok (.aload_n 0, 1) := by decide +kernel
theorem dX12_valueOf_6 : decode cX12_valueOf 6 = .ok (.getfield 45, 3) := by decide +kernel
theorem dX12_valueOf_9 : decode cX12_valueOf 9 = .ok (.iload_n 1, 1) := by decide +kernel
theorem dX12_valueOf_10 : decode cX12_valueOf 10 = .ok (.iaload, 1) := by decide +kernel
theorem dX12_valueOf_11 : decode cX12_valueOf 11 = .ok (.if_icmp .ge 102, 3) := by decide +kernel
theorem dX12_valueOf_14 : decode cX12_valueOf 14 = .ok (.bipush 30, 2) := by decide +kernel
theorem dX12_valueOf_16 : decode cX12_valueOf 16 = .ok (.iload_n 1, 1) := by decide +kernel
theorem dX12_valueOf_17 : decode cX12_valueOf 17 = .ok (.imul, 1) := by decide +kernel
theorem dX12_valueOf_18 : decode cX12_valueOf 18 = .ok (.iload_n 3, 1) := by decide +kernel
theorem dX12_valueOf_19 : decode cX12_valueOf 19 = .ok (.iadd, 1) := by decide +kernel
theorem dX12_valueOf_20 : decode cX12_valueOf 20 = .ok (.istore 4, 2) := by decide +kernel
theorem dX12_valueOf_22 : decode cX12_valueOf 22 = .ok (.iconst 1, 1) := by decide +kernel
theorem dX12_valueOf_23 : decode cX12_valueOf 23 = .ok (.istore 5, 2) := by decide +kernel
theorem dX12_valueOf_25 : decode cX12_valueOf 25 = .ok (.bipush 30, 2) := by decide +kernel
theorem dX12_valueOf_27 : decode cX12_valueOf 27 = .ok (.iload_n 1, 1) := by decide +kernel
theorem dX12_valueOf_28 : decode cX12_valueOf 28 = .ok (.imul, 1) := by decide +kernel
theorem dX12_valueOf_29 : decode cX12_valueOf 29 = .ok (.istore 6, 2) := by decide +kernel
theorem dX12_valueOf_31 : decode cX12_valueOf 31 = .ok (.iload 6, 2) := by decide +kernel
theorem dX12_valueOf_33 : decode cX12_valueOf 33 = .ok (.iload 4, 2) := by decide +kernel
theorem dX12_valueOf_35 : decode cX12_valueOf 35 = .ok (.if_icmp .ge 55, 3) := by decide +kernel
theorem dX12_valueOf_38 : decode cX12_valueOf 38 = .ok (.iload 5, 2) := by decide +kernel
theorem dX12_valueOf_40 : decode cX12_valueOf 40 = .ok (.ifCond .eq 41, 3) := by decide +kernel
theorem dX12_valueOf_43 : decode cX12_valueOf 43 = .ok (.aload_n 0, 1) := by decide +kernel
theorem dX12_valueOf_44 : decode cX12_valueOf 44 = .ok (.getfield 51, 3) := by decide +kernel
theorem dX12_valueOf_47 : decode cX12_valueOf 47 = .ok (.iload 6, 2) := by decide +kernel
theorem dX12_valueOf_49 : decode cX12_valueOf 49 = .ok (.iaload, 1) := by decide +kernel
theorem dX12_valueOf_50 : decode cX12_valueOf 50 = .ok (.aload_n 0, 1) := by decide +kernel
theorem dX12_valueOf_51 : decode cX12_valueOf 51 = .ok (.getfield 51, 3) := by decide +kernel
theorem dX12_valueOf_54 : decode cX12_valueOf 54 = .ok (.iload 4, 2) := by decide +kernel
theorem dX12_valueOf_56 : decode cX12_valueOf 56 = .ok (.iaload, 1) := by decide +kernel
theorem dX12_valueOf_57 : decode cX12_valueOf 57 = .ok (.if_icmp .ne 20, 3) := by decide +kernel
theorem dX12_valueOf_60 : decode cX12_valueOf 60 = .ok (.aload_n 0, 1) := by decide +kernel
theorem dX12_valueOf_61 : decode cX12_valueOf 61 = .ok (.getfield 54, 3) := by decide +kernel
theorem dX12_valueOf_64 : decode cX12_valueOf 64 = .ok (.iload 6, 2) := by decide +kernel
theorem dX12_valueOf_66 : decode cX12_valueOf 66 = .ok (.iaload, 1) := by decide +kernel
theorem dX12_valueOf_67 : decode cX12_valueOf 67 = .ok (.aload_n 0, 1) := by decide +kernel
theorem dX12_valueOf_68 : decode cX12_valueOf 68 = .ok (.getfield 54, 3) := by decide +kernel
theorem dX12_valueOf_71 : decode cX12_valueOf 71 = .ok (.iload 4, 2) := by decide +kernel
theorem dX12_valueOf_73 : decode cX12_valueOf 73 = .ok (.iaload, 1) := by decide +kernel
theorem dX12_valueOf_74 : decode cX12_valueOf 74 = .ok (.if_icmp .ge 7, 3) := by decide +kernel
theorem dX12_valueOf_77 : decode cX12_valueOf 77 = .ok (.iconst 1, 1) := by decide +kernel
theorem dX12_valueOf_78 : decode cX12_valueOf 78 = .ok (.goto 4, 3) := by decide +kernel
theorem dX12_valueOf_81 : decode cX12_valueOf 81 = .ok (.iconst 0, 1) := by decide +kernel
theorem dX12_valueOf_82 : decode cX12_valueOf 82 = .ok (.istore 5, 2) := by decide +kernel
theorem dX12_valueOf_84 : decode cX12_valueOf 84 = .ok (.iinc 6 1, 3) := by decide +kernel
theorem dX12_valueOf_87 : decode cX12_valueOf 87 = .ok (.goto (-56), 3) := by decide +kernel
theorem dX12_valueOf_90 : decode cX12_valueOf 90 = .ok (.iload 5, 2) := by decide +kernel
theorem dX12_valueOf_92 : decode cX12_valueOf 92 = .ok (.ifCond .eq 13, 3) := by decide +kernel
theorem dX12_valueOf_95 : decode cX12_valueOf 95 = .ok (.aload_n 0, 1) := by decide +kernel
theorem dX12_valueOf_96 : decode cX12_valueOf 96 = .ok (.getfield 57, 3) := by decide +kernel
theorem dX12_valueOf_99 : decode cX12_valueOf 99 = .ok (.iload 4, 2) := by decide +kernel
theorem dX12_valueOf_101 : decode cX12_valueOf 101 = .ok (.iaload, 1) := by decide +kernel
theorem dX12_valueOf_102 : decode cX12_valueOf 102 = .ok (.goto 4, 3) := by decide +kernel
theorem dX12_valueOf_105 : decode cX12_valueOf 105 = .ok (.iload_n 2, 1) := by decide +kernel
theorem dX12_valueOf_106 : decode cX12_valueOf 106 = .ok (.istore_n 2, 1) := by decide +kernel
theorem dX12_valueOf_107 : decode cX12_valueOf 107 = .ok (.iinc 3 1, 3) := by decide +kernel
theorem dX12_valueOf_110 : decode cX12_valueOf 110 = .ok (.goto (-106), 3) := by decide +kernel
theorem dX12_valueOf_113 : decode cX12_valueOf 113 = .ok (.iload_n 2, 1) := by decide +kernel
theorem dX12_valueOf_114 : decode cX12_valueOf 114 = .ok (.ireturn, 1) := by decide +kernel
theorem dX12_holdsLease_0 : decode cX12_holdsLease 0 = .ok (.aload_n 0, 1) := by decide +kernel
theorem dX12_holdsLease_1 : decode cX12_holdsLease 1 = .ok (.getfield 18, 3) := by decide +kernel
theorem dX12_holdsLease_4 : decode cX12_holdsLease 4 = .ok (.iload_n 1, 1) := by decide +kernel
theorem dX12_holdsLease_5 : decode cX12_holdsLease 5 = .ok (.baload, 1) := by decide +kernel
theorem dX12_holdsLease_6 : decode cX12_holdsLease 6 = .ok (.ifCond .eq 42, 3) := by decide +kernel
theorem dX12_holdsLease_9 : decode cX12_holdsLease 9 = .ok (.aload_n 0, 1) := by decide +kernel
theorem dX12_holdsLease_10 : decode cX12_holdsLease 10 = .ok (.getfield 39, 3) := by decide +kernel
theorem dX12_holdsLease_13 : decode cX12_holdsLease 13 = .ok (.iload_n 1, 1) := by decide +kernel
theorem dX12_holdsLease_14 : decode cX12_holdsLease 14 = .ok (.iaload, 1) := by decide +kernel
theorem dX12_holdsLease_15 : decode cX12_holdsLease 15 = .ok (.iconst 2, 1) := by decide +kernel
theorem dX12_holdsLease_16 : decode cX12_holdsLease 16 = .ok (.if_icmp .ne 32, 3) := by decide +kernel
theorem dX12_holdsLease_19 : decode cX12_holdsLease 19 = .ok (.aload_n 0, 1) := by decide +kernel
theorem dX12_holdsLease_20 : decode cX12_holdsLease 20 = .ok (.getfield 75, 3) := by decide +kernel
theorem dX12_holdsLease_23 : decode cX12_holdsLease 23 = .ok (.iload_n 1, 1) := by decide +kernel
theorem dX12_holdsLease_24 : decode cX12_holdsLease 24 = .ok (.baload, 1) := by decide +kernel
theorem dX12_holdsLease_25 : decode cX12_holdsLease 25 = .ok (.ifCond .eq 23, 3) := by decide +kernel
theorem dX12_holdsLease_28 : decode cX12_holdsLease 28 = .ok (.aload_n 0, 1) := by decide +kernel
theorem dX12_holdsLease_29 : decode cX12_holdsLease 29 = .ok (.getfield 25, 3) := by decide +kernel
theorem dX12_holdsLease_32 : decode cX12_holdsLease 32 = .ok (.iload_n 1, 1) := by decide +kernel
theorem dX12_holdsLease_33 : decode cX12_holdsLease 33 = .ok (.faload, 1) := by decide +kernel
theorem dX12_holdsLease_34 : decode cX12_holdsLease 34 = .ok (.aload_n 0, 1) := by decide +kernel
theorem dX12_holdsLease_35 : decode cX12_holdsLease 35 = .ok (.getfield 78, 3) := by decide +kernel
theorem dX12_holdsLease_38 : decode cX12_holdsLease 38 = .ok (.iload_n 1, 1) := by decide +kernel
theorem dX12_holdsLease_39 : decode cX12_holdsLease 39 = .ok (.faload, 1) := by decide +kernel
theorem dX12_holdsLease_40 : decode cX12_holdsLease 40 = .ok (.fcmp .g, 1) := by decide +kernel
theorem dX12_holdsLease_41 : decode cX12_holdsLease 41 = .ok (.ifCond .ge 7, 3) := by decide +kernel
theorem dX12_holdsLease_44 : decode cX12_holdsLease 44 = .ok (.iconst 1, 1) := by decide +kernel
theorem dX12_holdsLease_45 : decode cX12_holdsLease 45 = .ok (.goto 4, 3) := by decide +kernel
theorem dX12_holdsLease_48 : decode cX12_holdsLease 48 = .ok (.iconst 0, 1) := by decide +kernel
theorem dX12_holdsLease_49 : decode cX12_holdsLease 49 = .ok (.ireturn, 1) := by decide +kernel
theorem dX12_read_0 : decode cX12_read 0 = .ok (.aload_n 0, 1) := by decide +kernel
theorem dX12_read_1 : decode cX12_read 1 = .ok (.iload_n 1, 1) := by decide +kernel
theorem dX12_read_2 : decode cX12_read 2 = .ok (.invokevirtual 181, 3) := by decide +kernel
theorem dX12_read_5 : decode cX12_read 5 = .ok (.istore_n 2, 1) := by decide +kernel
theorem dX12_read_6 : decode cX12_read 6 = .ok (.iload_n 2, 1) := by decide +kernel
theorem dX12_read_7 : decode cX12_read 7 = .ok (.ifCond .eq 53, 3) := by decide +kernel
theorem dX12_read_10 : decode cX12_read 10 = .ok (.aload_n 0, 1) := by decide +kernel
theorem dX12_read_11 : decode cX12_read 11 = .ok (.iload_n 1, 1) := by decide +kernel
theorem dX12_read_12 : decode cX12_read 12 = .ok (.invokevirtual 264, 3) := by decide +kernel
theorem dX12_read_15 : decode cX12_read 15 = .ok (.ifCond .eq 45, 3) := by decide +kernel
theorem dX12_read_18 : decode cX12_read 18 = .ok (.aload_n 0, 1) := by decide +kernel
theorem dX12_read_19 : decode cX12_read 19 = .ok (.getfield 45, 3) := by decide +kernel
theorem dX12_read_22 : decode cX12_read 22 = .ok (.iload_n 1, 1) := by decide +kernel
theorem dX12_read_23 : decode cX12_read 23 = .ok (.iaload, 1) := by decide +kernel
theorem dX12_read_24 : decode cX12_read 24 = .ok (.ifCond .le 36, 3) := by decide +kernel
theorem dX12_read_27 : decode cX12_read 27 = .ok (.aload_n 0, 1) := by decide +kernel
theorem dX12_read_28 : decode cX12_read 28 = .ok (.iload_n 1, 1) := by decide +kernel
theorem dX12_read_29 : decode cX12_read 29 = .ok (.aload_n 0, 1) := by decide +kernel
theorem dX12_read_30 : decode cX12_read 30 = .ok (.getfield 45, 3) := by decide +kernel
theorem dX12_read_33 : decode cX12_read 33 = .ok (.iload_n 1, 1) := by decide +kernel
theorem dX12_read_34 : decode cX12_read 34 = .ok (.iaload, 1) := by decide +kernel
theorem dX12_read_35 : decode cX12_read 35 = .ok (.invokevirtual 233, 3) := by decide +kernel
theorem dX12_read_38 : decode cX12_read 38 = .ok (.aload_n 0, 1) := by decide +kernel
theorem dX12_read_39 : decode cX12_read 39 = .ok (.getfield 32, 3) := by decide +kernel
theorem dX12_read_42 : decode cX12_read 42 = .ok (.iload_n 1, 1) := by decide +kernel
theorem dX12_read_43 : decode cX12_read 43 = .ok (.iaload, 1) := by decide +kernel
theorem dX12_read_44 : decode cX12_read 44 = .ok (.if_icmp .ne 16, 3) := by decide +kernel
theorem dX12_read_47 : decode cX12_read 47 = .ok (.aload_n 0, 1) := by decide +kernel
theorem dX12_read_48 : decode cX12_read 48 = .ok (.getfield 170, 3) := by decide +kernel
theorem dX12_read_51 : decode cX12_read 51 = .ok (.bipush 14, 2) := by decide +kernel
theorem dX12_read_53 : decode cX12_read 53 = .ok (.if_icmp .ge 7, 3) := by decide +kernel
theorem dX12_read_56 : decode cX12_read 56 = .ok (.iconst 1, 1) := by decide +kernel
theorem dX12_read_57 : decode cX12_read 57 = .ok (.goto 4, 3) := by decide +kernel
theorem dX12_read_60 : decode cX12_read 60 = .ok (.iconst 0, 1) := by decide +kernel
theorem dX12_read_61 : decode cX12_read 61 = .ok (.istore_n 3, 1) := by decide +kernel
theorem dX12_read_62 : decode cX12_read 62 = .ok (.aload_n 0, 1) := by decide +kernel
theorem dX12_read_63 : decode cX12_read 63 = .ok (.iload_n 2, 1) := by decide +kernel
theorem dX12_read_64 : decode cX12_read 64 = .ok (.iload_n 3, 1) := by decide +kernel
theorem dX12_read_65 : decode cX12_read 65 = .ok (.iconst 1, 1) := by decide +kernel
theorem dX12_read_66 : decode cX12_read 66 = .ok (.invokevirtual 173, 3) := by decide +kernel
theorem dX12_read_69 : decode cX12_read 69 = .ok (.ifCond .ne 5, 3) := by decide +kernel
theorem dX12_read_72 : decode cX12_read 72 = .ok (.iconst 0, 1) := by decide +kernel
theorem dX12_read_73 : decode cX12_read 73 = .ok (.ireturn, 1) := by decide +kernel
theorem dX12_read_74 : decode cX12_read 74 = .ok (.aload_n 0, 1) := by decide +kernel
theorem dX12_read_75 : decode cX12_read 75 = .ok (.dup, 1) := by decide +kernel
theorem dX12_read_76 : decode cX12_read 76 = .ok (.getfield 164, 3) := by decide +kernel
theorem dX12_read_79 : decode cX12_read 79 = .ok (.iconst 1, 1) := by decide +kernel
theorem dX12_read_80 : decode cX12_read 80 = .ok (.iadd, 1) := by decide +kernel
theorem dX12_read_81 : decode cX12_read 81 = .ok (.putfield 164, 3) := by decide +kernel
theorem dX12_read_84 : decode cX12_read 84 = .ok (.aload_n 0, 1) := by decide +kernel
theorem dX12_read_85 : decode cX12_read 85 = .ok (.iload_n 1, 1) := by decide +kernel
theorem dX12_read_86 : decode cX12_read 86 = .ok (.invokevirtual 267, 3) := by decide +kernel
theorem dX12_read_89 : decode cX12_read 89 = .ok (.istore 4, 2) := by decide +kernel
theorem dX12_read_91 : decode cX12_read 91 = .ok (.aload_n 0, 1) := by decide +kernel
theorem dX12_read_92 : decode cX12_read 92 = .ok (.iconst 0, 1) := by decide +kernel
theorem dX12_read_93 : decode cX12_read 93 = .ok (.iconst 0, 1) := by decide +kernel
theorem dX12_read_94 : decode cX12_read 94 = .ok (.iconst 0, 1) := by decide +kernel
theorem dX12_read_95 : decode cX12_read 95 = .ok (.iload 4, 2) := by decide +kernel
theorem dX12_read_97 : decode cX12_read 97 = .ok (.aload_n 0, 1) := by decide +kernel
theorem dX12_read_98 : decode cX12_read 98 = .ok (.getfield 164, 3) := by decide +kernel
theorem dX12_read_101 : decode cX12_read 101 = .ok (.invokevirtual 257, 3) := by decide +kernel
theorem dX12_read_104 : decode cX12_read 104 = .ok (.aload_n 0, 1) := by decide +kernel
theorem dX12_read_105 : decode cX12_read 105 = .ok (.invokevirtual 187, 3) := by decide +kernel
theorem dX12_read_108 : decode cX12_read 108 = .ok (.iload 4, 2) := by decide +kernel
theorem dX12_read_110 : decode cX12_read 110 = .ok (.ireturn, 1) := by decide +kernel
theorem dX12_propose_0 : decode cX12_propose 0 = .ok (.aload_n 0, 1) := by decide +kernel
theorem dX12_propose_1 : decode cX12_propose 1 = .ok (.iload_n 1, 1) := by decide +kernel
theorem dX12_propose_2 : decode cX12_propose 2 = .ok (.invokevirtual 181, 3) := by decide +kernel
theorem dX12_propose_5 : decode cX12_propose 5 = .ok (.ifCond .eq 16, 3) := by decide +kernel
theorem dX12_propose_8 : decode cX12_propose 8 = .ok (.iload_n 2, 1) := by decide +kernel
theorem dX12_propose_9 : decode cX12_propose 9 = .ok (.iconst 0, 1) := by decide +kernel
theorem dX12_propose_10 : decode cX12_propose 10 = .ok (.iconst 3, 1) := by decide +kernel
theorem dX12_propose_11 : decode cX12_propose 11 = .ok (.invokestatic 154, 3) := by decide +kernel
theorem dX12_propose_14 : decode cX12_propose 14 = .ok (.ifCond .eq 7, 3) := by decide +kernel
theorem dX12_propose_17 : decode cX12_propose 17 = .ok (.iconst 1, 1) := by decide +kernel
theorem dX12_propose_18 : decode cX12_propose 18 = .ok (.goto 4, 3) := by decide +kernel
theorem dX12_propose_21 : decode cX12_propose 21 = .ok (.iconst 0, 1) := by decide +kernel
theorem dX12_propose_22 : decode cX12_propose 22 = .ok (.istore 4, 2) := by decide +kernel
theorem dX12_propose_24 : decode cX12_propose 24 = .ok (.aload_n 0, 1) := by decide +kernel
theorem dX12_propose_25 : decode cX12_propose 25 = .ok (.iload 4, 2) := by decide +kernel
theorem dX12_propose_27 : decode cX12_propose 27 = .ok (.iload_n 3, 1) := by decide +kernel
theorem dX12_propose_28 : decode cX12_propose 28 = .ok (.iconst 0, 1) := by decide +kernel
theorem dX12_propose_29 : decode cX12_propose 29 = .ok (.sipush 999, 3) := by decide +kernel
theorem dX12_propose_32 : decode cX12_propose 32 = .ok (.invokestatic 154, 3) := by decide +kernel
theorem dX12_propose_35 : decode cX12_propose 35 = .ok (.iload 4, 2) := by decide +kernel
theorem dX12_propose_37 : decode cX12_propose 37 = .ok (.ifCond .eq 16, 3) := by decide +kernel
theorem dX12_propose_40 : decode cX12_propose 40 = .ok (.aload_n 0, 1) := by decide +kernel
theorem dX12_propose_41 : decode cX12_propose 41 = .ok (.getfield 18, 3) := by decide +kernel
theorem dX12_propose_44 : decode cX12_propose 44 = .ok (.iload_n 1, 1) := by decide +kernel
theorem dX12_propose_45 : decode cX12_propose 45 = .ok (.baload, 1) := by decide +kernel
theorem dX12_propose_46 : decode cX12_propose 46 = .ok (.ifCond .eq 7, 3) := by decide +kernel
theorem dX12_propose_49 : decode cX12_propose 49 = .ok (.iconst 1, 1) := by decide +kernel
theorem dX12_propose_50 : decode cX12_propose 50 = .ok (.goto 4, 3) := by decide +kernel
theorem dX12_propose_53 : decode cX12_propose 53 = .ok (.iconst 0, 1) := by decide +kernel
theorem dX12_propose_54 : decode cX12_propose 54 = .ok (.invokevirtual 173, 3) := by decide +kernel
theorem dX12_propose_57 : decode cX12_propose 57 = .ok (.ifCond .ne 5, 3) := by decide +kernel
theorem dX12_propose_60 : decode cX12_propose 60 = .ok (.iconst 0, 1) := by decide +kernel
theorem dX12_propose_61 : decode cX12_propose 61 = .ok (.ireturn, 1) := by decide +kernel
theorem dX12_propose_62 : decode cX12_propose 62 = .ok (.aload_n 0, 1) := by decide +kernel
theorem dX12_propose_63 : decode cX12_propose 63 = .ok (.dup, 1) := by decide +kernel
theorem dX12_propose_64 : decode cX12_propose 64 = .ok (.getfield 164, 3) := by decide +kernel
theorem dX12_propose_67 : decode cX12_propose 67 = .ok (.iconst 1, 1) := by decide +kernel
theorem dX12_propose_68 : decode cX12_propose 68 = .ok (.iadd, 1) := by decide +kernel
theorem dX12_propose_69 : decode cX12_propose 69 = .ok (.putfield 164, 3) := by decide +kernel
theorem dX12_propose_72 : decode cX12_propose 72 = .ok (.iconst 4, 1) := by decide +kernel
theorem dX12_propose_73 : decode cX12_propose 73 = .ok (.iload_n 1, 1) := by decide +kernel
theorem dX12_propose_74 : decode cX12_propose 74 = .ok (.imul, 1) := by decide +kernel
theorem dX12_propose_75 : decode cX12_propose 75 = .ok (.iload_n 2, 1) := by decide +kernel
theorem dX12_propose_76 : decode cX12_propose 76 = .ok (.iadd, 1) := by decide +kernel
theorem dX12_propose_77 : decode cX12_propose 77 = .ok (.istore 5, 2) := by decide +kernel
theorem dX12_propose_79 : decode cX12_propose 79 = .ok (.iload_n 1, 1) := by decide +kernel
theorem dX12_propose_80 : decode cX12_propose 80 = .ok (.istore 6, 2) := by decide +kernel
theorem dX12_propose_82 : decode cX12_propose 82 = .ok (.iload 6, 2) := by decide +kernel
theorem dX12_propose_84 : decode cX12_propose 84 = .ok (.aload_n 0, 1) := by decide +kernel
theorem dX12_propose_85 : decode cX12_propose 85 = .ok (.getfield 87, 3) := by decide +kernel
theorem dX12_propose_88 : decode cX12_propose 88 = .ok (.iload 5, 2) := by decide +kernel
theorem dX12_propose_90 : decode cX12_propose 90 = .ok (.iaload, 1) := by decide +kernel
theorem dX12_propose_91 : decode cX12_propose 91 = .ok (.if_icmp .gt 9, 3) := by decide +kernel
theorem dX12_propose_94 : decode cX12_propose 94 = .ok (.iinc 6 8, 3) := by decide +kernel
theorem dX12_propose_97 : decode cX12_propose 97 = .ok (.goto (-15), 3) := by decide +kernel
theorem dX12_propose_100 : decode cX12_propose 100 = .ok (.aload_n 0, 1) := by decide +kernel
theorem dX12_propose_101 : decode cX12_propose 101 = .ok (.getfield 87, 3) := by decide +kernel
theorem dX12_propose_104 : decode cX12_propose 104 = .ok (.iload 5, 2) := by decide +kernel
theorem dX12_propose_106 : decode cX12_propose 106 = .ok (.iload 6, 2) := by decide +kernel
theorem dX12_propose_108 : decode cX12_propose 108 = .ok (.iastore, 1) := by decide +kernel
theorem dX12_propose_109 : decode cX12_propose 109 = .ok (.aload_n 0, 1) := by decide +kernel
theorem dX12_propose_110 : decode cX12_propose 110 = .ok (.getfield 99, 3) := by decide +kernel
theorem dX12_propose_113 : decode cX12_propose 113 = .ok (.iload 5, 2) := by decide +kernel
theorem dX12_propose_115 : decode cX12_propose 115 = .ok (.iload 6, 2) := by decide +kernel
theorem dX12_propose_117 : decode cX12_propose 117 = .ok (.iastore, 1) := by decide +kernel
theorem dX12_propose_118 : decode cX12_propose 118 = .ok (.aload_n 0, 1) := by decide +kernel
theorem dX12_propose_119 : decode cX12_propose 119 = .ok (.getfield 102, 3) := by decide +kernel
theorem dX12_propose_122 : decode cX12_propose 122 = .ok (.iload 5, 2) := by decide +kernel
theorem dX12_propose_124 : decode cX12_propose 124 = .ok (.aload_n 0, 1) := by decide +kernel
theorem dX12_propose_125 : decode cX12_propose 125 = .ok (.getfield 90, 3) := by decide +kernel
theorem dX12_propose_128 : decode cX12_propose 128 = .ok (.iload 5, 2) := by decide +kernel
theorem dX12_propose_130 : decode cX12_propose 130 = .ok (.iaload, 1) := by decide +kernel
theorem dX12_propose_131 : decode cX12_propose 131 = .ok (.iconst (-1), 1) := by decide +kernel
theorem dX12_propose_132 : decode cX12_propose 132 = .ok (.if_icmp .ne 7, 3) := by decide +kernel
theorem dX12_propose_135 : decode cX12_propose 135 = .ok (.iload_n 3, 1) := by decide +kernel
theorem dX12_propose_136 : decode cX12_propose 136 = .ok (.goto 10, 3) := by decide +kernel
theorem dX12_propose_139 : decode cX12_propose 139 = .ok (.aload_n 0, 1) := by decide +kernel
theorem dX12_propose_140 : decode cX12_propose 140 = .ok (.getfield 93, 3) := by decide +kernel
theorem dX12_propose_143 : decode cX12_propose 143 = .ok (.iload 5, 2) := by decide +kernel
theorem dX12_propose_145 : decode cX12_propose 145 = .ok (.iaload, 1) := by decide +kernel
theorem dX12_propose_146 : decode cX12_propose 146 = .ok (.iastore, 1) := by decide +kernel
theorem dX12_propose_147 : decode cX12_propose 147 = .ok (.aload_n 0, 1) := by decide +kernel
theorem dX12_propose_148 : decode cX12_propose 148 = .ok (.getfield 108, 3) := by decide +kernel
theorem dX12_propose_151 : decode cX12_propose 151 = .ok (.iload 5, 2) := by decide +kernel
theorem dX12_propose_153 : decode cX12_propose 153 = .ok (.aload_n 0, 1) := by decide +kernel
theorem dX12_propose_154 : decode cX12_propose 154 = .ok (.getfield 90, 3) := by decide +kernel
theorem dX12_propose_157 : decode cX12_propose 157 = .ok (.iload 5, 2) := by decide +kernel
theorem dX12_propose_159 : decode cX12_propose 159 = .ok (.iaload, 1) := by decide +kernel
theorem dX12_propose_160 : decode cX12_propose 160 = .ok (.iastore, 1) := by decide +kernel
theorem dX12_propose_161 : decode cX12_propose 161 = .ok (.aload_n 0, 1) := by decide +kernel
theorem dX12_propose_162 : decode cX12_propose 162 = .ok (.getfield 105, 3) := by decide +kernel
theorem dX12_propose_165 : decode cX12_propose 165 = .ok (.iload 5, 2) := by decide +kernel
theorem dX12_propose_167 : decode cX12_propose 167 = .ok (.iconst 1, 1) := by decide +kernel
theorem dX12_propose_168 : decode cX12_propose 168 = .ok (.iload_n 1, 1) := by decide +kernel
theorem dX12_propose_169 : decode cX12_propose 169 = .ok (.ishl, 1) := by decide +kernel
theorem dX12_propose_170 : decode cX12_propose 170 = .ok (.iastore, 1) := by decide +kernel
theorem dX12_propose_171 : decode cX12_propose 171 = .ok (.aload_n 0, 1) := by decide +kernel
theorem dX12_propose_172 : decode cX12_propose 172 = .ok (.getfield 111, 3) := by decide +kernel
theorem dX12_propose_175 : decode cX12_propose 175 = .ok (.iload 5, 2) := by decide +kernel
theorem dX12_propose_177 : decode cX12_propose 177 = .ok (.iconst 0, 1) := by decide +kernel
theorem dX12_propose_178 : decode cX12_propose 178 = .ok (.bastore, 1) := by decide +kernel
theorem dX12_propose_179 : decode cX12_propose 179 = .ok (.aload_n 0, 1) := by decide +kernel
theorem dX12_propose_180 : decode cX12_propose 180 = .ok (.getfield 114, 3) := by decide +kernel
theorem dX12_propose_183 : decode cX12_propose 183 = .ok (.iload 5, 2) := by decide +kernel
theorem dX12_propose_185 : decode cX12_propose 185 = .ok (.iconst 0, 1) := by decide +kernel
theorem dX12_propose_186 : decode cX12_propose 186 = .ok (.iastore, 1) := by decide +kernel
theorem dX12_propose_187 : decode cX12_propose 187 = .ok (.iconst 0, 1) := by decide +kernel
theorem dX12_propose_188 : decode cX12_propose 188 = .ok (.istore 7, 2) := by decide +kernel
theorem dX12_propose_190 : decode cX12_propose 190 = .ok (.iload 7, 2) := by decide +kernel
theorem dX12_propose_192 : decode cX12_propose 192 = .ok (.aload_n 0, 1) := by decide +kernel
theorem dX12_propose_193 : decode cX12_propose 193 = .ok (.getfield 7, 3) := by decide +kernel
theorem dX12_propose_196 : decode cX12_propose 196 = .ok (.if_icmp .ge 44, 3) := by decide +kernel
theorem dX12_propose_199 : decode cX12_propose 199 = .ok (.iload 7, 2) := by decide +kernel
theorem dX12_propose_201 : decode cX12_propose 201 = .ok (.iload_n 1, 1) := by decide +kernel
theorem dX12_propose_202 : decode cX12_propose 202 = .ok (.if_icmp .eq 32, 3) := by decide +kernel
theorem dX12_propose_205 : decode cX12_propose 205 = .ok (.aload_n 0, 1) := by decide +kernel
theorem dX12_propose_206 : decode cX12_propose 206 = .ok (.iconst 4, 1) := by decide +kernel
theorem dX12_propose_207 : decode cX12_propose 207 = .ok (.iload_n 1, 1) := by decide +kernel
theorem dX12_propose_208 : decode cX12_propose 208 = .ok (.iload 7, 2) := by decide +kernel
theorem dX12_propose_210 : decode cX12_propose 210 = .ok (.iload 6, 2) := by decide +kernel
theorem dX12_propose_212 : decode cX12_propose 212 = .ok (.invokevirtual 229, 3) := by decide +kernel
theorem dX12_propose_215 : decode cX12_propose 215 = .ok (.istore 8, 2) := by decide +kernel
theorem dX12_propose_217 : decode cX12_propose 217 = .ok (.iload 8, 2) := by decide +kernel
theorem dX12_propose_219 : decode cX12_propose 219 = .ok (.iconst (-1), 1) := by decide +kernel
theorem dX12_propose_220 : decode cX12_propose 220 = .ok (.if_icmp .eq 14, 3) := by decide +kernel
theorem dX12_propose_223 : decode cX12_propose 223 = .ok (.aload_n 0, 1) := by decide +kernel
theorem dX12_propose_224 : decode cX12_propose 224 = .ok (.getfield 117, 3) := by decide +kernel
theorem dX12_propose_227 : decode cX12_propose 227 = .ok (.iload 8, 2) := by decide +kernel
theorem dX12_propose_229 : decode cX12_propose 229 = .ok (.bipush 6, 2) := by decide +kernel
theorem dX12_propose_231 : decode cX12_propose 231 = .ok (.iadd, 1) := by decide +kernel
theorem dX12_propose_232 : decode cX12_propose 232 = .ok (.iload_n 2, 1) := by decide +kernel
theorem dX12_propose_233 : decode cX12_propose 233 = .ok (.iastore, 1) := by decide +kernel
theorem dX12_propose_234 : decode cX12_propose 234 = .ok (.iinc 7 1, 3) := by decide +kernel
theorem dX12_propose_237 : decode cX12_propose 237 = .ok (.goto (-47), 3) := by decide +kernel
theorem dX12_propose_240 : decode cX12_propose 240 = .ok (.aload_n 0, 1) := by decide +kernel
theorem dX12_propose_241 : decode cX12_propose 241 = .ok (.invokevirtual 187, 3) := by decide +kernel
theorem dX12_propose_244 : decode cX12_propose 244 = .ok (.iload 6, 2) := by decide +kernel
theorem dX12_propose_246 : decode cX12_propose 246 = .ok (.ireturn, 1) := by decide +kernel
theorem dX12_prepared_0 : decode cX12_prepared 0 = .ok (.iconst 4, 1) := by decide +kernel
theorem dX12_prepared_1 : decode cX12_prepared 1 = .ok (.iload_n 1, 1) := by decide +kernel
theorem dX12_prepared_2 : decode cX12_prepared 2 = .ok (.imul, 1) := by decide +kernel
theorem dX12_prepared_3 : decode cX12_prepared 3 = .ok (.aload_n 0, 1) := by decide +kernel
theorem dX12_prepared_4 : decode cX12_prepared 4 = .ok (.getfield 144, 3) := by decide +kernel
theorem dX12_prepared_7 : decode cX12_prepared 7 = .ok (.bipush 6, 2) := by decide +kernel
theorem dX12_prepared_9 : decode cX12_prepared 9 = .ok (.iaload, 1) := by decide +kernel
theorem dX12_prepared_10 : decode cX12_prepared 10 = .ok (.iadd, 1) := by decide +kernel
theorem dX12_prepared_11 : decode cX12_prepared 11 = .ok (.istore_n 2, 1) := by decide +kernel
theorem dX12_prepared_12 : decode cX12_prepared 12 = .ok (.aload_n 0, 1) := by decide +kernel
theorem dX12_prepared_13 : decode cX12_prepared 13 = .ok (.getfield 144, 3) := by decide +kernel
theorem dX12_prepared_16 : decode cX12_prepared 16 = .ok (.iconst 3, 1) := by decide +kernel
theorem dX12_prepared_17 : decode cX12_prepared 17 = .ok (.iaload, 1) := by decide +kernel
theorem dX12_prepared_18 : decode cX12_prepared 18 = .ok (.aload_n 0, 1) := by decide +kernel
theorem dX12_prepared_19 : decode cX12_prepared 19 = .ok (.getfield 87, 3) := by decide +kernel
theorem dX12_prepared_22 : decode cX12_prepared 22 = .ok (.iload_n 2, 1) := by decide +kernel
theorem dX12_prepared_23 : decode cX12_prepared 23 = .ok (.iaload, 1) := by decide +kernel
theorem dX12_prepared_24 : decode cX12_prepared 24 = .ok (.if_icmp .le 83, 3) := by decide +kernel
theorem dX12_prepared_27 : decode cX12_prepared 27 = .ok (.aload_n 0, 1) := by decide +kernel
theorem dX12_prepared_28 : decode cX12_prepared 28 = .ok (.getfield 87, 3) := by decide +kernel
theorem dX12_prepared_31 : decode cX12_prepared 31 = .ok (.iload_n 2, 1) := by decide +kernel
theorem dX12_prepared_32 : decode cX12_prepared 32 = .ok (.aload_n 0, 1) := by decide +kernel
theorem dX12_prepared_33 : decode cX12_prepared 33 = .ok (.getfield 144, 3) := by decide +kernel
theorem dX12_prepared_36 : decode cX12_prepared 36 = .ok (.iconst 3, 1) := by decide +kernel
theorem dX12_prepared_37 : decode cX12_prepared 37 = .ok (.iaload, 1) := by decide +kernel
theorem dX12_prepared_38 : decode cX12_prepared 38 = .ok (.iastore, 1) := by decide +kernel
theorem dX12_prepared_39 : decode cX12_prepared 39 = .ok (.aload_n 0, 1) := by decide +kernel
theorem dX12_prepared_40 : decode cX12_prepared 40 = .ok (.iconst 5, 1) := by decide +kernel
theorem dX12_prepared_41 : decode cX12_prepared 41 = .ok (.iload_n 1, 1) := by decide +kernel
theorem dX12_prepared_42 : decode cX12_prepared 42 = .ok (.aload_n 0, 1) := by decide +kernel
theorem dX12_prepared_43 : decode cX12_prepared 43 = .ok (.getfield 144, 3) := by decide +kernel
theorem dX12_prepared_46 : decode cX12_prepared 46 = .ok (.iconst 1, 1) := by decide +kernel
theorem dX12_prepared_47 : decode cX12_prepared 47 = .ok (.iaload, 1) := by decide +kernel
theorem dX12_prepared_48 : decode cX12_prepared 48 = .ok (.aload_n 0, 1) := by decide +kernel
theorem dX12_prepared_49 : decode cX12_prepared 49 = .ok (.getfield 144, 3) := by decide +kernel
theorem dX12_prepared_52 : decode cX12_prepared 52 = .ok (.iconst 3, 1) := by decide +kernel
theorem dX12_prepared_53 : decode cX12_prepared 53 = .ok (.iaload, 1) := by decide +kernel
theorem dX12_prepared_54 : decode cX12_prepared 54 = .ok (.invokevirtual 229, 3) := by decide +kernel
theorem dX12_prepared_57 : decode cX12_prepared 57 = .ok (.istore_n 3, 1) := by decide +kernel
theorem dX12_prepared_58 : decode cX12_prepared 58 = .ok (.iload_n 3, 1) := by decide +kernel
theorem dX12_prepared_59 : decode cX12_prepared 59 = .ok (.iconst (-1), 1) := by decide +kernel
theorem dX12_prepared_60 : decode cX12_prepared 60 = .ok (.if_icmp .eq 47, 3) := by decide +kernel
theorem dX12_prepared_63 : decode cX12_prepared 63 = .ok (.aload_n 0, 1) := by decide +kernel
theorem dX12_prepared_64 : decode cX12_prepared 64 = .ok (.getfield 117, 3) := by decide +kernel
theorem dX12_prepared_67 : decode cX12_prepared 67 = .ok (.iload_n 3, 1) := by decide +kernel
theorem dX12_prepared_68 : decode cX12_prepared 68 = .ok (.iconst 4, 1) := by decide +kernel
theorem dX12_prepared_69 : decode cX12_prepared 69 = .ok (.iadd, 1) := by decide +kernel
theorem dX12_prepared_70 : decode cX12_prepared 70 = .ok (.aload_n 0, 1) := by decide +kernel
theorem dX12_prepared_71 : decode cX12_prepared 71 = .ok (.getfield 90, 3) := by decide +kernel
theorem dX12_prepared_74 : decode cX12_prepared 74 = .ok (.iload_n 2, 1) := by decide +kernel
theorem dX12_prepared_75 : decode cX12_prepared 75 = .ok (.iaload, 1) := by decide +kernel
theorem dX12_prepared_76 : decode cX12_prepared 76 = .ok (.iastore, 1) := by decide +kernel
theorem dX12_prepared_77 : decode cX12_prepared 77 = .ok (.aload_n 0, 1) := by decide +kernel
theorem dX12_prepared_78 : decode cX12_prepared 78 = .ok (.getfield 117, 3) := by decide +kernel
theorem dX12_prepared_81 : decode cX12_prepared 81 = .ok (.iload_n 3, 1) := by decide +kernel
theorem dX12_prepared_82 : decode cX12_prepared 82 = .ok (.iconst 5, 1) := by decide +kernel
theorem dX12_prepared_83 : decode cX12_prepared 83 = .ok (.iadd, 1) := by decide +kernel
theorem dX12_prepared_84 : decode cX12_prepared 84 = .ok (.aload_n 0, 1) := by decide +kernel
theorem dX12_prepared_85 : decode cX12_prepared 85 = .ok (.getfield 93, 3) := by decide +kernel
theorem dX12_prepared_88 : decode cX12_prepared 88 = .ok (.iload_n 2, 1) := by decide +kernel
theorem dX12_prepared_89 : decode cX12_prepared 89 = .ok (.iaload, 1) := by decide +kernel
theorem dX12_prepared_90 : decode cX12_prepared 90 = .ok (.iastore, 1) := by decide +kernel
theorem dX12_prepared_91 : decode cX12_prepared 91 = .ok (.aload_n 0, 1) := by decide +kernel
theorem dX12_prepared_92 : decode cX12_prepared 92 = .ok (.getfield 117, 3) := by decide +kernel
theorem dX12_prepared_95 : decode cX12_prepared 95 = .ok (.iload_n 3, 1) := by decide +kernel
theorem dX12_prepared_96 : decode cX12_prepared 96 = .ok (.bipush 6, 2) := by decide +kernel
theorem dX12_prepared_98 : decode cX12_prepared 98 = .ok (.iadd, 1) := by decide +kernel
theorem dX12_prepared_99 : decode cX12_prepared 99 = .ok (.aload_n 0, 1) := by decide +kernel
theorem dX12_prepared_100 : decode cX12_prepared 100 = .ok (.getfield 144, 3) := by decide +kernel
theorem dX12_prepared_103 : decode cX12_prepared 103 = .ok (.bipush 6, 2) := by decide +kernel
theorem dX12_prepared_105 : decode cX12_prepared 105 = .ok (.iaload, 1) := by decide +kernel
theorem dX12_prepared_106 : decode cX12_prepared 106 = .ok (.iastore, 1) := by decide +kernel
theorem dX12_prepared_107 : decode cX12_prepared 107 = .ok (.return_, 1) := by decide +kernel
theorem dX12_promised_0 : decode cX12_promised 0 = .ok (.iconst 4, 1) := by decide +kernel
theorem dX12_promised_1 : decode cX12_promised 1 = .ok (.iload_n 1, 1) := by decide +kernel
theorem dX12_promised_2 : decode cX12_promised 2 = .ok (.imul, 1) := by decide +kernel
theorem dX12_promised_3 : decode cX12_promised 3 = .ok (.aload_n 0, 1) := by decide +kernel
theorem dX12_promised_4 : decode cX12_promised 4 = .ok (.getfield 144, 3) := by decide +kernel
theorem dX12_promised_7 : decode cX12_promised 7 = .ok (.bipush 6, 2) := by decide +kernel
theorem dX12_promised_9 : decode cX12_promised 9 = .ok (.iaload, 1) := by decide +kernel
theorem dX12_promised_10 : decode cX12_promised 10 = .ok (.iadd, 1) := by decide +kernel
theorem dX12_promised_11 : decode cX12_promised 11 = .ok (.istore_n 2, 1) := by decide +kernel
theorem dX12_promised_12 : decode cX12_promised 12 = .ok (.aload_n 0, 1) := by decide +kernel
theorem dX12_promised_13 : decode cX12_promised 13 = .ok (.getfield 99, 3) := by decide +kernel
theorem dX12_promised_16 : decode cX12_promised 16 = .ok (.iload_n 2, 1) := by decide +kernel
theorem dX12_promised_17 : decode cX12_promised 17 = .ok (.iaload, 1) := by decide +kernel
theorem dX12_promised_18 : decode cX12_promised 18 = .ok (.aload_n 0, 1) := by decide +kernel
theorem dX12_promised_19 : decode cX12_promised 19 = .ok (.getfield 144, 3) := by decide +kernel
theorem dX12_promised_22 : decode cX12_promised 22 = .ok (.iconst 3, 1) := by decide +kernel
theorem dX12_promised_23 : decode cX12_promised 23 = .ok (.iaload, 1) := by decide +kernel
theorem dX12_promised_24 : decode cX12_promised 24 = .ok (.if_icmp .ne 27, 3) := by decide +kernel
theorem dX12_promised_27 : decode cX12_promised 27 = .ok (.aload_n 0, 1) := by decide +kernel
theorem dX12_promised_28 : decode cX12_promised 28 = .ok (.getfield 87, 3) := by decide +kernel
theorem dX12_promised_31 : decode cX12_promised 31 = .ok (.iload_n 2, 1) := by decide +kernel
theorem dX12_promised_32 : decode cX12_promised 32 = .ok (.iaload, 1) := by decide +kernel
theorem dX12_promised_33 : decode cX12_promised 33 = .ok (.aload_n 0, 1) := by decide +kernel
theorem dX12_promised_34 : decode cX12_promised 34 = .ok (.getfield 144, 3) := by decide +kernel
theorem dX12_promised_37 : decode cX12_promised 37 = .ok (.iconst 3, 1) := by decide +kernel
theorem dX12_promised_38 : decode cX12_promised 38 = .ok (.iaload, 1) := by decide +kernel
theorem dX12_promised_39 : decode cX12_promised 39 = .ok (.if_icmp .ne 12, 3) := by decide +kernel
theorem dX12_promised_42 : decode cX12_promised 42 = .ok (.aload_n 0, 1) := by decide +kernel
theorem dX12_promised_43 : decode cX12_promised 43 = .ok (.getfield 111, 3) := by decide +kernel
theorem dX12_promised_46 : decode cX12_promised 46 = .ok (.iload_n 2, 1) := by decide +kernel
theorem dX12_promised_47 : decode cX12_promised 47 = .ok (.baload, 1) := by decide +kernel
theorem dX12_promised_48 : decode cX12_promised 48 = .ok (.ifCond .eq 4, 3) := by decide +kernel
theorem dX12_promised_51 : decode cX12_promised 51 = .ok (.return_, 1) := by decide +kernel
theorem dX12_promised_52 : decode cX12_promised 52 = .ok (.aload_n 0, 1) := by decide +kernel
theorem dX12_promised_53 : decode cX12_promised 53 = .ok (.getfield 105, 3) := by decide +kernel
theorem dX12_promised_56 : decode cX12_promised 56 = .ok (.iload_n 2, 1) := by decide +kernel
theorem dX12_promised_57 : decode cX12_promised 57 = .ok (.dup2, 1) := by decide +kernel
theorem dX12_promised_58 : decode cX12_promised 58 = .ok (.iaload, 1) := by decide +kernel
theorem dX12_promised_59 : decode cX12_promised 59 = .ok (.iconst 1, 1) := by decide +kernel
theorem dX12_promised_60 : decode cX12_promised 60 = .ok (.aload_n 0, 1) := by decide +kernel
theorem dX12_promised_61 : decode cX12_promised 61 = .ok (.getfield 144, 3) := by decide +kernel
theorem dX12_promised_64 : decode cX12_promised 64 = .ok (.iconst 1, 1) := by decide +kernel
theorem dX12_promised_65 : decode cX12_promised 65 = .ok (.iaload, 1) := by decide +kernel
theorem dX12_promised_66 : decode cX12_promised 66 = .ok (.ishl, 1) := by decide +kernel
theorem dX12_promised_67 : decode cX12_promised 67 = .ok (.ior, 1) := by decide +kernel
theorem dX12_promised_68 : decode cX12_promised 68 = .ok (.iastore, 1) := by decide +kernel
theorem dX12_promised_69 : decode cX12_promised 69 = .ok (.aload_n 0, 1) := by decide +kernel
theorem dX12_promised_70 : decode cX12_promised 70 = .ok (.getfield 144, 3) := by decide +kernel
theorem dX12_promised_73 : decode cX12_promised 73 = .ok (.iconst 4, 1) := by decide +kernel
theorem dX12_promised_74 : decode cX12_promised 74 = .ok (.iaload, 1) := by decide +kernel
theorem dX12_promised_75 : decode cX12_promised 75 = .ok (.aload_n 0, 1) := by decide +kernel
theorem dX12_promised_76 : decode cX12_promised 76 = .ok (.getfield 108, 3) := by decide +kernel
theorem dX12_promised_79 : decode cX12_promised 79 = .ok (.iload_n 2, 1) := by decide +kernel
theorem dX12_promised_80 : decode cX12_promised 80 = .ok (.iaload, 1) := by decide +kernel
theorem dX12_promised_81 : decode cX12_promised 81 = .ok (.if_icmp .le 27, 3) := by decide +kernel
theorem dX12_promised_84 : decode cX12_promised 84 = .ok (.aload_n 0, 1) := by decide +kernel
theorem dX12_promised_85 : decode cX12_promised 85 = .ok (.getfield 108, 3) := by decide +kernel
theorem dX12_promised_88 : decode cX12_promised 88 = .ok (.iload_n 2, 1) := by decide +kernel
theorem dX12_promised_89 : decode cX12_promised 89 = .ok (.aload_n 0, 1) := by decide +kernel
theorem dX12_promised_90 : decode cX12_promised 90 = .ok (.getfield 144, 3) := by decide +kernel
theorem dX12_promised_93 : decode cX12_promised 93 = .ok (.iconst 4, 1) := by decide +kernel
theorem dX12_promised_94 : decode cX12_promised 94 = .ok (.iaload, 1) := by decide +kernel
theorem dX12_promised_95 : decode cX12_promised 95 = .ok (.iastore, 1) := by decide +kernel
theorem dX12_promised_96 : decode cX12_promised 96 = .ok (.aload_n 0, 1) := by decide +kernel
theorem dX12_promised_97 : decode cX12_promised 97 = .ok (.getfield 102, 3) := by decide +kernel
theorem dX12_promised_100 : decode cX12_promised 100 = .ok (.iload_n 2, 1) := by decide +kernel
theorem dX12_promised_101 : decode cX12_promised 101 = .ok (.aload_n 0, 1) := by decide +kernel
theorem dX12_promised_102 : decode cX12_promised 102 = .ok (.getfield 144, 3) := by decide +kernel
theorem dX12_promised_105 : decode cX12_promised 105 = .ok (.iconst 5, 1) := by decide +kernel
theorem dX12_promised_106 : decode cX12_promised 106 = .ok (.iaload, 1) := by decide +kernel
theorem dX12_promised_107 : decode cX12_promised 107 = .ok (.iastore, 1) := by decide +kernel
theorem dX12_promised_108 : decode cX12_promised 108 = .ok (.aload_n 0, 1) := by decide +kernel
theorem dX12_promised_109 : decode cX12_promised 109 = .ok (.getfield 105, 3) := by decide +kernel
theorem dX12_promised_112 : decode cX12_promised 112 = .ok (.iload_n 2, 1) := by decide +kernel
theorem dX12_promised_113 : decode cX12_promised 113 = .ok (.iaload, 1) := by decide +kernel
theorem dX12_promised_114 : decode cX12_promised 114 = .ok (.invokestatic 237, 3) := by decide +kernel
theorem dX12_promised_117 : decode cX12_promised 117 = .ok (.aload_n 0, 1) := by decide +kernel
theorem dX12_promised_118 : decode cX12_promised 118 = .ok (.invokevirtual 241, 3) := by decide +kernel
theorem dX12_promised_121 : decode cX12_promised 121 = .ok (.if_icmp .ge 4, 3) := by decide +kernel
theorem dX12_promised_124 : decode cX12_promised 124 = .ok (.return_, 1) := by decide +kernel
theorem dX12_promised_125 : decode cX12_promised 125 = .ok (.aload_n 0, 1) := by decide +kernel
theorem dX12_promised_126 : decode cX12_promised 126 = .ok (.getfield 111, 3) := by decide +kernel
theorem dX12_promised_129 : decode cX12_promised 129 = .ok (.iload_n 2, 1) := by decide +kernel
theorem dX12_promised_130 : decode cX12_promised 130 = .ok (.iconst 1, 1) := by decide +kernel
theorem dX12_promised_131 : decode cX12_promised 131 = .ok (.bastore, 1) := by decide +kernel
theorem dX12_promised_132 : decode cX12_promised 132 = .ok (.aload_n 0, 1) := by decide +kernel
theorem dX12_promised_133 : decode cX12_promised 133 = .ok (.getfield 90, 3) := by decide +kernel
theorem dX12_promised_136 : decode cX12_promised 136 = .ok (.iload_n 2, 1) := by decide +kernel
theorem dX12_promised_137 : decode cX12_promised 137 = .ok (.aload_n 0, 1) := by decide +kernel
theorem dX12_promised_138 : decode cX12_promised 138 = .ok (.getfield 99, 3) := by decide +kernel
theorem dX12_promised_141 : decode cX12_promised 141 = .ok (.iload_n 2, 1) := by decide +kernel
theorem dX12_promised_142 : decode cX12_promised 142 = .ok (.iaload, 1) := by decide +kernel
theorem dX12_promised_143 : decode cX12_promised 143 = .ok (.iastore, 1) := by decide +kernel
theorem dX12_promised_144 : decode cX12_promised 144 = .ok (.aload_n 0, 1) := by decide +kernel
theorem dX12_promised_145 : decode cX12_promised 145 = .ok (.getfield 93, 3) := by decide +kernel
theorem dX12_promised_148 : decode cX12_promised 148 = .ok (.iload_n 2, 1) := by decide +kernel
theorem dX12_promised_149 : decode cX12_promised 149 = .ok (.aload_n 0, 1) := by decide +kernel
theorem dX12_promised_150 : decode cX12_promised 150 = .ok (.getfield 102, 3) := by decide +kernel
theorem dX12_promised_153 : decode cX12_promised 153 = .ok (.iload_n 2, 1) := by decide +kernel
theorem dX12_promised_154 : decode cX12_promised 154 = .ok (.iaload, 1) := by decide +kernel
theorem dX12_promised_155 : decode cX12_promised 155 = .ok (.iastore, 1) := by decide +kernel
theorem dX12_promised_156 : decode cX12_promised 156 = .ok (.aload_n 0, 1) := by decide +kernel
theorem dX12_promised_157 : decode cX12_promised 157 = .ok (.getfield 114, 3) := by decide +kernel
theorem dX12_promised_160 : decode cX12_promised 160 = .ok (.iload_n 2, 1) := by decide +kernel
theorem dX12_promised_161 : decode cX12_promised 161 = .ok (.iconst 1, 1) := by decide +kernel
theorem dX12_promised_162 : decode cX12_promised 162 = .ok (.iload_n 1, 1) := by decide +kernel
theorem dX12_promised_163 : decode cX12_promised 163 = .ok (.ishl, 1) := by decide +kernel
theorem dX12_promised_164 : decode cX12_promised 164 = .ok (.iastore, 1) := by decide +kernel
theorem dX12_promised_165 : decode cX12_promised 165 = .ok (.iconst 0, 1) := by decide +kernel
theorem dX12_promised_166 : decode cX12_promised 166 = .ok (.istore_n 3, 1) := by decide +kernel
theorem dX12_promised_167 : decode cX12_promised 167 = .ok (.iload_n 3, 1) := by decide +kernel
theorem dX12_promised_168 : decode cX12_promised 168 = .ok (.aload_n 0, 1) := by decide +kernel
theorem dX12_promised_169 : decode cX12_promised 169 = .ok (.getfield 7, 3) := by decide +kernel
theorem dX12_promised_172 : decode cX12_promised 172 = .ok (.if_icmp .ge 69, 3) := by decide +kernel
theorem dX12_promised_175 : decode cX12_promised 175 = .ok (.iload_n 3, 1) := by decide +kernel
theorem dX12_promised_176 : decode cX12_promised 176 = .ok (.iload_n 1, 1) := by decide +kernel
theorem dX12_promised_177 : decode cX12_promised 177 = .ok (.if_icmp .eq 58, 3) := by decide +kernel
theorem dX12_promised_180 : decode cX12_promised 180 = .ok (.aload_n 0, 1) := by decide +kernel
theorem dX12_promised_181 : decode cX12_promised 181 = .ok (.bipush 6, 2) := by decide +kernel
theorem dX12_promised_183 : decode cX12_promised 183 = .ok (.iload_n 1, 1) := by decide +kernel
theorem dX12_promised_184 : decode cX12_promised 184 = .ok (.iload_n 3, 1) := by decide +kernel
theorem dX12_promised_185 : decode cX12_promised 185 = .ok (.aload_n 0, 1) := by decide +kernel
theorem dX12_promised_186 : decode cX12_promised 186 = .ok (.getfield 99, 3) := by decide +kernel
theorem dX12_promised_189 : decode cX12_promised 189 = .ok (.iload_n 2, 1) := by decide +kernel
theorem dX12_promised_190 : decode cX12_promised 190 = .ok (.iaload, 1) := by decide +kernel
theorem dX12_promised_191 : decode cX12_promised 191 = .ok (.invokevirtual 229, 3) := by decide +kernel
theorem dX12_promised_194 : decode cX12_promised 194 = .ok (.istore 4, 2) := by decide +kernel
theorem dX12_promised_196 : decode cX12_promised 196 = .ok (.iload 4, 2) := by decide +kernel
theorem dX12_promised_198 : decode cX12_promised 198 = .ok (.iconst (-1), 1) := by decide +kernel
theorem dX12_promised_199 : decode cX12_promised 199 = .ok (.if_icmp .eq 36, 3) := by decide +kernel
theorem dX12_promised_202 : decode cX12_promised 202 = .ok (.aload_n 0, 1) := by decide +kernel
theorem dX12_promised_203 : decode cX12_promised 203 = .ok (.getfield 117, 3) := by decide +kernel
theorem dX12_promised_206 : decode cX12_promised 206 = .ok (.iload 4, 2) := by decide +kernel
theorem dX12_promised_208 : decode cX12_promised 208 = .ok (.bipush 6, 2) := by decide +kernel
theorem dX12_promised_210 : decode cX12_promised 210 = .ok (.iadd, 1) := by decide +kernel
theorem dX12_promised_211 : decode cX12_promised 211 = .ok (.aload_n 0, 1) := by decide +kernel
theorem dX12_promised_212 : decode cX12_promised 212 = .ok (.getfield 144, 3) := by decide +kernel
theorem dX12_promised_215 : decode cX12_promised 215 = .ok (.bipush 6, 2) := by decide +kernel
theorem dX12_promised_217 : decode cX12_promised 217 = .ok (.iaload, 1) := by decide +kernel
theorem dX12_promised_218 : decode cX12_promised 218 = .ok (.iastore, 1) := by decide +kernel
theorem dX12_promised_219 : decode cX12_promised 219 = .ok (.aload_n 0, 1) := by decide +kernel
theorem dX12_promised_220 : decode cX12_promised 220 = .ok (.getfield 117, 3) := by decide +kernel
theorem dX12_promised_223 : decode cX12_promised 223 = .ok (.iload 4, 2) := by decide +kernel
theorem dX12_promised_225 : decode cX12_promised 225 = .ok (.bipush 9, 2) := by decide +kernel
theorem dX12_promised_227 : decode cX12_promised 227 = .ok (.iadd, 1) := by decide +kernel
theorem dX12_promised_228 : decode cX12_promised 228 = .ok (.aload_n 0, 1) := by decide +kernel
theorem dX12_promised_229 : decode cX12_promised 229 = .ok (.getfield 102, 3) := by decide +kernel
theorem dX12_promised_232 : decode cX12_promised 232 = .ok (.iload_n 2, 1) := by decide +kernel
theorem dX12_promised_233 : decode cX12_promised 233 = .ok (.iaload, 1) := by decide +kernel
theorem dX12_promised_234 : decode cX12_promised 234 = .ok (.iastore, 1) := by decide +kernel
theorem dX12_promised_235 : decode cX12_promised 235 = .ok (.iinc 3 1, 3) := by decide +kernel
theorem dX12_promised_238 : decode cX12_promised 238 = .ok (.goto (-71), 3) := by decide +kernel
theorem dX12_promised_241 : decode cX12_promised 241 = .ok (.return_, 1) := by decide +kernel
theorem dX12_accepted_0 : decode cX12_accepted 0 = .ok (.iconst 4, 1) := by decide +kernel
theorem dX12_accepted_1 : decode cX12_accepted 1 = .ok (.iload_n 1, 1) := by decide +kernel
theorem dX12_accepted_2 : decode cX12_accepted 2 = .ok (.imul, 1) := by decide +kernel
theorem dX12_accepted_3 : decode cX12_accepted 3 = .ok (.aload_n 0, 1) := by decide +kernel
theorem dX12_accepted_4 : decode cX12_accepted 4 = .ok (.getfield 144, 3) := by decide +kernel
theorem dX12_accepted_7 : decode cX12_accepted 7 = .ok (.bipush 6, 2) := by decide +kernel
theorem dX12_accepted_9 : decode cX12_accepted 9 = .ok (.iaload, 1) := by decide +kernel
theorem dX12_accepted_10 : decode cX12_accepted 10 = .ok (.iadd, 1) := by decide +kernel
theorem dX12_accepted_11 : decode cX12_accepted 11 = .ok (.istore_n 2, 1) := by decide +kernel
theorem dX12_accepted_12 : decode cX12_accepted 12 = .ok (.aload_n 0, 1) := by decide +kernel
theorem dX12_accepted_13 : decode cX12_accepted 13 = .ok (.getfield 144, 3) := by decide +kernel
theorem dX12_accepted_16 : decode cX12_accepted 16 = .ok (.iconst 3, 1) := by decide +kernel
theorem dX12_accepted_17 : decode cX12_accepted 17 = .ok (.iaload, 1) := by decide +kernel
theorem dX12_accepted_18 : decode cX12_accepted 18 = .ok (.aload_n 0, 1) := by decide +kernel
theorem dX12_accepted_19 : decode cX12_accepted 19 = .ok (.getfield 87, 3) := by decide +kernel
theorem dX12_accepted_22 : decode cX12_accepted 22 = .ok (.iload_n 2, 1) := by decide +kernel
theorem dX12_accepted_23 : decode cX12_accepted 23 = .ok (.iaload, 1) := by decide +kernel
theorem dX12_accepted_24 : decode cX12_accepted 24 = .ok (.if_icmp .lt 81, 3) := by decide +kernel
theorem dX12_accepted_27 : decode cX12_accepted 27 = .ok (.aload_n 0, 1) := by decide +kernel
theorem dX12_accepted_28 : decode cX12_accepted 28 = .ok (.getfield 87, 3) := by decide +kernel
theorem dX12_accepted_31 : decode cX12_accepted 31 = .ok (.iload_n 2, 1) := by decide +kernel
theorem dX12_accepted_32 : decode cX12_accepted 32 = .ok (.aload_n 0, 1) := by decide +kernel
theorem dX12_accepted_33 : decode cX12_accepted 33 = .ok (.getfield 144, 3) := by decide +kernel
theorem dX12_accepted_36 : decode cX12_accepted 36 = .ok (.iconst 3, 1) := by decide +kernel
theorem dX12_accepted_37 : decode cX12_accepted 37 = .ok (.iaload, 1) := by decide +kernel
theorem dX12_accepted_38 : decode cX12_accepted 38 = .ok (.iastore, 1) := by decide +kernel
theorem dX12_accepted_39 : decode cX12_accepted 39 = .ok (.aload_n 0, 1) := by decide +kernel
theorem dX12_accepted_40 : decode cX12_accepted 40 = .ok (.getfield 90, 3) := by decide +kernel
theorem dX12_accepted_43 : decode cX12_accepted 43 = .ok (.iload_n 2, 1) := by decide +kernel
theorem dX12_accepted_44 : decode cX12_accepted 44 = .ok (.aload_n 0, 1) := by decide +kernel
theorem dX12_accepted_45 : decode cX12_accepted 45 = .ok (.getfield 144, 3) := by decide +kernel
theorem dX12_accepted_48 : decode cX12_accepted 48 = .ok (.iconst 3, 1) := by decide +kernel
theorem dX12_accepted_49 : decode cX12_accepted 49 = .ok (.iaload, 1) := by decide +kernel
theorem dX12_accepted_50 : decode cX12_accepted 50 = .ok (.iastore, 1) := by decide +kernel
theorem dX12_accepted_51 : decode cX12_accepted 51 = .ok (.aload_n 0, 1) := by decide +kernel
theorem dX12_accepted_52 : decode cX12_accepted 52 = .ok (.getfield 93, 3) := by decide +kernel
theorem dX12_accepted_55 : decode cX12_accepted 55 = .ok (.iload_n 2, 1) := by decide +kernel
theorem dX12_accepted_56 : decode cX12_accepted 56 = .ok (.aload_n 0, 1) := by decide +kernel
theorem dX12_accepted_57 : decode cX12_accepted 57 = .ok (.getfield 144, 3) := by decide +kernel
theorem dX12_accepted_60 : decode cX12_accepted 60 = .ok (.bipush 9, 2) := by decide +kernel
theorem dX12_accepted_62 : decode cX12_accepted 62 = .ok (.iaload, 1) := by decide +kernel
theorem dX12_accepted_63 : decode cX12_accepted 63 = .ok (.iastore, 1) := by decide +kernel
theorem dX12_accepted_64 : decode cX12_accepted 64 = .ok (.aload_n 0, 1) := by decide +kernel
theorem dX12_accepted_65 : decode cX12_accepted 65 = .ok (.bipush 7, 2) := by decide +kernel
theorem dX12_accepted_67 : decode cX12_accepted 67 = .ok (.iload_n 1, 1) := by decide +kernel
theorem dX12_accepted_68 : decode cX12_accepted 68 = .ok (.aload_n 0, 1) := by decide +kernel
theorem dX12_accepted_69 : decode cX12_accepted 69 = .ok (.getfield 144, 3) := by decide +kernel
theorem dX12_accepted_72 : decode cX12_accepted 72 = .ok (.iconst 1, 1) := by decide +kernel
theorem dX12_accepted_73 : decode cX12_accepted 73 = .ok (.iaload, 1) := by decide +kernel
theorem dX12_accepted_74 : decode cX12_accepted 74 = .ok (.aload_n 0, 1) := by decide +kernel
theorem dX12_accepted_75 : decode cX12_accepted 75 = .ok (.getfield 144, 3) := by decide +kernel
theorem dX12_accepted_78 : decode cX12_accepted 78 = .ok (.iconst 3, 1) := by decide +kernel
theorem dX12_accepted_79 : decode cX12_accepted 79 = .ok (.iaload, 1) := by decide +kernel
theorem dX12_accepted_80 : decode cX12_accepted 80 = .ok (.invokevirtual 229, 3) := by decide +kernel
theorem dX12_accepted_83 : decode cX12_accepted 83 = .ok (.istore_n 3, 1) := by decide +kernel
theorem dX12_accepted_84 : decode cX12_accepted 84 = .ok (.iload_n 3, 1) := by decide +kernel
theorem dX12_accepted_85 : decode cX12_accepted 85 = .ok (.iconst (-1), 1) := by decide +kernel
theorem dX12_accepted_86 : decode cX12_accepted 86 = .ok (.if_icmp .eq 19, 3) := by decide +kernel
theorem dX12_accepted_89 : decode cX12_accepted 89 = .ok (.aload_n 0, 1) := by decide +kernel
theorem dX12_accepted_90 : decode cX12_accepted 90 = .ok (.getfield 117, 3) := by decide +kernel
theorem dX12_accepted_93 : decode cX12_accepted 93 = .ok (.iload_n 3, 1) := by decide +kernel
theorem dX12_accepted_94 : decode cX12_accepted 94 = .ok (.bipush 6, 2) := by decide +kernel
theorem dX12_accepted_96 : decode cX12_accepted 96 = .ok (.iadd, 1) := by decide +kernel
theorem dX12_accepted_97 : decode cX12_accepted 97 = .ok (.aload_n 0, 1) := by decide +kernel
theorem dX12_accepted_98 : decode cX12_accepted 98 = .ok (.getfield 144, 3) := by decide +kernel
theorem dX12_accepted_101 : decode cX12_accepted 101 = .ok (.bipush 6, 2) := by decide +kernel
theorem dX12_accepted_103 : decode cX12_accepted 103 = .ok (.iaload, 1) := by decide +kernel
theorem dX12_accepted_104 : decode cX12_accepted 104 = .ok (.iastore, 1) := by decide +kernel
theorem dX12_accepted_105 : decode cX12_accepted 105 = .ok (.return_, 1) := by decide +kernel
theorem dX12_counts_0 : decode cX12_counts 0 = .ok (.iconst 4, 1) := by decide +kernel
theorem dX12_counts_1 : decode cX12_counts 1 = .ok (.iload_n 1, 1) := by decide +kernel
theorem dX12_counts_2 : decode cX12_counts 2 = .ok (.imul, 1) := by decide +kernel
theorem dX12_counts_3 : decode cX12_counts 3 = .ok (.aload_n 0, 1) := by decide +kernel
theorem dX12_counts_4 : decode cX12_counts 4 = .ok (.getfield 144, 3) := by decide +kernel
theorem dX12_counts_7 : decode cX12_counts 7 = .ok (.bipush 6, 2) := by decide +kernel
theorem dX12_counts_9 : decode cX12_counts 9 = .ok (.iaload, 1) := by decide +kernel
theorem dX12_counts_10 : decode cX12_counts 10 = .ok (.iadd, 1) := by decide +kernel
theorem dX12_counts_11 : decode cX12_counts 11 = .ok (.istore_n 2, 1) := by decide +kernel
theorem dX12_counts_12 : decode cX12_counts 12 = .ok (.aload_n 0, 1) := by decide +kernel
theorem dX12_counts_13 : decode cX12_counts 13 = .ok (.getfield 99, 3) := by decide +kernel
theorem dX12_counts_16 : decode cX12_counts 16 = .ok (.iload_n 2, 1) := by decide +kernel
theorem dX12_counts_17 : decode cX12_counts 17 = .ok (.iaload, 1) := by decide +kernel
theorem dX12_counts_18 : decode cX12_counts 18 = .ok (.aload_n 0, 1) := by decide +kernel
theorem dX12_counts_19 : decode cX12_counts 19 = .ok (.getfield 144, 3) := by decide +kernel
theorem dX12_counts_22 : decode cX12_counts 22 = .ok (.iconst 3, 1) := by decide +kernel
theorem dX12_counts_23 : decode cX12_counts 23 = .ok (.iaload, 1) := by decide +kernel
theorem dX12_counts_24 : decode cX12_counts 24 = .ok (.if_icmp .ne 67, 3) := by decide +kernel
theorem dX12_counts_27 : decode cX12_counts 27 = .ok (.aload_n 0, 1) := by decide +kernel
theorem dX12_counts_28 : decode cX12_counts 28 = .ok (.getfield 111, 3) := by decide +kernel
theorem dX12_counts_31 : decode cX12_counts 31 = .ok (.iload_n 2, 1) := by decide +kernel
theorem dX12_counts_32 : decode cX12_counts 32 = .ok (.baload, 1) := by decide +kernel
theorem dX12_counts_33 : decode cX12_counts 33 = .ok (.ifCond .eq 58, 3) := by decide +kernel
theorem dX12_counts_36 : decode cX12_counts 36 = .ok (.aload_n 0, 1) := by decide +kernel
theorem dX12_counts_37 : decode cX12_counts 37 = .ok (.getfield 114, 3) := by decide +kernel
theorem dX12_counts_40 : decode cX12_counts 40 = .ok (.iload_n 2, 1) := by decide +kernel
theorem dX12_counts_41 : decode cX12_counts 41 = .ok (.dup2, 1) := by decide +kernel
theorem dX12_counts_42 : decode cX12_counts 42 = .ok (.iaload, 1) := by decide +kernel
theorem dX12_counts_43 : decode cX12_counts 43 = .ok (.iconst 1, 1) := by decide +kernel
theorem dX12_counts_44 : decode cX12_counts 44 = .ok (.aload_n 0, 1) := by decide +kernel
theorem dX12_counts_45 : decode cX12_counts 45 = .ok (.getfield 144, 3) := by decide +kernel
theorem dX12_counts_48 : decode cX12_counts 48 = .ok (.iconst 1, 1) := by decide +kernel
theorem dX12_counts_49 : decode cX12_counts 49 = .ok (.iaload, 1) := by decide +kernel
theorem dX12_counts_50 : decode cX12_counts 50 = .ok (.ishl, 1) := by decide +kernel
theorem dX12_counts_51 : decode cX12_counts 51 = .ok (.ior, 1) := by decide +kernel
theorem dX12_counts_52 : decode cX12_counts 52 = .ok (.iastore, 1) := by decide +kernel
theorem dX12_counts_53 : decode cX12_counts 53 = .ok (.aload_n 0, 1) := by decide +kernel
theorem dX12_counts_54 : decode cX12_counts 54 = .ok (.getfield 114, 3) := by decide +kernel
theorem dX12_counts_57 : decode cX12_counts 57 = .ok (.iload_n 2, 1) := by decide +kernel
theorem dX12_counts_58 : decode cX12_counts 58 = .ok (.iaload, 1) := by decide +kernel
theorem dX12_counts_59 : decode cX12_counts 59 = .ok (.invokestatic 237, 3) := by decide +kernel
theorem dX12_counts_62 : decode cX12_counts 62 = .ok (.aload_n 0, 1) := by decide +kernel
theorem dX12_counts_63 : decode cX12_counts 63 = .ok (.invokevirtual 241, 3) := by decide +kernel
theorem dX12_counts_66 : decode cX12_counts 66 = .ok (.if_icmp .lt 25, 3) := by decide +kernel
theorem dX12_counts_69 : decode cX12_counts 69 = .ok (.aload_n 0, 1) := by decide +kernel
theorem dX12_counts_70 : decode cX12_counts 70 = .ok (.getfield 96, 3) := by decide +kernel
theorem dX12_counts_73 : decode cX12_counts 73 = .ok (.iload_n 2, 1) := by decide +kernel
theorem dX12_counts_74 : decode cX12_counts 74 = .ok (.iaload, 1) := by decide +kernel
theorem dX12_counts_75 : decode cX12_counts 75 = .ok (.iconst (-1), 1) := by decide +kernel
theorem dX12_counts_76 : decode cX12_counts 76 = .ok (.if_icmp .ne 15, 3) := by decide +kernel
theorem dX12_counts_79 : decode cX12_counts 79 = .ok (.aload_n 0, 1) := by decide +kernel
theorem dX12_counts_80 : decode cX12_counts 80 = .ok (.getfield 96, 3) := by decide +kernel
theorem dX12_counts_83 : decode cX12_counts 83 = .ok (.iload_n 2, 1) := by decide +kernel
theorem dX12_counts_84 : decode cX12_counts 84 = .ok (.aload_n 0, 1) := by decide +kernel
theorem dX12_counts_85 : decode cX12_counts 85 = .ok (.getfield 102, 3) := by decide +kernel
theorem dX12_counts_88 : decode cX12_counts 88 = .ok (.iload_n 2, 1) := by decide +kernel
theorem dX12_counts_89 : decode cX12_counts 89 = .ok (.iaload, 1) := by decide +kernel
theorem dX12_counts_90 : decode cX12_counts 90 = .ok (.iastore, 1) := by decide +kernel
theorem dX12_counts_91 : decode cX12_counts 91 = .ok (.return_, 1) := by decide +kernel
theorem dX12_steps_0 : decode cX12_steps 0 = .ok (.aload_n 0, 1) := by decide +kernel
theorem dX12_steps_1 : decode cX12_steps 1 = .ok (.iconst 0, 1) := by decide +kernel
theorem dX12_steps_2 : decode cX12_steps 2 = .ok (.putfield 151, 3) := by decide +kernel
theorem dX12_steps_5 : decode cX12_steps 5 = .ok (.aload_n 0, 1) := by decide +kernel
theorem dX12_steps_6 : decode cX12_steps 6 = .ok (.getfield 164, 3) := by decide +kernel
theorem dX12_steps_9 : decode cX12_steps 9 = .ok (.ireturn, 1) := by decide +kernel
theorem dX12_messages_0 : decode cX12_messages 0 = .ok (.aload_n 0, 1) := by decide +kernel
theorem dX12_messages_1 : decode cX12_messages 1 = .ok (.iconst 0, 1) := by decide +kernel
theorem dX12_messages_2 : decode cX12_messages 2 = .ok (.putfield 151, 3) := by decide +kernel
theorem dX12_messages_5 : decode cX12_messages 5 = .ok (.aload_n 0, 1) := by decide +kernel
theorem dX12_messages_6 : decode cX12_messages 6 = .ok (.getfield 167, 3) := by decide +kernel
theorem dX12_messages_9 : decode cX12_messages 9 = .ok (.ireturn, 1) := by decide +kernel
theorem dX12_message_0 : decode cX12_message 0 = .ok (.aload_n 0, 1) := by decide +kernel
theorem dX12_message_1 : decode cX12_message 1 = .ok (.iload_n 1, 1) := by decide +kernel
theorem dX12_message_2 : decode cX12_message 2 = .ok (.invokevirtual 195, 3) := by decide +kernel
theorem dX12_message_5 : decode cX12_message 5 = .ok (.istore_n 3, 1) := by decide +kernel
theorem dX12_message_6 : decode cX12_message 6 = .ok (.aload_n 0, 1) := by decide +kernel
theorem dX12_message_7 : decode cX12_message 7 = .ok (.iload_n 3, 1) := by decide +kernel
theorem dX12_message_8 : decode cX12_message 8 = .ok (.iload_n 2, 1) := by decide +kernel
theorem dX12_message_9 : decode cX12_message 9 = .ok (.iconst 0, 1) := by decide +kernel
theorem dX12_message_10 : decode cX12_message 10 = .ok (.iconst 4, 1) := by decide +kernel
theorem dX12_message_11 : decode cX12_message 11 = .ok (.invokestatic 154, 3) := by decide +kernel
theorem dX12_message_14 : decode cX12_message 14 = .ok (.iconst 1, 1) := by decide +kernel
theorem dX12_message_15 : decode cX12_message 15 = .ok (.invokevirtual 173, 3) := by decide +kernel
theorem dX12_message_18 : decode cX12_message 18 = .ok (.ifCond .ne 5, 3) := by decide +kernel
theorem dX12_message_21 : decode cX12_message 21 = .ok (.iconst 0, 1) := by decide +kernel
theorem dX12_message_22 : decode cX12_message 22 = .ok (.ireturn, 1) := by decide +kernel
theorem dX12_message_23 : decode cX12_message 23 = .ok (.aload_n 0, 1) := by decide +kernel
theorem dX12_message_24 : decode cX12_message 24 = .ok (.getfield 117, 3) := by decide +kernel
theorem dX12_message_27 : decode cX12_message 27 = .ok (.bipush 24, 2) := by decide +kernel
theorem dX12_message_29 : decode cX12_message 29 = .ok (.iload_n 1, 1) := by decide +kernel
theorem dX12_message_30 : decode cX12_message 30 = .ok (.imul, 1) := by decide +kernel
theorem dX12_message_31 : decode cX12_message 31 = .ok (.iload_n 2, 1) := by decide +kernel
theorem dX12_message_32 : decode cX12_message 32 = .ok (.iconst 4, 1) := by decide +kernel
theorem dX12_message_33 : decode cX12_message 33 = .ok (.if_icmp .ne 8, 3) := by decide +kernel
theorem dX12_message_36 : decode cX12_message 36 = .ok (.bipush 8, 2) := by decide +kernel
theorem dX12_message_38 : decode cX12_message 38 = .ok (.goto 4, 3) := by decide +kernel
theorem dX12_message_41 : decode cX12_message 41 = .ok (.iload_n 2, 1) := by decide +kernel
theorem dX12_message_42 : decode cX12_message 42 = .ok (.iadd, 1) := by decide +kernel
theorem dX12_message_43 : decode cX12_message 43 = .ok (.iaload, 1) := by decide +kernel
theorem dX12_message_44 : decode cX12_message 44 = .ok (.ireturn, 1) := by decide +kernel
theorem dX12_of_0 : decode cX12_of 0 = .ok (.aload_n 0, 1) := by decide +kernel
theorem dX12_of_1 : decode cX12_of 1 = .ok (.aload_n 0, 1) := by decide +kernel
theorem dX12_of_2 : decode cX12_of 2 = .ok (.iload_n 1, 1) := by decide +kernel
theorem dX12_of_3 : decode cX12_of 3 = .ok (.invokevirtual 181, 3) := by decide +kernel
theorem dX12_of_6 : decode cX12_of 6 = .ok (.iload_n 2, 1) := by decide +kernel
theorem dX12_of_7 : decode cX12_of 7 = .ok (.iconst 0, 1) := by decide +kernel
theorem dX12_of_8 : decode cX12_of 8 = .ok (.bipush 7, 2) := by decide +kernel
theorem dX12_of_10 : decode cX12_of 10 = .ok (.invokestatic 154, 3) := by decide +kernel
theorem dX12_of_13 : decode cX12_of 13 = .ok (.iconst 1, 1) := by decide +kernel
theorem dX12_of_14 : decode cX12_of 14 = .ok (.invokevirtual 173, 3) := by decide +kernel
theorem dX12_of_17 : decode cX12_of 17 = .ok (.ifCond .ne 5, 3) := by decide +kernel
theorem dX12_of_20 : decode cX12_of 20 = .ok (.iconst 0, 1) := by decide +kernel
theorem dX12_of_21 : decode cX12_of 21 = .ok (.ireturn, 1) := by decide +kernel
theorem dX12_of_22 : decode cX12_of 22 = .ok (.iload_n 1, 1) := by decide +kernel
theorem dX12_of_23 : decode cX12_of 23 = .ok (.istore_n 3, 1) := by decide +kernel
theorem dX12_of_24 : decode cX12_of 24 = .ok (.iload_n 2, 1) := by decide +kernel
theorem dX12_of_25 : decode cX12_of 25 = .ok (.tableswitch 103 0 6 #[43, 50, 57, 64, 71, 78, 84], 43) := by decide +kernel
theorem dX12_of_68 : decode cX12_of 68 = .ok (.aload_n 0, 1) := by decide +kernel
theorem dX12_of_69 : decode cX12_of 69 = .ok (.getfield 39, 3) := by decide +kernel
theorem dX12_of_72 : decode cX12_of 72 = .ok (.iload_n 3, 1) := by decide +kernel
theorem dX12_of_73 : decode cX12_of 73 = .ok (.iaload, 1) := by decide +kernel
theorem dX12_of_74 : decode cX12_of 74 = .ok (.ireturn, 1) := by decide +kernel
theorem dX12_of_75 : decode cX12_of 75 = .ok (.aload_n 0, 1) := by decide +kernel
theorem dX12_of_76 : decode cX12_of 76 = .ok (.getfield 32, 3) := by decide +kernel
theorem dX12_of_79 : decode cX12_of 79 = .ok (.iload_n 3, 1) := by decide +kernel
theorem dX12_of_80 : decode cX12_of 80 = .ok (.iaload, 1) := by decide +kernel
theorem dX12_of_81 : decode cX12_of 81 = .ok (.ireturn, 1) := by decide +kernel
theorem dX12_of_82 : decode cX12_of 82 = .ok (.aload_n 0, 1) := by decide +kernel
theorem dX12_of_83 : decode cX12_of 83 = .ok (.getfield 36, 3) := by decide +kernel
theorem dX12_of_86 : decode cX12_of 86 = .ok (.iload_n 3, 1) := by decide +kernel
theorem dX12_of_87 : decode cX12_of 87 = .ok (.iaload, 1) := by decide +kernel
theorem dX12_of_88 : decode cX12_of 88 = .ok (.ireturn, 1) := by decide +kernel
theorem dX12_of_89 : decode cX12_of 89 = .ok (.aload_n 0, 1) := by decide +kernel
theorem dX12_of_90 : decode cX12_of 90 = .ok (.getfield 42, 3) := by decide +kernel
theorem dX12_of_93 : decode cX12_of 93 = .ok (.iload_n 3, 1) := by decide +kernel
theorem dX12_of_94 : decode cX12_of 94 = .ok (.iaload, 1) := by decide +kernel
theorem dX12_of_95 : decode cX12_of 95 = .ok (.ireturn, 1) := by decide +kernel
theorem dX12_of_96 : decode cX12_of 96 = .ok (.aload_n 0, 1) := by decide +kernel
theorem dX12_of_97 : decode cX12_of 97 = .ok (.getfield 45, 3) := by decide +kernel
theorem dX12_of_100 : decode cX12_of 100 = .ok (.iload_n 3, 1) := by decide +kernel
theorem dX12_of_101 : decode cX12_of 101 = .ok (.iaload, 1) := by decide +kernel
theorem dX12_of_102 : decode cX12_of 102 = .ok (.ireturn, 1) := by decide +kernel
theorem dX12_of_103 : decode cX12_of 103 = .ok (.aload_n 0, 1) := by decide +kernel
theorem dX12_of_104 : decode cX12_of 104 = .ok (.iload_n 3, 1) := by decide +kernel
theorem dX12_of_105 : decode cX12_of 105 = .ok (.invokevirtual 267, 3) := by decide +kernel
theorem dX12_of_108 : decode cX12_of 108 = .ok (.ireturn, 1) := by decide +kernel
theorem dX12_of_109 : decode cX12_of 109 = .ok (.aload_n 0, 1) := by decide +kernel
theorem dX12_of_110 : decode cX12_of 110 = .ok (.iload_n 3, 1) := by decide +kernel
theorem dX12_of_111 : decode cX12_of 111 = .ok (.invokevirtual 226, 3) := by decide +kernel
theorem dX12_of_114 : decode cX12_of 114 = .ok (.ifCond .eq 12, 3) := by decide +kernel
theorem dX12_of_117 : decode cX12_of 117 = .ok (.aload_n 0, 1) := by decide +kernel
theorem dX12_of_118 : decode cX12_of 118 = .ok (.getfield 81, 3) := by decide +kernel
theorem dX12_of_121 : decode cX12_of 121 = .ok (.iload_n 3, 1) := by decide +kernel
theorem dX12_of_122 : decode cX12_of 122 = .ok (.iaload, 1) := by decide +kernel
theorem dX12_of_123 : decode cX12_of 123 = .ok (.goto 4, 3) := by decide +kernel
theorem dX12_of_126 : decode cX12_of 126 = .ok (.iconst (-1), 1) := by decide +kernel
theorem dX12_of_127 : decode cX12_of 127 = .ok (.ireturn, 1) := by decide +kernel
theorem dX12_of_128 : decode cX12_of 128 = .ok (.aload_n 0, 1) := by decide +kernel
theorem dX12_of_129 : decode cX12_of 129 = .ok (.getfield 18, 3) := by decide +kernel
theorem dX12_of_132 : decode cX12_of 132 = .ok (.iload_n 3, 1) := by decide +kernel
theorem dX12_of_133 : decode cX12_of 133 = .ok (.baload, 1) := by decide +kernel
theorem dX12_of_134 : decode cX12_of 134 = .ok (.ifCond .eq 7, 3) := by decide +kernel
theorem dX12_of_137 : decode cX12_of 137 = .ok (.iconst 1, 1) := by decide +kernel
theorem dX12_of_138 : decode cX12_of 138 = .ok (.goto 4, 3) := by decide +kernel
theorem dX12_of_141 : decode cX12_of 141 = .ok (.iconst 0, 1) := by decide +kernel
theorem dX12_of_142 : decode cX12_of 142 = .ok (.ireturn, 1) := by decide +kernel
theorem dX12_entry_0 : decode cX12_entry 0 = .ok (.aload_n 0, 1) := by decide +kernel
theorem dX12_entry_1 : decode cX12_entry 1 = .ok (.iload_n 1, 1) := by decide +kernel
theorem dX12_entry_2 : decode cX12_entry 2 = .ok (.invokevirtual 181, 3) := by decide +kernel
theorem dX12_entry_5 : decode cX12_entry 5 = .ok (.ifCond .eq 33, 3) := by decide +kernel
theorem dX12_entry_8 : decode cX12_entry 8 = .ok (.iload_n 2, 1) := by decide +kernel
theorem dX12_entry_9 : decode cX12_entry 9 = .ok (.iconst 1, 1) := by decide +kernel
theorem dX12_entry_10 : decode cX12_entry 10 = .ok (.aload_n 0, 1) := by decide +kernel
theorem dX12_entry_11 : decode cX12_entry 11 = .ok (.getfield 42, 3) := by decide +kernel
theorem dX12_entry_14 : decode cX12_entry 14 = .ok (.aload_n 0, 1) := by decide +kernel
theorem dX12_entry_15 : decode cX12_entry 15 = .ok (.iload_n 1, 1) := by decide +kernel
theorem dX12_entry_16 : decode cX12_entry 16 = .ok (.invokevirtual 181, 3) := by decide +kernel
theorem dX12_entry_19 : decode cX12_entry 19 = .ok (.ifCond .eq 7, 3) := by decide +kernel
theorem dX12_entry_22 : decode cX12_entry 22 = .ok (.iload_n 1, 1) := by decide +kernel
theorem dX12_entry_23 : decode cX12_entry 23 = .ok (.goto 4, 3) := by decide +kernel
theorem dX12_entry_26 : decode cX12_entry 26 = .ok (.iconst 0, 1) := by decide +kernel
theorem dX12_entry_27 : decode cX12_entry 27 = .ok (.iaload, 1) := by decide +kernel
theorem dX12_entry_28 : decode cX12_entry 28 = .ok (.invokestatic 154, 3) := by decide +kernel
theorem dX12_entry_31 : decode cX12_entry 31 = .ok (.ifCond .eq 7, 3) := by decide +kernel
theorem dX12_entry_34 : decode cX12_entry 34 = .ok (.iconst 1, 1) := by decide +kernel
theorem dX12_entry_35 : decode cX12_entry 35 = .ok (.goto 4, 3) := by decide +kernel
theorem dX12_entry_38 : decode cX12_entry 38 = .ok (.iconst 0, 1) := by decide +kernel
theorem dX12_entry_39 : decode cX12_entry 39 = .ok (.istore 4, 2) := by decide +kernel
theorem dX12_entry_41 : decode cX12_entry 41 = .ok (.aload_n 0, 1) := by decide +kernel
theorem dX12_entry_42 : decode cX12_entry 42 = .ok (.iload 4, 2) := by decide +kernel
theorem dX12_entry_44 : decode cX12_entry 44 = .ok (.iload_n 3, 1) := by decide +kernel
theorem dX12_entry_45 : decode cX12_entry 45 = .ok (.iconst 0, 1) := by decide +kernel
theorem dX12_entry_46 : decode cX12_entry 46 = .ok (.iconst 3, 1) := by decide +kernel
theorem dX12_entry_47 : decode cX12_entry 47 = .ok (.invokestatic 154, 3) := by decide +kernel
theorem dX12_entry_50 : decode cX12_entry 50 = .ok (.iconst 1, 1) := by decide +kernel
theorem dX12_entry_51 : decode cX12_entry 51 = .ok (.invokevirtual 173, 3) := by decide +kernel
theorem dX12_entry_54 : decode cX12_entry 54 = .ok (.ifCond .ne 5, 3) := by decide +kernel
theorem dX12_entry_57 : decode cX12_entry 57 = .ok (.iconst 0, 1) := by decide +kernel
theorem dX12_entry_58 : decode cX12_entry 58 = .ok (.ireturn, 1) := by decide +kernel
theorem dX12_entry_59 : decode cX12_entry 59 = .ok (.bipush 30, 2) := by decide +kernel
theorem dX12_entry_61 : decode cX12_entry 61 = .ok (.iload_n 1, 1) := by decide +kernel
theorem dX12_entry_62 : decode cX12_entry 62 = .ok (.imul, 1) := by decide +kernel
theorem dX12_entry_63 : decode cX12_entry 63 = .ok (.iload_n 2, 1) := by decide +kernel
theorem dX12_entry_64 : decode cX12_entry 64 = .ok (.iadd, 1) := by decide +kernel
theorem dX12_entry_65 : decode cX12_entry 65 = .ok (.iconst 1, 1) := by decide +kernel
theorem dX12_entry_66 : decode cX12_entry 66 = .ok (.isub, 1) := by decide +kernel
theorem dX12_entry_67 : decode cX12_entry 67 = .ok (.istore 5, 2) := by decide +kernel
theorem dX12_entry_69 : decode cX12_entry 69 = .ok (.iload_n 3, 1) := by decide +kernel
theorem dX12_entry_70 : decode cX12_entry 70 = .ok (.ifCond .ne 13, 3) := by decide +kernel
theorem dX12_entry_73 : decode cX12_entry 73 = .ok (.aload_n 0, 1) := by decide +kernel
theorem dX12_entry_74 : decode cX12_entry 74 = .ok (.getfield 48, 3) := by decide +kernel
theorem dX12_entry_77 : decode cX12_entry 77 = .ok (.iload 5, 2) := by decide +kernel
theorem dX12_entry_79 : decode cX12_entry 79 = .ok (.iaload, 1) := by decide +kernel
