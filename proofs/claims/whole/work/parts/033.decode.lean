theorem dX11_onTime_30 : decode cX11_onTime 30 = .ok (.aload_n 0, 1) := by decide +kernel
theorem dX11_onTime_31 : decode cX11_onTime 31 = .ok (.getfield 7, 3) := by decide +kernel
theorem dX11_onTime_34 : decode cX11_onTime 34 = .ok (.aload_n 0, 1) := by decide +kernel
theorem dX11_onTime_35 : decode cX11_onTime 35 = .ok (.getfield 56, 3) := by decide +kernel
theorem dX11_onTime_38 : decode cX11_onTime 38 = .ok (.iload_n 3, 1) := by decide +kernel
theorem dX11_onTime_39 : decode cX11_onTime 39 = .ok (.iaload, 1) := by decide +kernel
theorem dX11_onTime_40 : decode cX11_onTime 40 = .ok (.iaload, 1) := by decide +kernel
theorem dX11_onTime_41 : decode cX11_onTime 41 = .ok (.iadd, 1) := by decide +kernel
theorem dX11_onTime_42 : decode cX11_onTime 42 = .ok (.istore_n 2, 1) := by decide +kernel
theorem dX11_onTime_43 : decode cX11_onTime 43 = .ok (.iload_n 2, 1) := by decide +kernel
theorem dX11_onTime_44 : decode cX11_onTime 44 = .ok (.aload_n 0, 1) := by decide +kernel
theorem dX11_onTime_45 : decode cX11_onTime 45 = .ok (.getfield 16, 3) := by decide +kernel
theorem dX11_onTime_48 : decode cX11_onTime 48 = .ok (.aload_n 0, 1) := by decide +kernel
theorem dX11_onTime_49 : decode cX11_onTime 49 = .ok (.getfield 56, 3) := by decide +kernel
theorem dX11_onTime_52 : decode cX11_onTime 52 = .ok (.iload_n 3, 1) := by decide +kernel
theorem dX11_onTime_53 : decode cX11_onTime 53 = .ok (.iaload, 1) := by decide +kernel
theorem dX11_onTime_54 : decode cX11_onTime 54 = .ok (.iaload, 1) := by decide +kernel
theorem dX11_onTime_55 : decode cX11_onTime 55 = .ok (.if_icmp .le 109, 3) := by decide +kernel
theorem dX11_onTime_58 : decode cX11_onTime 58 = .ok (.iconst (-1), 1) := by decide +kernel
theorem dX11_onTime_59 : decode cX11_onTime 59 = .ok (.istore 4, 2) := by decide +kernel
theorem dX11_onTime_61 : decode cX11_onTime 61 = .ok (.iconst 0, 1) := by decide +kernel
theorem dX11_onTime_62 : decode cX11_onTime 62 = .ok (.istore 5, 2) := by decide +kernel
theorem dX11_onTime_64 : decode cX11_onTime 64 = .ok (.iload 5, 2) := by decide +kernel
theorem dX11_onTime_66 : decode cX11_onTime 66 = .ok (.iload_n 3, 1) := by decide +kernel
theorem dX11_onTime_67 : decode cX11_onTime 67 = .ok (.if_icmp .gt 78, 3) := by decide +kernel
theorem dX11_onTime_70 : decode cX11_onTime 70 = .ok (.iload_n 1, 1) := by decide +kernel
theorem dX11_onTime_71 : decode cX11_onTime 71 = .ok (.aload_n 0, 1) := by decide +kernel
theorem dX11_onTime_72 : decode cX11_onTime 72 = .ok (.getfield 56, 3) := by decide +kernel
theorem dX11_onTime_75 : decode cX11_onTime 75 = .ok (.iload 5, 2) := by decide +kernel
theorem dX11_onTime_77 : decode cX11_onTime 77 = .ok (.iaload, 1) := by decide +kernel
theorem dX11_onTime_78 : decode cX11_onTime 78 = .ok (.ishr, 1) := by decide +kernel
theorem dX11_onTime_79 : decode cX11_onTime 79 = .ok (.iconst 1, 1) := by decide +kernel
theorem dX11_onTime_80 : decode cX11_onTime 80 = .ok (.iand, 1) := by decide +kernel
theorem dX11_onTime_81 : decode cX11_onTime 81 = .ok (.iconst 1, 1) := by decide +kernel
theorem dX11_onTime_82 : decode cX11_onTime 82 = .ok (.if_icmp .ne 35, 3) := by decide +kernel
theorem dX11_onTime_85 : decode cX11_onTime 85 = .ok (.iload 4, 2) := by decide +kernel
theorem dX11_onTime_87 : decode cX11_onTime 87 = .ok (.iconst (-1), 1) := by decide +kernel
theorem dX11_onTime_88 : decode cX11_onTime 88 = .ok (.if_icmp .eq 25, 3) := by decide +kernel
theorem dX11_onTime_91 : decode cX11_onTime 91 = .ok (.aload_n 0, 1) := by decide +kernel
theorem dX11_onTime_92 : decode cX11_onTime 92 = .ok (.getfield 7, 3) := by decide +kernel
theorem dX11_onTime_95 : decode cX11_onTime 95 = .ok (.aload_n 0, 1) := by decide +kernel
theorem dX11_onTime_96 : decode cX11_onTime 96 = .ok (.getfield 56, 3) := by decide +kernel
theorem dX11_onTime_99 : decode cX11_onTime 99 = .ok (.iload 5, 2) := by decide +kernel
theorem dX11_onTime_101 : decode cX11_onTime 101 = .ok (.iaload, 1) := by decide +kernel
theorem dX11_onTime_102 : decode cX11_onTime 102 = .ok (.iaload, 1) := by decide +kernel
theorem dX11_onTime_103 : decode cX11_onTime 103 = .ok (.aload_n 0, 1) := by decide +kernel
theorem dX11_onTime_104 : decode cX11_onTime 104 = .ok (.getfield 7, 3) := by decide +kernel
theorem dX11_onTime_107 : decode cX11_onTime 107 = .ok (.iload 4, 2) := by decide +kernel
theorem dX11_onTime_109 : decode cX11_onTime 109 = .ok (.iaload, 1) := by decide +kernel
theorem dX11_onTime_110 : decode cX11_onTime 110 = .ok (.if_icmp .lt 7, 3) := by decide +kernel
theorem dX11_onTime_113 : decode cX11_onTime 113 = .ok (.iconst 1, 1) := by decide +kernel
theorem dX11_onTime_114 : decode cX11_onTime 114 = .ok (.goto 4, 3) := by decide +kernel
theorem dX11_onTime_117 : decode cX11_onTime 117 = .ok (.iconst 0, 1) := by decide +kernel
theorem dX11_onTime_118 : decode cX11_onTime 118 = .ok (.istore 6, 2) := by decide +kernel
theorem dX11_onTime_120 : decode cX11_onTime 120 = .ok (.iload 6, 2) := by decide +kernel
theorem dX11_onTime_122 : decode cX11_onTime 122 = .ok (.ifCond .eq 13, 3) := by decide +kernel
theorem dX11_onTime_125 : decode cX11_onTime 125 = .ok (.aload_n 0, 1) := by decide +kernel
theorem dX11_onTime_126 : decode cX11_onTime 126 = .ok (.getfield 56, 3) := by decide +kernel
theorem dX11_onTime_129 : decode cX11_onTime 129 = .ok (.iload 5, 2) := by decide +kernel
theorem dX11_onTime_131 : decode cX11_onTime 131 = .ok (.iaload, 1) := by decide +kernel
theorem dX11_onTime_132 : decode cX11_onTime 132 = .ok (.goto 5, 3) := by decide +kernel
theorem dX11_onTime_135 : decode cX11_onTime 135 = .ok (.iload 4, 2) := by decide +kernel
theorem dX11_onTime_137 : decode cX11_onTime 137 = .ok (.istore 4, 2) := by decide +kernel
theorem dX11_onTime_139 : decode cX11_onTime 139 = .ok (.iinc 5 1, 3) := by decide +kernel
theorem dX11_onTime_142 : decode cX11_onTime 142 = .ok (.goto (-78), 3) := by decide +kernel
theorem dX11_onTime_145 : decode cX11_onTime 145 = .ok (.iload_n 1, 1) := by decide +kernel
theorem dX11_onTime_146 : decode cX11_onTime 146 = .ok (.iconst 1, 1) := by decide +kernel
theorem dX11_onTime_147 : decode cX11_onTime 147 = .ok (.iload 4, 2) := by decide +kernel
theorem dX11_onTime_149 : decode cX11_onTime 149 = .ok (.ishl, 1) := by decide +kernel
theorem dX11_onTime_150 : decode cX11_onTime 150 = .ok (.iconst (-1), 1) := by decide +kernel
theorem dX11_onTime_151 : decode cX11_onTime 151 = .ok (.ixor, 1) := by decide +kernel
theorem dX11_onTime_152 : decode cX11_onTime 152 = .ok (.iand, 1) := by decide +kernel
theorem dX11_onTime_153 : decode cX11_onTime 153 = .ok (.istore_n 1, 1) := by decide +kernel
theorem dX11_onTime_154 : decode cX11_onTime 154 = .ok (.iload_n 2, 1) := by decide +kernel
theorem dX11_onTime_155 : decode cX11_onTime 155 = .ok (.aload_n 0, 1) := by decide +kernel
theorem dX11_onTime_156 : decode cX11_onTime 156 = .ok (.getfield 7, 3) := by decide +kernel
theorem dX11_onTime_159 : decode cX11_onTime 159 = .ok (.iload 4, 2) := by decide +kernel
theorem dX11_onTime_161 : decode cX11_onTime 161 = .ok (.iaload, 1) := by decide +kernel
theorem dX11_onTime_162 : decode cX11_onTime 162 = .ok (.isub, 1) := by decide +kernel
theorem dX11_onTime_163 : decode cX11_onTime 163 = .ok (.istore_n 2, 1) := by decide +kernel
theorem dX11_onTime_164 : decode cX11_onTime 164 = .ok (.iinc 3 1, 3) := by decide +kernel
theorem dX11_onTime_167 : decode cX11_onTime 167 = .ok (.goto (-157), 3) := by decide +kernel
theorem dX11_onTime_170 : decode cX11_onTime 170 = .ok (.iload_n 1, 1) := by decide +kernel
theorem dX11_onTime_171 : decode cX11_onTime 171 = .ok (.ireturn, 1) := by decide +kernel
theorem dX11_goBroken_0 : decode cX11_goBroken 0 = .ok (.iconst 0, 1) := by decide +kernel
theorem dX11_goBroken_1 : decode cX11_goBroken 1 = .ok (.istore_n 1, 1) := by decide +kernel
theorem dX11_goBroken_2 : decode cX11_goBroken 2 = .ok (.iconst 0, 1) := by decide +kernel
theorem dX11_goBroken_3 : decode cX11_goBroken 3 = .ok (.istore_n 2, 1) := by decide +kernel
theorem dX11_goBroken_4 : decode cX11_goBroken 4 = .ok (.iload_n 2, 1) := by decide +kernel
theorem dX11_goBroken_5 : decode cX11_goBroken 5 = .ok (.aload_n 0, 1) := by decide +kernel
theorem dX11_goBroken_6 : decode cX11_goBroken 6 = .ok (.getfield 83, 3) := by decide +kernel
theorem dX11_goBroken_9 : decode cX11_goBroken 9 = .ok (.if_icmp .ge 21, 3) := by decide +kernel
theorem dX11_goBroken_12 : decode cX11_goBroken 12 = .ok (.aload_n 0, 1) := by decide +kernel
theorem dX11_goBroken_13 : decode cX11_goBroken 13 = .ok (.getfield 65, 3) := by decide +kernel
theorem dX11_goBroken_16 : decode cX11_goBroken 16 = .ok (.iload_n 2, 1) := by decide +kernel
theorem dX11_goBroken_17 : decode cX11_goBroken 17 = .ok (.aload_n 0, 1) := by decide +kernel
theorem dX11_goBroken_18 : decode cX11_goBroken 18 = .ok (.getfield 7, 3) := by decide +kernel
theorem dX11_goBroken_21 : decode cX11_goBroken 21 = .ok (.iload_n 2, 1) := by decide +kernel
theorem dX11_goBroken_22 : decode cX11_goBroken 22 = .ok (.iaload, 1) := by decide +kernel
theorem dX11_goBroken_23 : decode cX11_goBroken 23 = .ok (.iastore, 1) := by decide +kernel
theorem dX11_goBroken_24 : decode cX11_goBroken 24 = .ok (.iinc 2 1, 3) := by decide +kernel
theorem dX11_goBroken_27 : decode cX11_goBroken 27 = .ok (.goto (-23), 3) := by decide +kernel
theorem dX11_goBroken_30 : decode cX11_goBroken 30 = .ok (.iconst 0, 1) := by decide +kernel
theorem dX11_goBroken_31 : decode cX11_goBroken 31 = .ok (.istore_n 2, 1) := by decide +kernel
theorem dX11_goBroken_32 : decode cX11_goBroken 32 = .ok (.iload_n 2, 1) := by decide +kernel
theorem dX11_goBroken_33 : decode cX11_goBroken 33 = .ok (.sipush 1000, 3) := by decide +kernel
theorem dX11_goBroken_36 : decode cX11_goBroken 36 = .ok (.if_icmp .ge 150, 3) := by decide +kernel
theorem dX11_goBroken_39 : decode cX11_goBroken 39 = .ok (.iconst (-1), 1) := by decide +kernel
theorem dX11_goBroken_40 : decode cX11_goBroken 40 = .ok (.istore_n 3, 1) := by decide +kernel
theorem dX11_goBroken_41 : decode cX11_goBroken 41 = .ok (.iconst 0, 1) := by decide +kernel
theorem dX11_goBroken_42 : decode cX11_goBroken 42 = .ok (.istore 4, 2) := by decide +kernel
theorem dX11_goBroken_44 : decode cX11_goBroken 44 = .ok (.iload 4, 2) := by decide +kernel
theorem dX11_goBroken_46 : decode cX11_goBroken 46 = .ok (.aload_n 0, 1) := by decide +kernel
theorem dX11_goBroken_47 : decode cX11_goBroken 47 = .ok (.getfield 83, 3) := by decide +kernel
theorem dX11_goBroken_50 : decode cX11_goBroken 50 = .ok (.if_icmp .ge 70, 3) := by decide +kernel
theorem dX11_goBroken_53 : decode cX11_goBroken 53 = .ok (.aload_n 0, 1) := by decide +kernel
theorem dX11_goBroken_54 : decode cX11_goBroken 54 = .ok (.getfield 13, 3) := by decide +kernel
theorem dX11_goBroken_57 : decode cX11_goBroken 57 = .ok (.iload 4, 2) := by decide +kernel
theorem dX11_goBroken_59 : decode cX11_goBroken 59 = .ok (.iaload, 1) := by decide +kernel
theorem dX11_goBroken_60 : decode cX11_goBroken 60 = .ok (.iload_n 2, 1) := by decide +kernel
theorem dX11_goBroken_61 : decode cX11_goBroken 61 = .ok (.if_icmp .gt 17, 3) := by decide +kernel
theorem dX11_goBroken_64 : decode cX11_goBroken 64 = .ok (.aload_n 0, 1) := by decide +kernel
theorem dX11_goBroken_65 : decode cX11_goBroken 65 = .ok (.getfield 65, 3) := by decide +kernel
theorem dX11_goBroken_68 : decode cX11_goBroken 68 = .ok (.iload 4, 2) := by decide +kernel
theorem dX11_goBroken_70 : decode cX11_goBroken 70 = .ok (.iaload, 1) := by decide +kernel
theorem dX11_goBroken_71 : decode cX11_goBroken 71 = .ok (.ifCond .le 7, 3) := by decide +kernel
theorem dX11_goBroken_74 : decode cX11_goBroken 74 = .ok (.iconst 1, 1) := by decide +kernel
theorem dX11_goBroken_75 : decode cX11_goBroken 75 = .ok (.goto 4, 3) := by decide +kernel
theorem dX11_goBroken_78 : decode cX11_goBroken 78 = .ok (.iconst 0, 1) := by decide +kernel
theorem dX11_goBroken_79 : decode cX11_goBroken 79 = .ok (.istore 5, 2) := by decide +kernel
theorem dX11_goBroken_81 : decode cX11_goBroken 81 = .ok (.iload 5, 2) := by decide +kernel
theorem dX11_goBroken_83 : decode cX11_goBroken 83 = .ok (.ifCond .eq 29, 3) := by decide +kernel
theorem dX11_goBroken_86 : decode cX11_goBroken 86 = .ok (.iload_n 3, 1) := by decide +kernel
theorem dX11_goBroken_87 : decode cX11_goBroken 87 = .ok (.iconst (-1), 1) := by decide +kernel
theorem dX11_goBroken_88 : decode cX11_goBroken 88 = .ok (.if_icmp .eq 19, 3) := by decide +kernel
theorem dX11_goBroken_91 : decode cX11_goBroken 91 = .ok (.aload_n 0, 1) := by decide +kernel
theorem dX11_goBroken_92 : decode cX11_goBroken 92 = .ok (.getfield 16, 3) := by decide +kernel
theorem dX11_goBroken_95 : decode cX11_goBroken 95 = .ok (.iload 4, 2) := by decide +kernel
theorem dX11_goBroken_97 : decode cX11_goBroken 97 = .ok (.iaload, 1) := by decide +kernel
theorem dX11_goBroken_98 : decode cX11_goBroken 98 = .ok (.aload_n 0, 1) := by decide +kernel
theorem dX11_goBroken_99 : decode cX11_goBroken 99 = .ok (.getfield 16, 3) := by decide +kernel
theorem dX11_goBroken_102 : decode cX11_goBroken 102 = .ok (.iload_n 3, 1) := by decide +kernel
theorem dX11_goBroken_103 : decode cX11_goBroken 103 = .ok (.iaload, 1) := by decide +kernel
theorem dX11_goBroken_104 : decode cX11_goBroken 104 = .ok (.if_icmp .ge 8, 3) := by decide +kernel
theorem dX11_goBroken_107 : decode cX11_goBroken 107 = .ok (.iload 4, 2) := by decide +kernel
theorem dX11_goBroken_109 : decode cX11_goBroken 109 = .ok (.goto 4, 3) := by decide +kernel
theorem dX11_goBroken_112 : decode cX11_goBroken 112 = .ok (.iload_n 3, 1) := by decide +kernel
theorem dX11_goBroken_113 : decode cX11_goBroken 113 = .ok (.istore_n 3, 1) := by decide +kernel
theorem dX11_goBroken_114 : decode cX11_goBroken 114 = .ok (.iinc 4 1, 3) := by decide +kernel
theorem dX11_goBroken_117 : decode cX11_goBroken 117 = .ok (.goto (-73), 3) := by decide +kernel
theorem dX11_goBroken_120 : decode cX11_goBroken 120 = .ok (.aload_n 0, 1) := by decide +kernel
theorem dX11_goBroken_121 : decode cX11_goBroken 121 = .ok (.getfield 62, 3) := by decide +kernel
theorem dX11_goBroken_124 : decode cX11_goBroken 124 = .ok (.iload_n 2, 1) := by decide +kernel
theorem dX11_goBroken_125 : decode cX11_goBroken 125 = .ok (.iload_n 3, 1) := by decide +kernel
theorem dX11_goBroken_126 : decode cX11_goBroken 126 = .ok (.iastore, 1) := by decide +kernel
theorem dX11_goBroken_127 : decode cX11_goBroken 127 = .ok (.iload_n 3, 1) := by decide +kernel
theorem dX11_goBroken_128 : decode cX11_goBroken 128 = .ok (.iconst (-1), 1) := by decide +kernel
theorem dX11_goBroken_129 : decode cX11_goBroken 129 = .ok (.if_icmp .eq 51, 3) := by decide +kernel
theorem dX11_goBroken_132 : decode cX11_goBroken 132 = .ok (.aload_n 0, 1) := by decide +kernel
theorem dX11_goBroken_133 : decode cX11_goBroken 133 = .ok (.getfield 65, 3) := by decide +kernel
theorem dX11_goBroken_136 : decode cX11_goBroken 136 = .ok (.iload_n 3, 1) := by decide +kernel
theorem dX11_goBroken_137 : decode cX11_goBroken 137 = .ok (.dup2, 1) := by decide +kernel
theorem dX11_goBroken_138 : decode cX11_goBroken 138 = .ok (.iaload, 1) := by decide +kernel
theorem dX11_goBroken_139 : decode cX11_goBroken 139 = .ok (.iconst 1, 1) := by decide +kernel
theorem dX11_goBroken_140 : decode cX11_goBroken 140 = .ok (.isub, 1) := by decide +kernel
theorem dX11_goBroken_141 : decode cX11_goBroken 141 = .ok (.iastore, 1) := by decide +kernel
theorem dX11_goBroken_142 : decode cX11_goBroken 142 = .ok (.aload_n 0, 1) := by decide +kernel
theorem dX11_goBroken_143 : decode cX11_goBroken 143 = .ok (.getfield 65, 3) := by decide +kernel
theorem dX11_goBroken_146 : decode cX11_goBroken 146 = .ok (.iload_n 3, 1) := by decide +kernel
theorem dX11_goBroken_147 : decode cX11_goBroken 147 = .ok (.iaload, 1) := by decide +kernel
theorem dX11_goBroken_148 : decode cX11_goBroken 148 = .ok (.ifCond .ne 30, 3) := by decide +kernel
theorem dX11_goBroken_151 : decode cX11_goBroken 151 = .ok (.iload_n 2, 1) := by decide +kernel
theorem dX11_goBroken_152 : decode cX11_goBroken 152 = .ok (.iconst 1, 1) := by decide +kernel
theorem dX11_goBroken_153 : decode cX11_goBroken 153 = .ok (.iadd, 1) := by decide +kernel
theorem dX11_goBroken_154 : decode cX11_goBroken 154 = .ok (.aload_n 0, 1) := by decide +kernel
theorem dX11_goBroken_155 : decode cX11_goBroken 155 = .ok (.getfield 16, 3) := by decide +kernel
theorem dX11_goBroken_158 : decode cX11_goBroken 158 = .ok (.iload_n 3, 1) := by decide +kernel
theorem dX11_goBroken_159 : decode cX11_goBroken 159 = .ok (.iaload, 1) := by decide +kernel
theorem dX11_goBroken_160 : decode cX11_goBroken 160 = .ok (.isub, 1) := by decide +kernel
theorem dX11_goBroken_161 : decode cX11_goBroken 161 = .ok (.iload_n 1, 1) := by decide +kernel
theorem dX11_goBroken_162 : decode cX11_goBroken 162 = .ok (.if_icmp .le 16, 3) := by decide +kernel
theorem dX11_goBroken_165 : decode cX11_goBroken 165 = .ok (.iload_n 2, 1) := by decide +kernel
theorem dX11_goBroken_166 : decode cX11_goBroken 166 = .ok (.iconst 1, 1) := by decide +kernel
theorem dX11_goBroken_167 : decode cX11_goBroken 167 = .ok (.iadd, 1) := by decide +kernel
theorem dX11_goBroken_168 : decode cX11_goBroken 168 = .ok (.aload_n 0, 1) := by decide +kernel
theorem dX11_goBroken_169 : decode cX11_goBroken 169 = .ok (.getfield 16, 3) := by decide +kernel
theorem dX11_goBroken_172 : decode cX11_goBroken 172 = .ok (.iload_n 3, 1) := by decide +kernel
theorem dX11_goBroken_173 : decode cX11_goBroken 173 = .ok (.iaload, 1) := by decide +kernel
theorem dX11_goBroken_174 : decode cX11_goBroken 174 = .ok (.isub, 1) := by decide +kernel
theorem dX11_goBroken_175 : decode cX11_goBroken 175 = .ok (.goto 4, 3) := by decide +kernel
theorem dX11_goBroken_178 : decode cX11_goBroken 178 = .ok (.iload_n 1, 1) := by decide +kernel
theorem dX11_goBroken_179 : decode cX11_goBroken 179 = .ok (.istore_n 1, 1) := by decide +kernel
theorem dX11_goBroken_180 : decode cX11_goBroken 180 = .ok (.iinc 2 1, 3) := by decide +kernel
theorem dX11_goBroken_183 : decode cX11_goBroken 183 = .ok (.goto (-151), 3) := by decide +kernel
theorem dX11_goBroken_186 : decode cX11_goBroken 186 = .ok (.iload_n 1, 1) := by decide +kernel
theorem dX11_goBroken_187 : decode cX11_goBroken 187 = .ok (.ireturn, 1) := by decide +kernel
theorem dX11_broken_0 : decode cX11_broken 0 = .ok (.iload_n 1, 1) := by decide +kernel
theorem dX11_broken_1 : decode cX11_broken 1 = .ok (.i2l, 1) := by decide +kernel
theorem dX11_broken_2 : decode cX11_broken 2 = .ok (.lconst 0, 1) := by decide +kernel
theorem dX11_broken_3 : decode cX11_broken 3 = .ok (.ldc2_w 104, 3) := by decide +kernel
theorem dX11_broken_6 : decode cX11_broken 6 = .ok (.invokestatic 86, 3) := by decide +kernel
theorem dX11_broken_9 : decode cX11_broken 9 = .ok (.ifCond .ne 6, 3) := by decide +kernel
theorem dX11_broken_12 : decode cX11_broken 12 = .ok (.bipush (-2), 2) := by decide +kernel
theorem dX11_broken_14 : decode cX11_broken 14 = .ok (.ireturn, 1) := by decide +kernel
theorem dX11_broken_15 : decode cX11_broken 15 = .ok (.aload_n 0, 1) := by decide +kernel
theorem dX11_broken_16 : decode cX11_broken 16 = .ok (.invokevirtual 145, 3) := by decide +kernel
theorem dX11_broken_19 : decode cX11_broken 19 = .ok (.istore_n 2, 1) := by decide +kernel
theorem dX11_broken_20 : decode cX11_broken 20 = .ok (.iload_n 1, 1) := by decide +kernel
theorem dX11_broken_21 : decode cX11_broken 21 = .ok (.ifCond .ne 5, 3) := by decide +kernel
theorem dX11_broken_24 : decode cX11_broken 24 = .ok (.iload_n 2, 1) := by decide +kernel
theorem dX11_broken_25 : decode cX11_broken 25 = .ok (.ireturn, 1) := by decide +kernel
theorem dX11_broken_26 : decode cX11_broken 26 = .ok (.iload_n 2, 1) := by decide +kernel
theorem dX11_broken_27 : decode cX11_broken 27 = .ok (.ifCond .ne 5, 3) := by decide +kernel
theorem dX11_broken_30 : decode cX11_broken 30 = .ok (.iconst (-1), 1) := by decide +kernel
theorem dX11_broken_31 : decode cX11_broken 31 = .ok (.ireturn, 1) := by decide +kernel
theorem dX11_broken_32 : decode cX11_broken 32 = .ok (.sipush (-1000), 3) := by decide +kernel
theorem dX11_broken_35 : decode cX11_broken 35 = .ok (.istore_n 3, 1) := by decide +kernel
theorem dX11_broken_36 : decode cX11_broken 36 = .ok (.iconst (-1), 1) := by decide +kernel
theorem dX11_broken_37 : decode cX11_broken 37 = .ok (.istore 4, 2) := by decide +kernel
theorem dX11_broken_39 : decode cX11_broken 39 = .ok (.iconst (-1), 1) := by decide +kernel
theorem dX11_broken_40 : decode cX11_broken 40 = .ok (.istore 5, 2) := by decide +kernel
theorem dX11_broken_42 : decode cX11_broken 42 = .ok (.iconst 0, 1) := by decide +kernel
theorem dX11_broken_43 : decode cX11_broken 43 = .ok (.istore 6, 2) := by decide +kernel
theorem dX11_broken_45 : decode cX11_broken 45 = .ok (.iload 6, 2) := by decide +kernel
theorem dX11_broken_47 : decode cX11_broken 47 = .ok (.bipush 100, 2) := by decide +kernel
theorem dX11_broken_49 : decode cX11_broken 49 = .ok (.if_icmp .ge 121, 3) := by decide +kernel
theorem dX11_broken_52 : decode cX11_broken 52 = .ok (.iconst 0, 1) := by decide +kernel
theorem dX11_broken_53 : decode cX11_broken 53 = .ok (.istore 7, 2) := by decide +kernel
theorem dX11_broken_55 : decode cX11_broken 55 = .ok (.iload 7, 2) := by decide +kernel
theorem dX11_broken_57 : decode cX11_broken 57 = .ok (.sipush 300, 3) := by decide +kernel
theorem dX11_broken_60 : decode cX11_broken 60 = .ok (.if_icmp .gt 104, 3) := by decide +kernel
theorem dX11_broken_63 : decode cX11_broken 63 = .ok (.iconst 0, 1) := by decide +kernel
theorem dX11_broken_64 : decode cX11_broken 64 = .ok (.istore 8, 2) := by decide +kernel
theorem dX11_broken_66 : decode cX11_broken 66 = .ok (.iconst 0, 1) := by decide +kernel
theorem dX11_broken_67 : decode cX11_broken 67 = .ok (.istore 9, 2) := by decide +kernel
theorem dX11_broken_69 : decode cX11_broken 69 = .ok (.iload 9, 2) := by decide +kernel
theorem dX11_broken_71 : decode cX11_broken 71 = .ok (.aload_n 0, 1) := by decide +kernel
theorem dX11_broken_72 : decode cX11_broken 72 = .ok (.getfield 83, 3) := by decide +kernel
theorem dX11_broken_75 : decode cX11_broken 75 = .ok (.if_icmp .ge 49, 3) := by decide +kernel
theorem dX11_broken_78 : decode cX11_broken 78 = .ok (.iload 8, 2) := by decide +kernel
theorem dX11_broken_80 : decode cX11_broken 80 = .ok (.aload_n 0, 1) := by decide +kernel
theorem dX11_broken_81 : decode cX11_broken 81 = .ok (.getfield 13, 3) := by decide +kernel
theorem dX11_broken_84 : decode cX11_broken 84 = .ok (.iload 9, 2) := by decide +kernel
theorem dX11_broken_86 : decode cX11_broken 86 = .ok (.iaload, 1) := by decide +kernel
theorem dX11_broken_87 : decode cX11_broken 87 = .ok (.iload 6, 2) := by decide +kernel
theorem dX11_broken_89 : decode cX11_broken 89 = .ok (.if_icmp .lt 25, 3) := by decide +kernel
theorem dX11_broken_92 : decode cX11_broken 92 = .ok (.aload_n 0, 1) := by decide +kernel
theorem dX11_broken_93 : decode cX11_broken 93 = .ok (.getfield 16, 3) := by decide +kernel
theorem dX11_broken_96 : decode cX11_broken 96 = .ok (.iload 9, 2) := by decide +kernel
theorem dX11_broken_98 : decode cX11_broken 98 = .ok (.iaload, 1) := by decide +kernel
theorem dX11_broken_99 : decode cX11_broken 99 = .ok (.iload 7, 2) := by decide +kernel
theorem dX11_broken_101 : decode cX11_broken 101 = .ok (.if_icmp .gt 13, 3) := by decide +kernel
theorem dX11_broken_104 : decode cX11_broken 104 = .ok (.aload_n 0, 1) := by decide +kernel
theorem dX11_broken_105 : decode cX11_broken 105 = .ok (.getfield 7, 3) := by decide +kernel
theorem dX11_broken_108 : decode cX11_broken 108 = .ok (.iload 9, 2) := by decide +kernel
theorem dX11_broken_110 : decode cX11_broken 110 = .ok (.iaload, 1) := by decide +kernel
theorem dX11_broken_111 : decode cX11_broken 111 = .ok (.goto 4, 3) := by decide +kernel
theorem dX11_broken_114 : decode cX11_broken 114 = .ok (.iconst 0, 1) := by decide +kernel
theorem dX11_broken_115 : decode cX11_broken 115 = .ok (.iadd, 1) := by decide +kernel
theorem dX11_broken_116 : decode cX11_broken 116 = .ok (.istore 8, 2) := by decide +kernel
theorem dX11_broken_118 : decode cX11_broken 118 = .ok (.iinc 9 1, 3) := by decide +kernel
theorem dX11_broken_121 : decode cX11_broken 121 = .ok (.goto (-52), 3) := by decide +kernel
theorem dX11_broken_124 : decode cX11_broken 124 = .ok (.iload 8, 2) := by decide +kernel
theorem dX11_broken_126 : decode cX11_broken 126 = .ok (.ifCond .le 32, 3) := by decide +kernel
theorem dX11_broken_129 : decode cX11_broken 129 = .ok (.iload 6, 2) := by decide +kernel
theorem dX11_broken_131 : decode cX11_broken 131 = .ok (.iload 8, 2) := by decide +kernel
theorem dX11_broken_133 : decode cX11_broken 133 = .ok (.iadd, 1) := by decide +kernel
theorem dX11_broken_134 : decode cX11_broken 134 = .ok (.iload 7, 2) := by decide +kernel
theorem dX11_broken_136 : decode cX11_broken 136 = .ok (.isub, 1) := by decide +kernel
theorem dX11_broken_137 : decode cX11_broken 137 = .ok (.iload_n 3, 1) := by decide +kernel
theorem dX11_broken_138 : decode cX11_broken 138 = .ok (.if_icmp .le 20, 3) := by decide +kernel
theorem dX11_broken_141 : decode cX11_broken 141 = .ok (.iload 6, 2) := by decide +kernel
theorem dX11_broken_143 : decode cX11_broken 143 = .ok (.iload 8, 2) := by decide +kernel
theorem dX11_broken_145 : decode cX11_broken 145 = .ok (.iadd, 1) := by decide +kernel
theorem dX11_broken_146 : decode cX11_broken 146 = .ok (.iload 7, 2) := by decide +kernel
theorem dX11_broken_148 : decode cX11_broken 148 = .ok (.isub, 1) := by decide +kernel
theorem dX11_broken_149 : decode cX11_broken 149 = .ok (.istore_n 3, 1) := by decide +kernel
theorem dX11_broken_150 : decode cX11_broken 150 = .ok (.iload 6, 2) := by decide +kernel
theorem dX11_broken_152 : decode cX11_broken 152 = .ok (.istore 4, 2) := by decide +kernel
theorem dX11_broken_154 : decode cX11_broken 154 = .ok (.iload 7, 2) := by decide +kernel
theorem dX11_broken_156 : decode cX11_broken 156 = .ok (.istore 5, 2) := by decide +kernel
theorem dX11_broken_158 : decode cX11_broken 158 = .ok (.iinc 7 1, 3) := by decide +kernel
theorem dX11_broken_161 : decode cX11_broken 161 = .ok (.goto (-106), 3) := by decide +kernel
theorem dX11_broken_164 : decode cX11_broken 164 = .ok (.iinc 6 1, 3) := by decide +kernel
theorem dX11_broken_167 : decode cX11_broken 167 = .ok (.goto (-122), 3) := by decide +kernel
theorem dX11_broken_170 : decode cX11_broken 170 = .ok (.iload_n 1, 1) := by decide +kernel
theorem dX11_broken_171 : decode cX11_broken 171 = .ok (.iconst 1, 1) := by decide +kernel
theorem dX11_broken_172 : decode cX11_broken 172 = .ok (.if_icmp .ne 8, 3) := by decide +kernel
theorem dX11_broken_175 : decode cX11_broken 175 = .ok (.iload 4, 2) := by decide +kernel
theorem dX11_broken_177 : decode cX11_broken 177 = .ok (.goto 5, 3) := by decide +kernel
theorem dX11_broken_180 : decode cX11_broken 180 = .ok (.iload 5, 2) := by decide +kernel
theorem dX11_broken_182 : decode cX11_broken 182 = .ok (.ireturn, 1) := by decide +kernel
theorem dX11_minute_0 : decode cX11_minute 0 = .ok (.iload_n 1, 1) := by decide +kernel
theorem dX11_minute_1 : decode cX11_minute 1 = .ok (.i2l, 1) := by decide +kernel
theorem dX11_minute_2 : decode cX11_minute 2 = .ok (.lconst 0, 1) := by decide +kernel
theorem dX11_minute_3 : decode cX11_minute 3 = .ok (.ldc2_w 149, 3) := by decide +kernel
theorem dX11_minute_6 : decode cX11_minute 6 = .ok (.invokestatic 86, 3) := by decide +kernel
theorem dX11_minute_9 : decode cX11_minute 9 = .ok (.ifCond .ne 6, 3) := by decide +kernel
theorem dX11_minute_12 : decode cX11_minute 12 = .ok (.bipush (-10), 2) := by decide +kernel
theorem dX11_minute_14 : decode cX11_minute 14 = .ok (.ireturn, 1) := by decide +kernel
theorem dX11_minute_15 : decode cX11_minute 15 = .ok (.aload_n 0, 1) := by decide +kernel
theorem dX11_minute_16 : decode cX11_minute 16 = .ok (.invokevirtual 145, 3) := by decide +kernel
theorem dX11_minute_19 : decode cX11_minute 19 = .ok (.istore_n 2, 1) := by decide +kernel
theorem dX11_minute_20 : decode cX11_minute 20 = .ok (.aload_n 0, 1) := by decide +kernel
theorem dX11_minute_21 : decode cX11_minute 21 = .ok (.getfield 62, 3) := by decide +kernel
theorem dX11_minute_24 : decode cX11_minute 24 = .ok (.iload_n 1, 1) := by decide +kernel
theorem dX11_minute_25 : decode cX11_minute 25 = .ok (.iaload, 1) := by decide +kernel
theorem dX11_minute_26 : decode cX11_minute 26 = .ok (.ireturn, 1) := by decide +kernel
theorem dX11_next_0 : decode cX11_next 0 = .ok (.iconst 0, 1) := by decide +kernel
theorem dX11_next_1 : decode cX11_next 1 = .ok (.istore_n 2, 1) := by decide +kernel
theorem dX11_next_2 : decode cX11_next 2 = .ok (.iconst 0, 1) := by decide +kernel
theorem dX11_next_3 : decode cX11_next 3 = .ok (.istore_n 3, 1) := by decide +kernel
theorem dX11_next_4 : decode cX11_next 4 = .ok (.iload_n 3, 1) := by decide +kernel
theorem dX11_next_5 : decode cX11_next 5 = .ok (.aload_n 0, 1) := by decide +kernel
theorem dX11_next_6 : decode cX11_next 6 = .ok (.getfield 151, 3) := by decide +kernel
theorem dX11_next_9 : decode cX11_next 9 = .ok (.if_icmp .ge 29, 3) := by decide +kernel
theorem dX11_next_12 : decode cX11_next 12 = .ok (.iload_n 2, 1) := by decide +kernel
theorem dX11_next_13 : decode cX11_next 13 = .ok (.ifCond .ne 13, 3) := by decide +kernel
theorem dX11_next_16 : decode cX11_next 16 = .ok (.aload_n 0, 1) := by decide +kernel
theorem dX11_next_17 : decode cX11_next 17 = .ok (.getfield 41, 3) := by decide +kernel
theorem dX11_next_20 : decode cX11_next 20 = .ok (.iload_n 3, 1) := by decide +kernel
theorem dX11_next_21 : decode cX11_next 21 = .ok (.iaload, 1) := by decide +kernel
theorem dX11_next_22 : decode cX11_next 22 = .ok (.iload_n 1, 1) := by decide +kernel
theorem dX11_next_23 : decode cX11_next 23 = .ok (.if_icmp .ne 7, 3) := by decide +kernel
theorem dX11_next_26 : decode cX11_next 26 = .ok (.iconst 1, 1) := by decide +kernel
theorem dX11_next_27 : decode cX11_next 27 = .ok (.goto 4, 3) := by decide +kernel
theorem dX11_next_30 : decode cX11_next 30 = .ok (.iconst 0, 1) := by decide +kernel
theorem dX11_next_31 : decode cX11_next 31 = .ok (.istore_n 2, 1) := by decide +kernel
theorem dX11_next_32 : decode cX11_next 32 = .ok (.iinc 3 1, 3) := by decide +kernel
theorem dX11_next_35 : decode cX11_next 35 = .ok (.goto (-31), 3) := by decide +kernel
theorem dX11_next_38 : decode cX11_next 38 = .ok (.aload_n 0, 1) := by decide +kernel
theorem dX11_next_39 : decode cX11_next 39 = .ok (.iload_n 1, 1) := by decide +kernel
theorem dX11_next_40 : decode cX11_next 40 = .ok (.invokevirtual 92, 3) := by decide +kernel
theorem dX11_next_43 : decode cX11_next 43 = .ok (.ifCond .eq 7, 3) := by decide +kernel
theorem dX11_next_46 : decode cX11_next 46 = .ok (.iload_n 2, 1) := by decide +kernel
theorem dX11_next_47 : decode cX11_next 47 = .ok (.ifCond .eq 6, 3) := by decide +kernel
theorem dX11_next_50 : decode cX11_next 50 = .ok (.bipush (-2), 2) := by decide +kernel
theorem dX11_next_52 : decode cX11_next 52 = .ok (.ireturn, 1) := by decide +kernel
theorem dX11_next_53 : decode cX11_next 53 = .ok (.aload_n 0, 1) := by decide +kernel
theorem dX11_next_54 : decode cX11_next 54 = .ok (.getfield 41, 3) := by decide +kernel
theorem dX11_next_57 : decode cX11_next 57 = .ok (.aload_n 0, 1) := by decide +kernel
theorem dX11_next_58 : decode cX11_next 58 = .ok (.getfield 151, 3) := by decide +kernel
theorem dX11_next_61 : decode cX11_next 61 = .ok (.iload_n 1, 1) := by decide +kernel
theorem dX11_next_62 : decode cX11_next 62 = .ok (.iastore, 1) := by decide +kernel
theorem dX11_next_63 : decode cX11_next 63 = .ok (.aload_n 0, 1) := by decide +kernel
theorem dX11_next_64 : decode cX11_next 64 = .ok (.dup, 1) := by decide +kernel
theorem dX11_next_65 : decode cX11_next 65 = .ok (.getfield 151, 3) := by decide +kernel
theorem dX11_next_68 : decode cX11_next 68 = .ok (.iconst 1, 1) := by decide +kernel
theorem dX11_next_69 : decode cX11_next 69 = .ok (.iadd, 1) := by decide +kernel
theorem dX11_next_70 : decode cX11_next 70 = .ok (.putfield 151, 3) := by decide +kernel
theorem dX11_next_73 : decode cX11_next 73 = .ok (.aload_n 0, 1) := by decide +kernel
theorem dX11_next_74 : decode cX11_next 74 = .ok (.getfield 151, 3) := by decide +kernel
theorem dX11_next_77 : decode cX11_next 77 = .ok (.ireturn, 1) := by decide +kernel
theorem dX11_anew_0 : decode cX11_anew 0 = .ok (.aload_n 0, 1) := by decide +kernel
theorem dX11_anew_1 : decode cX11_anew 1 = .ok (.getfield 151, 3) := by decide +kernel
theorem dX11_anew_4 : decode cX11_anew 4 = .ok (.istore_n 1, 1) := by decide +kernel
theorem dX11_anew_5 : decode cX11_anew 5 = .ok (.aload_n 0, 1) := by decide +kernel
theorem dX11_anew_6 : decode cX11_anew 6 = .ok (.iconst 0, 1) := by decide +kernel
theorem dX11_anew_7 : decode cX11_anew 7 = .ok (.putfield 151, 3) := by decide +kernel
theorem dX11_anew_10 : decode cX11_anew 10 = .ok (.iload_n 1, 1) := by decide +kernel
theorem dX11_anew_11 : decode cX11_anew 11 = .ok (.ireturn, 1) := by decide +kernel
theorem dX11_judge_0 : decode cX11_judge 0 = .ok (.iload_n 1, 1) := by decide +kernel
theorem dX11_judge_1 : decode cX11_judge 1 = .ok (.i2l, 1) := by decide +kernel
theorem dX11_judge_2 : decode cX11_judge 2 = .ok (.lconst 0, 1) := by decide +kernel
theorem dX11_judge_3 : decode cX11_judge 3 = .ok (.ldc2_w 154, 3) := by decide +kernel
theorem dX11_judge_6 : decode cX11_judge 6 = .ok (.invokestatic 86, 3) := by decide +kernel
theorem dX11_judge_9 : decode cX11_judge 9 = .ok (.ifCond .ne 6, 3) := by decide +kernel
theorem dX11_judge_12 : decode cX11_judge 12 = .ok (.bipush (-10), 2) := by decide +kernel
theorem dX11_judge_14 : decode cX11_judge 14 = .ok (.ireturn, 1) := by decide +kernel
theorem dX11_judge_15 : decode cX11_judge 15 = .ok (.aload_n 0, 1) := by decide +kernel
theorem dX11_judge_16 : decode cX11_judge 16 = .ok (.getfield 151, 3) := by decide +kernel
theorem dX11_judge_19 : decode cX11_judge 19 = .ok (.aload_n 0, 1) := by decide +kernel
theorem dX11_judge_20 : decode cX11_judge 20 = .ok (.getfield 83, 3) := by decide +kernel
theorem dX11_judge_23 : decode cX11_judge 23 = .ok (.if_icmp .ge 6, 3) := by decide +kernel
theorem dX11_judge_26 : decode cX11_judge 26 = .ok (.bipush (-20), 2) := by decide +kernel
theorem dX11_judge_28 : decode cX11_judge 28 = .ok (.ireturn, 1) := by decide +kernel
theorem dX11_judge_29 : decode cX11_judge 29 = .ok (.iconst 0, 1) := by decide +kernel
theorem dX11_judge_30 : decode cX11_judge 30 = .ok (.istore_n 2, 1) := by decide +kernel
theorem dX11_judge_31 : decode cX11_judge 31 = .ok (.iload_n 2, 1) := by decide +kernel
theorem dX11_judge_32 : decode cX11_judge 32 = .ok (.aload_n 0, 1) := by decide +kernel
theorem dX11_judge_33 : decode cX11_judge 33 = .ok (.getfield 83, 3) := by decide +kernel
theorem dX11_judge_36 : decode cX11_judge 36 = .ok (.if_icmp .ge 21, 3) := by decide +kernel
theorem dX11_judge_39 : decode cX11_judge 39 = .ok (.aload_n 0, 1) := by decide +kernel
theorem dX11_judge_40 : decode cX11_judge 40 = .ok (.getfield 56, 3) := by decide +kernel
theorem dX11_judge_43 : decode cX11_judge 43 = .ok (.iload_n 2, 1) := by decide +kernel
theorem dX11_judge_44 : decode cX11_judge 44 = .ok (.aload_n 0, 1) := by decide +kernel
theorem dX11_judge_45 : decode cX11_judge 45 = .ok (.getfield 41, 3) := by decide +kernel
theorem dX11_judge_48 : decode cX11_judge 48 = .ok (.iload_n 2, 1) := by decide +kernel
theorem dX11_judge_49 : decode cX11_judge 49 = .ok (.iaload, 1) := by decide +kernel
theorem dX11_judge_50 : decode cX11_judge 50 = .ok (.iastore, 1) := by decide +kernel
theorem dX11_judge_51 : decode cX11_judge 51 = .ok (.iinc 2 1, 3) := by decide +kernel
theorem dX11_judge_54 : decode cX11_judge 54 = .ok (.goto (-23), 3) := by decide +kernel
theorem dX11_judge_57 : decode cX11_judge 57 = .ok (.iload_n 1, 1) := by decide +kernel
theorem dX11_judge_58 : decode cX11_judge 58 = .ok (.iconst 5, 1) := by decide +kernel
theorem dX11_judge_59 : decode cX11_judge 59 = .ok (.if_icmp .ne 13, 3) := by decide +kernel
theorem dX11_judge_62 : decode cX11_judge 62 = .ok (.aload_n 0, 1) := by decide +kernel
theorem dX11_judge_63 : decode cX11_judge 63 = .ok (.aload_n 0, 1) := by decide +kernel
theorem dX11_judge_64 : decode cX11_judge 64 = .ok (.getfield 34, 3) := by decide +kernel
theorem dX11_judge_67 : decode cX11_judge 67 = .ok (.iconst 0, 1) := by decide +kernel
theorem dX11_judge_68 : decode cX11_judge 68 = .ok (.invokevirtual 124, 3) := by decide +kernel
theorem dX11_judge_71 : decode cX11_judge 71 = .ok (.ireturn, 1) := by decide +kernel
theorem dX11_judge_72 : decode cX11_judge 72 = .ok (.aload_n 0, 1) := by decide +kernel
theorem dX11_judge_73 : decode cX11_judge 73 = .ok (.invokevirtual 120, 3) := by decide +kernel
theorem dX11_judge_76 : decode cX11_judge 76 = .ok (.ifCond .eq 11, 3) := by decide +kernel
theorem dX11_judge_79 : decode cX11_judge 79 = .ok (.aload_n 0, 1) := by decide +kernel
theorem dX11_judge_80 : decode cX11_judge 80 = .ok (.iload_n 1, 1) := by decide +kernel
theorem dX11_judge_81 : decode cX11_judge 81 = .ok (.invokevirtual 128, 3) := by decide +kernel
theorem dX11_judge_84 : decode cX11_judge 84 = .ok (.goto 5, 3) := by decide +kernel
theorem dX11_judge_87 : decode cX11_judge 87 = .ok (.bipush (-20), 2) := by decide +kernel
theorem dX11_judge_89 : decode cX11_judge 89 = .ok (.ireturn, 1) := by decide +kernel
theorem dX11_rowEnd_0 : decode cX11_rowEnd 0 = .ok (.iconst 0, 1) := by decide +kernel
theorem dX11_rowEnd_1 : decode cX11_rowEnd 1 = .ok (.istore_n 3, 1) := by decide +kernel
theorem dX11_rowEnd_2 : decode cX11_rowEnd 2 = .ok (.iconst 0, 1) := by decide +kernel
theorem dX11_rowEnd_3 : decode cX11_rowEnd 3 = .ok (.istore 4, 2) := by decide +kernel
theorem dX11_rowEnd_5 : decode cX11_rowEnd 5 = .ok (.iload 4, 2) := by decide +kernel
theorem dX11_rowEnd_7 : decode cX11_rowEnd 7 = .ok (.aload_n 0, 1) := by decide +kernel
theorem dX11_rowEnd_8 : decode cX11_rowEnd 8 = .ok (.getfield 83, 3) := by decide +kernel
theorem dX11_rowEnd_11 : decode cX11_rowEnd 11 = .ok (.if_icmp .ge 182, 3) := by decide +kernel
theorem dX11_rowEnd_14 : decode cX11_rowEnd 14 = .ok (.iconst 0, 1) := by decide +kernel
theorem dX11_rowEnd_15 : decode cX11_rowEnd 15 = .ok (.istore 5, 2) := by decide +kernel
theorem dX11_rowEnd_17 : decode cX11_rowEnd 17 = .ok (.iload 5, 2) := by decide +kernel
theorem dX11_rowEnd_19 : decode cX11_rowEnd 19 = .ok (.iload_n 1, 1) := by decide +kernel
theorem dX11_rowEnd_20 : decode cX11_rowEnd 20 = .ok (.if_icmp .ge 167, 3) := by decide +kernel
theorem dX11_rowEnd_23 : decode cX11_rowEnd 23 = .ok (.iload 5, 2) := by decide +kernel
theorem dX11_rowEnd_25 : decode cX11_rowEnd 25 = .ok (.ifCond .ne 7, 3) := by decide +kernel
theorem dX11_rowEnd_28 : decode cX11_rowEnd 28 = .ok (.iconst 0, 1) := by decide +kernel
theorem dX11_rowEnd_29 : decode cX11_rowEnd 29 = .ok (.goto 17, 3) := by decide +kernel
theorem dX11_rowEnd_32 : decode cX11_rowEnd 32 = .ok (.aload_n 0, 1) := by decide +kernel
theorem dX11_rowEnd_33 : decode cX11_rowEnd 33 = .ok (.getfield 71, 3) := by decide +kernel
theorem dX11_rowEnd_36 : decode cX11_rowEnd 36 = .ok (.iconst 4, 1) := by decide +kernel
theorem dX11_rowEnd_37 : decode cX11_rowEnd 37 = .ok (.iload 4, 2) := by decide +kernel
theorem dX11_rowEnd_39 : decode cX11_rowEnd 39 = .ok (.imul, 1) := by decide +kernel
theorem dX11_rowEnd_40 : decode cX11_rowEnd 40 = .ok (.iload 5, 2) := by decide +kernel
theorem dX11_rowEnd_42 : decode cX11_rowEnd 42 = .ok (.iadd, 1) := by decide +kernel
theorem dX11_rowEnd_43 : decode cX11_rowEnd 43 = .ok (.iconst 1, 1) := by decide +kernel
theorem dX11_rowEnd_44 : decode cX11_rowEnd 44 = .ok (.isub, 1) := by decide +kernel
theorem dX11_rowEnd_45 : decode cX11_rowEnd 45 = .ok (.iaload, 1) := by decide +kernel
theorem dX11_rowEnd_46 : decode cX11_rowEnd 46 = .ok (.istore 6, 2) := by decide +kernel
theorem dX11_rowEnd_48 : decode cX11_rowEnd 48 = .ok (.iload 4, 2) := by decide +kernel
theorem dX11_rowEnd_50 : decode cX11_rowEnd 50 = .ok (.ifCond .ne 7, 3) := by decide +kernel
theorem dX11_rowEnd_53 : decode cX11_rowEnd 53 = .ok (.iconst 0, 1) := by decide +kernel
theorem dX11_rowEnd_54 : decode cX11_rowEnd 54 = .ok (.goto 17, 3) := by decide +kernel
theorem dX11_rowEnd_57 : decode cX11_rowEnd 57 = .ok (.aload_n 0, 1) := by decide +kernel
theorem dX11_rowEnd_58 : decode cX11_rowEnd 58 = .ok (.getfield 71, 3) := by decide +kernel
theorem dX11_rowEnd_61 : decode cX11_rowEnd 61 = .ok (.iconst 4, 1) := by decide +kernel
theorem dX11_rowEnd_62 : decode cX11_rowEnd 62 = .ok (.iload 4, 2) := by decide +kernel
theorem dX11_rowEnd_64 : decode cX11_rowEnd 64 = .ok (.iconst 1, 1) := by decide +kernel
theorem dX11_rowEnd_65 : decode cX11_rowEnd 65 = .ok (.isub, 1) := by decide +kernel
theorem dX11_rowEnd_66 : decode cX11_rowEnd 66 = .ok (.imul, 1) := by decide +kernel
theorem dX11_rowEnd_67 : decode cX11_rowEnd 67 = .ok (.iload 5, 2) := by decide +kernel
theorem dX11_rowEnd_69 : decode cX11_rowEnd 69 = .ok (.iadd, 1) := by decide +kernel
theorem dX11_rowEnd_70 : decode cX11_rowEnd 70 = .ok (.iaload, 1) := by decide +kernel
theorem dX11_rowEnd_71 : decode cX11_rowEnd 71 = .ok (.istore 7, 2) := by decide +kernel
theorem dX11_rowEnd_73 : decode cX11_rowEnd 73 = .ok (.iload 6, 2) := by decide +kernel
theorem dX11_rowEnd_75 : decode cX11_rowEnd 75 = .ok (.iload 7, 2) := by decide +kernel
theorem dX11_rowEnd_77 : decode cX11_rowEnd 77 = .ok (.if_icmp .le 8, 3) := by decide +kernel
theorem dX11_rowEnd_80 : decode cX11_rowEnd 80 = .ok (.iload 6, 2) := by decide +kernel
theorem dX11_rowEnd_82 : decode cX11_rowEnd 82 = .ok (.goto 5, 3) := by decide +kernel
theorem dX11_rowEnd_85 : decode cX11_rowEnd 85 = .ok (.iload 7, 2) := by decide +kernel
theorem dX11_rowEnd_87 : decode cX11_rowEnd 87 = .ok (.istore 8, 2) := by decide +kernel
theorem dX11_rowEnd_89 : decode cX11_rowEnd 89 = .ok (.iload 8, 2) := by decide +kernel
theorem dX11_rowEnd_91 : decode cX11_rowEnd 91 = .ok (.aload_n 0, 1) := by decide +kernel
theorem dX11_rowEnd_92 : decode cX11_rowEnd 92 = .ok (.getfield 31, 3) := by decide +kernel
theorem dX11_rowEnd_95 : decode cX11_rowEnd 95 = .ok (.iconst 4, 1) := by decide +kernel
theorem dX11_rowEnd_96 : decode cX11_rowEnd 96 = .ok (.aload_n 0, 1) := by decide +kernel
theorem dX11_rowEnd_97 : decode cX11_rowEnd 97 = .ok (.getfield 56, 3) := by decide +kernel
theorem dX11_rowEnd_100 : decode cX11_rowEnd 100 = .ok (.iload 4, 2) := by decide +kernel
theorem dX11_rowEnd_102 : decode cX11_rowEnd 102 = .ok (.iaload, 1) := by decide +kernel
theorem dX11_rowEnd_103 : decode cX11_rowEnd 103 = .ok (.imul, 1) := by decide +kernel
theorem dX11_rowEnd_104 : decode cX11_rowEnd 104 = .ok (.iload 5, 2) := by decide +kernel
theorem dX11_rowEnd_106 : decode cX11_rowEnd 106 = .ok (.iadd, 1) := by decide +kernel
theorem dX11_rowEnd_107 : decode cX11_rowEnd 107 = .ok (.iaload, 1) := by decide +kernel
theorem dX11_rowEnd_108 : decode cX11_rowEnd 108 = .ok (.iadd, 1) := by decide +kernel
theorem dX11_rowEnd_109 : decode cX11_rowEnd 109 = .ok (.istore 9, 2) := by decide +kernel
theorem dX11_rowEnd_111 : decode cX11_rowEnd 111 = .ok (.aload_n 0, 1) := by decide +kernel
theorem dX11_rowEnd_112 : decode cX11_rowEnd 112 = .ok (.getfield 68, 3) := by decide +kernel
theorem dX11_rowEnd_115 : decode cX11_rowEnd 115 = .ok (.iconst 4, 1) := by decide +kernel
theorem dX11_rowEnd_116 : decode cX11_rowEnd 116 = .ok (.iload 4, 2) := by decide +kernel
theorem dX11_rowEnd_118 : decode cX11_rowEnd 118 = .ok (.imul, 1) := by decide +kernel
theorem dX11_rowEnd_119 : decode cX11_rowEnd 119 = .ok (.iload 5, 2) := by decide +kernel
theorem dX11_rowEnd_121 : decode cX11_rowEnd 121 = .ok (.iadd, 1) := by decide +kernel
theorem dX11_rowEnd_122 : decode cX11_rowEnd 122 = .ok (.iload 8, 2) := by decide +kernel
theorem dX11_rowEnd_124 : decode cX11_rowEnd 124 = .ok (.iastore, 1) := by decide +kernel
theorem dX11_rowEnd_125 : decode cX11_rowEnd 125 = .ok (.aload_n 0, 1) := by decide +kernel
theorem dX11_rowEnd_126 : decode cX11_rowEnd 126 = .ok (.getfield 71, 3) := by decide +kernel
theorem dX11_rowEnd_129 : decode cX11_rowEnd 129 = .ok (.iconst 4, 1) := by decide +kernel
theorem dX11_rowEnd_130 : decode cX11_rowEnd 130 = .ok (.iload 4, 2) := by decide +kernel
theorem dX11_rowEnd_132 : decode cX11_rowEnd 132 = .ok (.imul, 1) := by decide +kernel
theorem dX11_rowEnd_133 : decode cX11_rowEnd 133 = .ok (.iload 5, 2) := by decide +kernel
theorem dX11_rowEnd_135 : decode cX11_rowEnd 135 = .ok (.iadd, 1) := by decide +kernel
theorem dX11_rowEnd_136 : decode cX11_rowEnd 136 = .ok (.iload 5, 2) := by decide +kernel
theorem dX11_rowEnd_138 : decode cX11_rowEnd 138 = .ok (.iload_n 1, 1) := by decide +kernel
theorem dX11_rowEnd_139 : decode cX11_rowEnd 139 = .ok (.iconst 1, 1) := by decide +kernel
theorem dX11_rowEnd_140 : decode cX11_rowEnd 140 = .ok (.isub, 1) := by decide +kernel
theorem dX11_rowEnd_141 : decode cX11_rowEnd 141 = .ok (.if_icmp .ne 8, 3) := by decide +kernel
theorem dX11_rowEnd_144 : decode cX11_rowEnd 144 = .ok (.iload 9, 2) := by decide +kernel
theorem dX11_rowEnd_146 : decode cX11_rowEnd 146 = .ok (.goto 31, 3) := by decide +kernel
theorem dX11_rowEnd_149 : decode cX11_rowEnd 149 = .ok (.aload_n 0, 1) := by decide +kernel
theorem dX11_rowEnd_150 : decode cX11_rowEnd 150 = .ok (.iload 4, 2) := by decide +kernel
theorem dX11_rowEnd_152 : decode cX11_rowEnd 152 = .ok (.iload 5, 2) := by decide +kernel
theorem dX11_rowEnd_154 : decode cX11_rowEnd 154 = .ok (.iload 9, 2) := by decide +kernel
theorem dX11_rowEnd_156 : decode cX11_rowEnd 156 = .ok (.iload_n 2, 1) := by decide +kernel
theorem dX11_rowEnd_157 : decode cX11_rowEnd 157 = .ok (.ifCond .eq 8, 3) := by decide +kernel
theorem dX11_rowEnd_160 : decode cX11_rowEnd 160 = .ok (.bipush 9, 2) := by decide +kernel
theorem dX11_rowEnd_162 : decode cX11_rowEnd 162 = .ok (.goto 12, 3) := by decide +kernel
theorem dX11_rowEnd_165 : decode cX11_rowEnd 165 = .ok (.aload_n 0, 1) := by decide +kernel
theorem dX11_rowEnd_166 : decode cX11_rowEnd 166 = .ok (.getfield 38, 3) := by decide +kernel
theorem dX11_rowEnd_169 : decode cX11_rowEnd 169 = .ok (.iload 5, 2) := by decide +kernel
theorem dX11_rowEnd_171 : decode cX11_rowEnd 171 = .ok (.iconst 1, 1) := by decide +kernel
theorem dX11_rowEnd_172 : decode cX11_rowEnd 172 = .ok (.iadd, 1) := by decide +kernel
theorem dX11_rowEnd_173 : decode cX11_rowEnd 173 = .ok (.iaload, 1) := by decide +kernel
theorem dX11_rowEnd_174 : decode cX11_rowEnd 174 = .ok (.invokevirtual 156, 3) := by decide +kernel
theorem dX11_rowEnd_177 : decode cX11_rowEnd 177 = .ok (.iastore, 1) := by decide +kernel
theorem dX11_rowEnd_178 : decode cX11_rowEnd 178 = .ok (.iload 9, 2) := by decide +kernel
theorem dX11_rowEnd_180 : decode cX11_rowEnd 180 = .ok (.istore_n 3, 1) := by decide +kernel
theorem dX11_rowEnd_181 : decode cX11_rowEnd 181 = .ok (.iinc 5 1, 3) := by decide +kernel
theorem dX11_rowEnd_184 : decode cX11_rowEnd 184 = .ok (.goto (-167), 3) := by decide +kernel
theorem dX11_rowEnd_187 : decode cX11_rowEnd 187 = .ok (.iinc 4 1, 3) := by decide +kernel
theorem dX11_rowEnd_190 : decode cX11_rowEnd 190 = .ok (.goto (-185), 3) := by decide +kernel
theorem dX11_rowEnd_193 : decode cX11_rowEnd 193 = .ok (.iload_n 3, 1) := by decide +kernel
theorem dX11_rowEnd_194 : decode cX11_rowEnd 194 = .ok (.ireturn, 1) := by decide +kernel
theorem dX11_leaves_0 : decode cX11_leaves 0 = .ok (.iconst 0, 1) := by decide +kernel
theorem dX11_leaves_1 : decode cX11_leaves 1 = .ok (.istore 5, 2) := by decide +kernel
theorem dX11_leaves_3 : decode cX11_leaves 3 = .ok (.iload 4, 2) := by decide +kernel
theorem dX11_leaves_5 : decode cX11_leaves 5 = .ok (.ifCond .ne 30, 3) := by decide +kernel
theorem dX11_leaves_8 : decode cX11_leaves 8 = .ok (.iload_n 1, 1) := by decide +kernel
theorem dX11_leaves_9 : decode cX11_leaves 9 = .ok (.ifCond .ne 7, 3) := by decide +kernel
theorem dX11_leaves_12 : decode cX11_leaves 12 = .ok (.iconst 0, 1) := by decide +kernel
theorem dX11_leaves_13 : decode cX11_leaves 13 = .ok (.goto 17, 3) := by decide +kernel
theorem dX11_leaves_16 : decode cX11_leaves 16 = .ok (.aload_n 0, 1) := by decide +kernel
theorem dX11_leaves_17 : decode cX11_leaves 17 = .ok (.getfield 71, 3) := by decide +kernel
theorem dX11_leaves_20 : decode cX11_leaves 20 = .ok (.iconst 4, 1) := by decide +kernel
theorem dX11_leaves_21 : decode cX11_leaves 21 = .ok (.iload_n 1, 1) := by decide +kernel
theorem dX11_leaves_22 : decode cX11_leaves 22 = .ok (.iconst 1, 1) := by decide +kernel
theorem dX11_leaves_23 : decode cX11_leaves 23 = .ok (.isub, 1) := by decide +kernel
theorem dX11_leaves_24 : decode cX11_leaves 24 = .ok (.imul, 1) := by decide +kernel
theorem dX11_leaves_25 : decode cX11_leaves 25 = .ok (.iload_n 2, 1) := by decide +kernel
theorem dX11_leaves_26 : decode cX11_leaves 26 = .ok (.iadd, 1) := by decide +kernel
theorem dX11_leaves_27 : decode cX11_leaves 27 = .ok (.iconst 1, 1) := by decide +kernel
theorem dX11_leaves_28 : decode cX11_leaves 28 = .ok (.iadd, 1) := by decide +kernel
theorem dX11_leaves_29 : decode cX11_leaves 29 = .ok (.iaload, 1) := by decide +kernel
theorem dX11_leaves_30 : decode cX11_leaves 30 = .ok (.istore 5, 2) := by decide +kernel
theorem dX11_leaves_32 : decode cX11_leaves 32 = .ok (.goto 26, 3) := by decide +kernel
theorem dX11_leaves_35 : decode cX11_leaves 35 = .ok (.iload_n 1, 1) := by decide +kernel
theorem dX11_leaves_36 : decode cX11_leaves 36 = .ok (.iload 4, 2) := by decide +kernel
theorem dX11_leaves_38 : decode cX11_leaves 38 = .ok (.if_icmp .lt 20, 3) := by decide +kernel
theorem dX11_leaves_41 : decode cX11_leaves 41 = .ok (.aload_n 0, 1) := by decide +kernel
theorem dX11_leaves_42 : decode cX11_leaves 42 = .ok (.getfield 68, 3) := by decide +kernel
theorem dX11_leaves_45 : decode cX11_leaves 45 = .ok (.iconst 4, 1) := by decide +kernel
theorem dX11_leaves_46 : decode cX11_leaves 46 = .ok (.iload_n 1, 1) := by decide +kernel
theorem dX11_leaves_47 : decode cX11_leaves 47 = .ok (.iload 4, 2) := by decide +kernel
theorem dX11_leaves_49 : decode cX11_leaves 49 = .ok (.isub, 1) := by decide +kernel
theorem dX11_leaves_50 : decode cX11_leaves 50 = .ok (.imul, 1) := by decide +kernel
theorem dX11_leaves_51 : decode cX11_leaves 51 = .ok (.iload_n 2, 1) := by decide +kernel
theorem dX11_leaves_52 : decode cX11_leaves 52 = .ok (.iadd, 1) := by decide +kernel
theorem dX11_leaves_53 : decode cX11_leaves 53 = .ok (.iconst 1, 1) := by decide +kernel
theorem dX11_leaves_54 : decode cX11_leaves 54 = .ok (.iadd, 1) := by decide +kernel
theorem dX11_leaves_55 : decode cX11_leaves 55 = .ok (.iaload, 1) := by decide +kernel
theorem dX11_leaves_56 : decode cX11_leaves 56 = .ok (.istore 5, 2) := by decide +kernel
theorem dX11_leaves_58 : decode cX11_leaves 58 = .ok (.iload_n 3, 1) := by decide +kernel
theorem dX11_leaves_59 : decode cX11_leaves 59 = .ok (.iload 5, 2) := by decide +kernel
theorem dX11_leaves_61 : decode cX11_leaves 61 = .ok (.if_icmp .le 7, 3) := by decide +kernel
theorem dX11_leaves_64 : decode cX11_leaves 64 = .ok (.iload_n 3, 1) := by decide +kernel
theorem dX11_leaves_65 : decode cX11_leaves 65 = .ok (.goto 5, 3) := by decide +kernel
theorem dX11_leaves_68 : decode cX11_leaves 68 = .ok (.iload 5, 2) := by decide +kernel
theorem dX11_leaves_70 : decode cX11_leaves 70 = .ok (.ireturn, 1) := by decide +kernel
theorem dX11_benches_0 : decode cX11_benches 0 = .ok (.iload_n 1, 1) := by decide +kernel
theorem dX11_benches_1 : decode cX11_benches 1 = .ok (.i2l, 1) := by decide +kernel
theorem dX11_benches_2 : decode cX11_benches 2 = .ok (.ldc2_w 104, 3) := by decide +kernel
theorem dX11_benches_5 : decode cX11_benches 5 = .ok (.ldc2_w 96, 3) := by decide +kernel
theorem dX11_benches_8 : decode cX11_benches 8 = .ok (.invokestatic 86, 3) := by decide +kernel
theorem dX11_benches_11 : decode cX11_benches 11 = .ok (.ifCond .ne 6, 3) := by decide +kernel
theorem dX11_benches_14 : decode cX11_benches 14 = .ok (.bipush (-2), 2) := by decide +kernel
theorem dX11_benches_16 : decode cX11_benches 16 = .ok (.ireturn, 1) := by decide +kernel
theorem dX11_benches_17 : decode cX11_benches 17 = .ok (.aload_n 0, 1) := by decide +kernel
theorem dX11_benches_18 : decode cX11_benches 18 = .ok (.getfield 34, 3) := by decide +kernel
theorem dX11_benches_21 : decode cX11_benches 21 = .ok (.istore_n 2, 1) := by decide +kernel
theorem dX11_benches_22 : decode cX11_benches 22 = .ok (.aload_n 0, 1) := by decide +kernel
theorem dX11_benches_23 : decode cX11_benches 23 = .ok (.iload_n 1, 1) := by decide +kernel
theorem dX11_benches_24 : decode cX11_benches 24 = .ok (.putfield 34, 3) := by decide +kernel
theorem dX11_benches_27 : decode cX11_benches 27 = .ok (.iload_n 2, 1) := by decide +kernel
theorem dX11_benches_28 : decode cX11_benches 28 = .ok (.ireturn, 1) := by decide +kernel
theorem dX11_needs_0 : decode cX11_needs 0 = .ok (.aload_n 0, 1) := by decide +kernel
theorem dX11_needs_1 : decode cX11_needs 1 = .ok (.iload_n 1, 1) := by decide +kernel
theorem dX11_needs_2 : decode cX11_needs 2 = .ok (.invokevirtual 92, 3) := by decide +kernel
theorem dX11_needs_5 : decode cX11_needs 5 = .ok (.ifCond .eq 27, 3) := by decide +kernel
theorem dX11_needs_8 : decode cX11_needs 8 = .ok (.iload_n 2, 1) := by decide +kernel
theorem dX11_needs_9 : decode cX11_needs 9 = .ok (.i2l, 1) := by decide +kernel
theorem dX11_needs_10 : decode cX11_needs 10 = .ok (.lconst 0, 1) := by decide +kernel
theorem dX11_needs_11 : decode cX11_needs 11 = .ok (.ldc2_w 160, 3) := by decide +kernel
theorem dX11_needs_14 : decode cX11_needs 14 = .ok (.invokestatic 86, 3) := by decide +kernel
theorem dX11_needs_17 : decode cX11_needs 17 = .ok (.ifCond .eq 15, 3) := by decide +kernel
theorem dX11_needs_20 : decode cX11_needs 20 = .ok (.iload_n 3, 1) := by decide +kernel
theorem dX11_needs_21 : decode cX11_needs 21 = .ok (.i2l, 1) := by decide +kernel
theorem dX11_needs_22 : decode cX11_needs 22 = .ok (.lconst 1, 1) := by decide +kernel
theorem dX11_needs_23 : decode cX11_needs 23 = .ok (.ldc2_w 90, 3) := by decide +kernel
theorem dX11_needs_26 : decode cX11_needs 26 = .ok (.invokestatic 86, 3) := by decide +kernel
theorem dX11_needs_29 : decode cX11_needs 29 = .ok (.ifCond .ne 6, 3) := by decide +kernel
theorem dX11_needs_32 : decode cX11_needs 32 = .ok (.bipush (-2), 2) := by decide +kernel
theorem dX11_needs_34 : decode cX11_needs 34 = .ok (.ireturn, 1) := by decide +kernel
theorem dX11_needs_35 : decode cX11_needs 35 = .ok (.aload_n 0, 1) := by decide +kernel
theorem dX11_needs_36 : decode cX11_needs 36 = .ok (.getfield 31, 3) := by decide +kernel
theorem dX11_needs_39 : decode cX11_needs 39 = .ok (.iconst 4, 1) := by decide +kernel
theorem dX11_needs_40 : decode cX11_needs 40 = .ok (.iload_n 1, 1) := by decide +kernel
theorem dX11_needs_41 : decode cX11_needs 41 = .ok (.imul, 1) := by decide +kernel
theorem dX11_needs_42 : decode cX11_needs 42 = .ok (.iload_n 2, 1) := by decide +kernel
theorem dX11_needs_43 : decode cX11_needs 43 = .ok (.iadd, 1) := by decide +kernel
theorem dX11_needs_44 : decode cX11_needs 44 = .ok (.iaload, 1) := by decide +kernel
theorem dX11_needs_45 : decode cX11_needs 45 = .ok (.istore 4, 2) := by decide +kernel
theorem dX11_needs_47 : decode cX11_needs 47 = .ok (.aload_n 0, 1) := by decide +kernel
theorem dX11_needs_48 : decode cX11_needs 48 = .ok (.getfield 31, 3) := by decide +kernel
theorem dX11_needs_51 : decode cX11_needs 51 = .ok (.iconst 4, 1) := by decide +kernel
theorem dX11_needs_52 : decode cX11_needs 52 = .ok (.iload_n 1, 1) := by decide +kernel
theorem dX11_needs_53 : decode cX11_needs 53 = .ok (.imul, 1) := by decide +kernel
theorem dX11_needs_54 : decode cX11_needs 54 = .ok (.iload_n 2, 1) := by decide +kernel
theorem dX11_needs_55 : decode cX11_needs 55 = .ok (.iadd, 1) := by decide +kernel
theorem dX11_needs_56 : decode cX11_needs 56 = .ok (.iload_n 3, 1) := by decide +kernel
theorem dX11_needs_57 : decode cX11_needs 57 = .ok (.iastore, 1) := by decide +kernel
theorem dX11_needs_58 : decode cX11_needs 58 = .ok (.iload 4, 2) := by decide +kernel
theorem dX11_needs_60 : decode cX11_needs 60 = .ok (.ireturn, 1) := by decide +kernel
theorem dX11_way_0 : decode cX11_way 0 = .ok (.iload_n 1, 1) := by decide +kernel
theorem dX11_way_1 : decode cX11_way 1 = .ok (.i2l, 1) := by decide +kernel
theorem dX11_way_2 : decode cX11_way 2 = .ok (.lconst 1, 1) := by decide +kernel
theorem dX11_way_3 : decode cX11_way 3 = .ok (.ldc2_w 160, 3) := by decide +kernel
theorem dX11_way_6 : decode cX11_way 6 = .ok (.invokestatic 86, 3) := by decide +kernel
theorem dX11_way_9 : decode cX11_way 9 = .ok (.ifCond .eq 15, 3) := by decide +kernel
theorem dX11_way_12 : decode cX11_way 12 = .ok (.iload_n 2, 1) := by decide +kernel
theorem dX11_way_13 : decode cX11_way 13 = .ok (.i2l, 1) := by decide +kernel
theorem dX11_way_14 : decode cX11_way 14 = .ok (.lconst 0, 1) := by decide +kernel
theorem dX11_way_15 : decode cX11_way 15 = .ok (.ldc2_w 162, 3) := by decide +kernel
theorem dX11_way_18 : decode cX11_way 18 = .ok (.invokestatic 86, 3) := by decide +kernel
theorem dX11_way_21 : decode cX11_way 21 = .ok (.ifCond .ne 6, 3) := by decide +kernel
theorem dX11_way_24 : decode cX11_way 24 = .ok (.bipush (-2), 2) := by decide +kernel
theorem dX11_way_26 : decode cX11_way 26 = .ok (.ireturn, 1) := by decide +kernel
theorem dX11_way_27 : decode cX11_way 27 = .ok (.aload_n 0, 1) := by decide +kernel
theorem dX11_way_28 : decode cX11_way 28 = .ok (.getfield 38, 3) := by decide +kernel
theorem dX11_way_31 : decode cX11_way 31 = .ok (.iload_n 1, 1) := by decide +kernel
theorem dX11_way_32 : decode cX11_way 32 = .ok (.iaload, 1) := by decide +kernel
theorem dX11_way_33 : decode cX11_way 33 = .ok (.istore_n 3, 1) := by decide +kernel
theorem dX11_way_34 : decode cX11_way 34 = .ok (.aload_n 0, 1) := by decide +kernel
theorem dX11_way_35 : decode cX11_way 35 = .ok (.getfield 38, 3) := by decide +kernel
theorem dX11_way_38 : decode cX11_way 38 = .ok (.iload_n 1, 1) := by decide +kernel
theorem dX11_way_39 : decode cX11_way 39 = .ok (.iload_n 2, 1) := by decide +kernel
theorem dX11_way_40 : decode cX11_way 40 = .ok (.iastore, 1) := by decide +kernel
theorem dX11_way_41 : decode cX11_way 41 = .ok (.iload_n 3, 1) := by decide +kernel
theorem dX11_way_42 : decode cX11_way 42 = .ok (.ireturn, 1) := by decide +kernel
theorem dX11_isSooner_0 : decode cX11_isSooner 0 = .ok (.aload_n 0, 1) := by decide +kernel
theorem dX11_isSooner_1 : decode cX11_isSooner 1 = .ok (.getfield 31, 3) := by decide +kernel
theorem dX11_isSooner_4 : decode cX11_isSooner 4 = .ok (.iconst 4, 1) := by decide +kernel
theorem dX11_isSooner_5 : decode cX11_isSooner 5 = .ok (.iload_n 1, 1) := by decide +kernel
theorem dX11_isSooner_6 : decode cX11_isSooner 6 = .ok (.imul, 1) := by decide +kernel
theorem dX11_isSooner_7 : decode cX11_isSooner 7 = .ok (.iaload, 1) := by decide +kernel
theorem dX11_isSooner_8 : decode cX11_isSooner 8 = .ok (.aload_n 0, 1) := by decide +kernel
theorem dX11_isSooner_9 : decode cX11_isSooner 9 = .ok (.getfield 31, 3) := by decide +kernel
theorem dX11_isSooner_12 : decode cX11_isSooner 12 = .ok (.iconst 4, 1) := by decide +kernel
theorem dX11_isSooner_13 : decode cX11_isSooner 13 = .ok (.iload_n 1, 1) := by decide +kernel
theorem dX11_isSooner_14 : decode cX11_isSooner 14 = .ok (.imul, 1) := by decide +kernel
theorem dX11_isSooner_15 : decode cX11_isSooner 15 = .ok (.iconst 1, 1) := by decide +kernel
theorem dX11_isSooner_16 : decode cX11_isSooner 16 = .ok (.iadd, 1) := by decide +kernel
theorem dX11_isSooner_17 : decode cX11_isSooner 17 = .ok (.iaload, 1) := by decide +kernel
theorem dX11_isSooner_18 : decode cX11_isSooner 18 = .ok (.if_icmp .ge 7, 3) := by decide +kernel
theorem dX11_isSooner_21 : decode cX11_isSooner 21 = .ok (.iconst 1, 1) := by decide +kernel
theorem dX11_isSooner_22 : decode cX11_isSooner 22 = .ok (.goto 4, 3) := by decide +kernel
theorem dX11_isSooner_25 : decode cX11_isSooner 25 = .ok (.iconst 0, 1) := by decide +kernel
theorem dX11_isSooner_26 : decode cX11_isSooner 26 = .ok (.istore_n 3, 1) := by decide +kernel
theorem dX11_isSooner_27 : decode cX11_isSooner 27 = .ok (.aload_n 0, 1) := by decide +kernel
theorem dX11_isSooner_28 : decode cX11_isSooner 28 = .ok (.getfield 31, 3) := by decide +kernel
theorem dX11_isSooner_31 : decode cX11_isSooner 31 = .ok (.iconst 4, 1) := by decide +kernel
theorem dX11_isSooner_32 : decode cX11_isSooner 32 = .ok (.iload_n 2, 1) := by decide +kernel
theorem dX11_isSooner_33 : decode cX11_isSooner 33 = .ok (.imul, 1) := by decide +kernel
theorem dX11_isSooner_34 : decode cX11_isSooner 34 = .ok (.iaload, 1) := by decide +kernel
theorem dX11_isSooner_35 : decode cX11_isSooner 35 = .ok (.aload_n 0, 1) := by decide +kernel
theorem dX11_isSooner_36 : decode cX11_isSooner 36 = .ok (.getfield 31, 3) := by decide +kernel
theorem dX11_isSooner_39 : decode cX11_isSooner 39 = .ok (.iconst 4, 1) := by decide +kernel
theorem dX11_isSooner_40 : decode cX11_isSooner 40 = .ok (.iload_n 2, 1) := by decide +kernel
theorem dX11_isSooner_41 : decode cX11_isSooner 41 = .ok (.imul, 1) := by decide +kernel
theorem dX11_isSooner_42 : decode cX11_isSooner 42 = .ok (.iconst 1, 1) := by decide +kernel
theorem dX11_isSooner_43 : decode cX11_isSooner 43 = .ok (.iadd, 1) := by decide +kernel
theorem dX11_isSooner_44 : decode cX11_isSooner 44 = .ok (.iaload, 1) := by decide +kernel
theorem dX11_isSooner_45 : decode cX11_isSooner 45 = .ok (.if_icmp .ge 7, 3) := by decide +kernel
theorem dX11_isSooner_48 : decode cX11_isSooner 48 = .ok (.iconst 1, 1) := by decide +kernel
theorem dX11_isSooner_49 : decode cX11_isSooner 49 = .ok (.goto 4, 3) := by decide +kernel
theorem dX11_isSooner_52 : decode cX11_isSooner 52 = .ok (.iconst 0, 1) := by decide +kernel
theorem dX11_isSooner_53 : decode cX11_isSooner 53 = .ok (.istore 4, 2) := by decide +kernel
theorem dX11_isSooner_55 : decode cX11_isSooner 55 = .ok (.iload_n 3, 1) := by decide +kernel
theorem dX11_isSooner_56 : decode cX11_isSooner 56 = .ok (.iload 4, 2) := by decide +kernel
theorem dX11_isSooner_58 : decode cX11_isSooner 58 = .ok (.if_icmp .eq 5, 3) := by decide +kernel
theorem dX11_isSooner_61 : decode cX11_isSooner 61 = .ok (.iload_n 3, 1) := by decide +kernel
theorem dX11_isSooner_62 : decode cX11_isSooner 62 = .ok (.ireturn, 1) := by decide +kernel
theorem dX11_isSooner_63 : decode cX11_isSooner 63 = .ok (.iload_n 3, 1) := by decide +kernel
theorem dX11_isSooner_64 : decode cX11_isSooner 64 = .ok (.ifCond .eq 23, 3) := by decide +kernel
theorem dX11_isSooner_67 : decode cX11_isSooner 67 = .ok (.aload_n 0, 1) := by decide +kernel
theorem dX11_isSooner_68 : decode cX11_isSooner 68 = .ok (.getfield 31, 3) := by decide +kernel
theorem dX11_isSooner_71 : decode cX11_isSooner 71 = .ok (.iconst 4, 1) := by decide +kernel
theorem dX11_isSooner_72 : decode cX11_isSooner 72 = .ok (.iload_n 1, 1) := by decide +kernel
theorem dX11_isSooner_73 : decode cX11_isSooner 73 = .ok (.imul, 1) := by decide +kernel
theorem dX11_isSooner_74 : decode cX11_isSooner 74 = .ok (.iaload, 1) := by decide +kernel
theorem dX11_isSooner_75 : decode cX11_isSooner 75 = .ok (.aload_n 0, 1) := by decide +kernel
theorem dX11_isSooner_76 : decode cX11_isSooner 76 = .ok (.getfield 31, 3) := by decide +kernel
theorem dX11_isSooner_79 : decode cX11_isSooner 79 = .ok (.iconst 4, 1) := by decide +kernel
theorem dX11_isSooner_80 : decode cX11_isSooner 80 = .ok (.iload_n 2, 1) := by decide +kernel
theorem dX11_isSooner_81 : decode cX11_isSooner 81 = .ok (.imul, 1) := by decide +kernel
theorem dX11_isSooner_82 : decode cX11_isSooner 82 = .ok (.iaload, 1) := by decide +kernel
theorem dX11_isSooner_83 : decode cX11_isSooner 83 = .ok (.isub, 1) := by decide +kernel
theorem dX11_isSooner_84 : decode cX11_isSooner 84 = .ok (.goto 24, 3) := by decide +kernel
theorem dX11_isSooner_87 : decode cX11_isSooner 87 = .ok (.aload_n 0, 1) := by decide +kernel
theorem dX11_isSooner_88 : decode cX11_isSooner 88 = .ok (.getfield 31, 3) := by decide +kernel
theorem dX11_isSooner_91 : decode cX11_isSooner 91 = .ok (.iconst 4, 1) := by decide +kernel
theorem dX11_isSooner_92 : decode cX11_isSooner 92 = .ok (.iload_n 2, 1) := by decide +kernel
theorem dX11_isSooner_93 : decode cX11_isSooner 93 = .ok (.imul, 1) := by decide +kernel
theorem dX11_isSooner_94 : decode cX11_isSooner 94 = .ok (.iconst 1, 1) := by decide +kernel
theorem dX11_isSooner_95 : decode cX11_isSooner 95 = .ok (.iadd, 1) := by decide +kernel
theorem dX11_isSooner_96 : decode cX11_isSooner 96 = .ok (.iaload, 1) := by decide +kernel
theorem dX11_isSooner_97 : decode cX11_isSooner 97 = .ok (.aload_n 0, 1) := by decide +kernel
theorem dX11_isSooner_98 : decode cX11_isSooner 98 = .ok (.getfield 31, 3) := by decide +kernel
theorem dX11_isSooner_101 : decode cX11_isSooner 101 = .ok (.iconst 4, 1) := by decide +kernel
theorem dX11_isSooner_102 : decode cX11_isSooner 102 = .ok (.iload_n 1, 1) := by decide +kernel
theorem dX11_isSooner_103 : decode cX11_isSooner 103 = .ok (.imul, 1) := by decide +kernel
theorem dX11_isSooner_104 : decode cX11_isSooner 104 = .ok (.iconst 1, 1) := by decide +kernel
theorem dX11_isSooner_105 : decode cX11_isSooner 105 = .ok (.iadd, 1) := by decide +kernel
theorem dX11_isSooner_106 : decode cX11_isSooner 106 = .ok (.iaload, 1) := by decide +kernel
theorem dX11_isSooner_107 : decode cX11_isSooner 107 = .ok (.isub, 1) := by decide +kernel
theorem dX11_isSooner_108 : decode cX11_isSooner 108 = .ok (.istore 5, 2) := by decide +kernel
theorem dX11_isSooner_110 : decode cX11_isSooner 110 = .ok (.iload 5, 2) := by decide +kernel
theorem dX11_isSooner_112 : decode cX11_isSooner 112 = .ok (.ifCond .lt 13, 3) := by decide +kernel
theorem dX11_isSooner_115 : decode cX11_isSooner 115 = .ok (.iload 5, 2) := by decide +kernel
theorem dX11_isSooner_117 : decode cX11_isSooner 117 = .ok (.ifCond .ne 12, 3) := by decide +kernel
theorem dX11_isSooner_120 : decode cX11_isSooner 120 = .ok (.iload_n 1, 1) := by decide +kernel
theorem dX11_isSooner_121 : decode cX11_isSooner 121 = .ok (.iload_n 2, 1) := by decide +kernel
theorem dX11_isSooner_122 : decode cX11_isSooner 122 = .ok (.if_icmp .ge 7, 3) := by decide +kernel
theorem dX11_isSooner_125 : decode cX11_isSooner 125 = .ok (.iconst 1, 1) := by decide +kernel
theorem dX11_isSooner_126 : decode cX11_isSooner 126 = .ok (.goto 4, 3) := by decide +kernel
theorem dX11_isSooner_129 : decode cX11_isSooner 129 = .ok (.iconst 0, 1) := by decide +kernel
theorem dX11_isSooner_130 : decode cX11_isSooner 130 = .ok (.ireturn, 1) := by decide +kernel
theorem dX11_byRule_0 : decode cX11_byRule 0 = .ok (.aload_n 0, 1) := by decide +kernel
theorem dX11_byRule_1 : decode cX11_byRule 1 = .ok (.iload_n 1, 1) := by decide +kernel
theorem dX11_byRule_2 : decode cX11_byRule 2 = .ok (.invokevirtual 136, 3) := by decide +kernel
theorem dX11_byRule_5 : decode cX11_byRule 5 = .ok (.ifCond .ne 6, 3) := by decide +kernel
theorem dX11_byRule_8 : decode cX11_byRule 8 = .ok (.bipush (-10), 2) := by decide +kernel
theorem dX11_byRule_10 : decode cX11_byRule 10 = .ok (.ireturn, 1) := by decide +kernel
theorem dX11_byRule_11 : decode cX11_byRule 11 = .ok (.aload_n 0, 1) := by decide +kernel
theorem dX11_byRule_12 : decode cX11_byRule 12 = .ok (.invokevirtual 117, 3) := by decide +kernel
theorem dX11_byRule_15 : decode cX11_byRule 15 = .ok (.iconst 0, 1) := by decide +kernel
theorem dX11_byRule_16 : decode cX11_byRule 16 = .ok (.istore_n 2, 1) := by decide +kernel
theorem dX11_byRule_17 : decode cX11_byRule 17 = .ok (.iload_n 2, 1) := by decide +kernel
theorem dX11_byRule_18 : decode cX11_byRule 18 = .ok (.aload_n 0, 1) := by decide +kernel
theorem dX11_byRule_19 : decode cX11_byRule 19 = .ok (.getfield 83, 3) := by decide +kernel
theorem dX11_byRule_22 : decode cX11_byRule 22 = .ok (.if_icmp .ge 56, 3) := by decide +kernel
theorem dX11_byRule_25 : decode cX11_byRule 25 = .ok (.iconst 0, 1) := by decide +kernel
theorem dX11_byRule_26 : decode cX11_byRule 26 = .ok (.istore_n 3, 1) := by decide +kernel
theorem dX11_byRule_27 : decode cX11_byRule 27 = .ok (.iload_n 3, 1) := by decide +kernel
theorem dX11_byRule_28 : decode cX11_byRule 28 = .ok (.iconst 1, 1) := by decide +kernel
theorem dX11_byRule_29 : decode cX11_byRule 29 = .ok (.iadd, 1) := by decide +kernel
theorem dX11_byRule_30 : decode cX11_byRule 30 = .ok (.aload_n 0, 1) := by decide +kernel
theorem dX11_byRule_31 : decode cX11_byRule 31 = .ok (.getfield 83, 3) := by decide +kernel
theorem dX11_byRule_34 : decode cX11_byRule 34 = .ok (.if_icmp .ge 38, 3) := by decide +kernel
theorem dX11_byRule_37 : decode cX11_byRule 37 = .ok (.aload_n 0, 1) := by decide +kernel
theorem dX11_byRule_38 : decode cX11_byRule 38 = .ok (.aload_n 0, 1) := by decide +kernel
theorem dX11_byRule_39 : decode cX11_byRule 39 = .ok (.getfield 56, 3) := by decide +kernel
theorem dX11_byRule_42 : decode cX11_byRule 42 = .ok (.iload_n 3, 1) := by decide +kernel
theorem dX11_byRule_43 : decode cX11_byRule 43 = .ok (.iconst 1, 1) := by decide +kernel
theorem dX11_byRule_44 : decode cX11_byRule 44 = .ok (.iadd, 1) := by decide +kernel
theorem dX11_byRule_45 : decode cX11_byRule 45 = .ok (.iaload, 1) := by decide +kernel
theorem dX11_byRule_46 : decode cX11_byRule 46 = .ok (.aload_n 0, 1) := by decide +kernel
theorem dX11_byRule_47 : decode cX11_byRule 47 = .ok (.getfield 56, 3) := by decide +kernel
theorem dX11_byRule_50 : decode cX11_byRule 50 = .ok (.iload_n 3, 1) := by decide +kernel
theorem dX11_byRule_51 : decode cX11_byRule 51 = .ok (.iaload, 1) := by decide +kernel
theorem dX11_byRule_52 : decode cX11_byRule 52 = .ok (.invokevirtual 164, 3) := by decide +kernel
theorem dX11_byRule_55 : decode cX11_byRule 55 = .ok (.ifCond .eq 11, 3) := by decide +kernel
theorem dX11_byRule_58 : decode cX11_byRule 58 = .ok (.aload_n 0, 1) := by decide +kernel
theorem dX11_byRule_59 : decode cX11_byRule 59 = .ok (.iload_n 3, 1) := by decide +kernel
theorem dX11_byRule_60 : decode cX11_byRule 60 = .ok (.iload_n 3, 1) := by decide +kernel
theorem dX11_byRule_61 : decode cX11_byRule 61 = .ok (.iconst 1, 1) := by decide +kernel
theorem dX11_byRule_62 : decode cX11_byRule 62 = .ok (.iadd, 1) := by decide +kernel
theorem dX11_byRule_63 : decode cX11_byRule 63 = .ok (.invokevirtual 113, 3) := by decide +kernel
theorem dX11_byRule_66 : decode cX11_byRule 66 = .ok (.iinc 3 1, 3) := by decide +kernel
theorem dX11_byRule_69 : decode cX11_byRule 69 = .ok (.goto (-42), 3) := by decide +kernel
theorem dX11_byRule_72 : decode cX11_byRule 72 = .ok (.iinc 2 1, 3) := by decide +kernel
theorem dX11_byRule_75 : decode cX11_byRule 75 = .ok (.goto (-58), 3) := by decide +kernel
theorem dX11_byRule_78 : decode cX11_byRule 78 = .ok (.iload_n 1, 1) := by decide +kernel
theorem dX11_byRule_79 : decode cX11_byRule 79 = .ok (.iconst (-1), 1) := by decide +kernel
theorem dX11_byRule_80 : decode cX11_byRule 80 = .ok (.if_icmp .ne 12, 3) := by decide +kernel
theorem dX11_byRule_83 : decode cX11_byRule 83 = .ok (.aload_n 0, 1) := by decide +kernel
theorem dX11_byRule_84 : decode cX11_byRule 84 = .ok (.iconst 2, 1) := by decide +kernel
theorem dX11_byRule_85 : decode cX11_byRule 85 = .ok (.iconst 1, 1) := by decide +kernel
theorem dX11_byRule_86 : decode cX11_byRule 86 = .ok (.invokevirtual 124, 3) := by decide +kernel
theorem dX11_byRule_89 : decode cX11_byRule 89 = .ok (.goto 9, 3) := by decide +kernel
theorem dX11_byRule_92 : decode cX11_byRule 92 = .ok (.aload_n 0, 1) := by decide +kernel
theorem dX11_byRule_93 : decode cX11_byRule 93 = .ok (.getfield 56, 3) := by decide +kernel
theorem dX11_byRule_96 : decode cX11_byRule 96 = .ok (.iload_n 1, 1) := by decide +kernel
theorem dX11_byRule_97 : decode cX11_byRule 97 = .ok (.iaload, 1) := by decide +kernel
theorem dX11_byRule_98 : decode cX11_byRule 98 = .ok (.ireturn, 1) := by decide +kernel
theorem dX11_bestRow_0 : decode cX11_bestRow 0 = .ok (.aload_n 0, 1) := by decide +kernel
theorem dX11_bestRow_1 : decode cX11_bestRow 1 = .ok (.iload_n 1, 1) := by decide +kernel
theorem dX11_bestRow_2 : decode cX11_bestRow 2 = .ok (.invokevirtual 136, 3) := by decide +kernel
theorem dX11_bestRow_5 : decode cX11_bestRow 5 = .ok (.ifCond .ne 6, 3) := by decide +kernel
theorem dX11_bestRow_8 : decode cX11_bestRow 8 = .ok (.bipush (-10), 2) := by decide +kernel
theorem dX11_bestRow_10 : decode cX11_bestRow 10 = .ok (.ireturn, 1) := by decide +kernel
theorem dX11_bestRow_11 : decode cX11_bestRow 11 = .ok (.aload_n 0, 1) := by decide +kernel
theorem dX11_bestRow_12 : decode cX11_bestRow 12 = .ok (.iconst 5, 1) := by decide +kernel
theorem dX11_bestRow_13 : decode cX11_bestRow 13 = .ok (.invokevirtual 139, 3) := by decide +kernel
theorem dX11_bestRow_16 : decode cX11_bestRow 16 = .ok (.istore_n 2, 1) := by decide +kernel
theorem dX11_bestRow_17 : decode cX11_bestRow 17 = .ok (.iload_n 1, 1) := by decide +kernel
theorem dX11_bestRow_18 : decode cX11_bestRow 18 = .ok (.iconst (-1), 1) := by decide +kernel
theorem dX11_bestRow_19 : decode cX11_bestRow 19 = .ok (.if_icmp .ne 7, 3) := by decide +kernel
theorem dX11_bestRow_22 : decode cX11_bestRow 22 = .ok (.iload_n 2, 1) := by decide +kernel
theorem dX11_bestRow_23 : decode cX11_bestRow 23 = .ok (.goto 9, 3) := by decide +kernel
theorem dX11_bestRow_26 : decode cX11_bestRow 26 = .ok (.aload_n 0, 1) := by decide +kernel
theorem dX11_bestRow_27 : decode cX11_bestRow 27 = .ok (.getfield 59, 3) := by decide +kernel
theorem dX11_bestRow_30 : decode cX11_bestRow 30 = .ok (.iload_n 1, 1) := by decide +kernel
theorem dX11_bestRow_31 : decode cX11_bestRow 31 = .ok (.iaload, 1) := by decide +kernel
theorem dX11_bestRow_32 : decode cX11_bestRow 32 = .ok (.ireturn, 1) := by decide +kernel
theorem dX11_bound_0 : decode cX11_bound 0 = .ok (.iconst 0, 1) := by decide +kernel
theorem dX11_bound_1 : decode cX11_bound 1 = .ok (.istore_n 1, 1) := by decide +kernel
theorem dX11_bound_2 : decode cX11_bound 2 = .ok (.iconst 0, 1) := by decide +kernel
theorem dX11_bound_3 : decode cX11_bound 3 = .ok (.istore_n 2, 1) := by decide +kernel
theorem dX11_bound_4 : decode cX11_bound 4 = .ok (.iload_n 2, 1) := by decide +kernel
theorem dX11_bound_5 : decode cX11_bound 5 = .ok (.aload_n 0, 1) := by decide +kernel
theorem dX11_bound_6 : decode cX11_bound 6 = .ok (.getfield 34, 3) := by decide +kernel
theorem dX11_bound_9 : decode cX11_bound 9 = .ok (.if_icmp .ge 193, 3) := by decide +kernel
theorem dX11_bound_12 : decode cX11_bound 12 = .ok (.aload_n 0, 1) := by decide +kernel
theorem dX11_bound_13 : decode cX11_bound 13 = .ok (.getfield 83, 3) := by decide +kernel
theorem dX11_bound_16 : decode cX11_bound 16 = .ok (.ifCond .le 186, 3) := by decide +kernel
theorem dX11_bound_19 : decode cX11_bound 19 = .ok (.iconst 0, 1) := by decide +kernel
theorem dX11_bound_20 : decode cX11_bound 20 = .ok (.istore_n 3, 1) := by decide +kernel
theorem dX11_bound_21 : decode cX11_bound 21 = .ok (.sipush 1000, 3) := by decide +kernel
theorem dX11_bound_24 : decode cX11_bound 24 = .ok (.istore 4, 2) := by decide +kernel
theorem dX11_bound_26 : decode cX11_bound 26 = .ok (.sipush 1000, 3) := by decide +kernel
theorem dX11_bound_29 : decode cX11_bound 29 = .ok (.istore 5, 2) := by decide +kernel
theorem dX11_bound_31 : decode cX11_bound 31 = .ok (.iconst 0, 1) := by decide +kernel
theorem dX11_bound_32 : decode cX11_bound 32 = .ok (.istore 6, 2) := by decide +kernel
theorem dX11_bound_34 : decode cX11_bound 34 = .ok (.iload 6, 2) := by decide +kernel
theorem dX11_bound_36 : decode cX11_bound 36 = .ok (.aload_n 0, 1) := by decide +kernel
theorem dX11_bound_37 : decode cX11_bound 37 = .ok (.getfield 83, 3) := by decide +kernel
theorem dX11_bound_40 : decode cX11_bound 40 = .ok (.if_icmp .ge 133, 3) := by decide +kernel
theorem dX11_bound_43 : decode cX11_bound 43 = .ok (.iconst 0, 1) := by decide +kernel
theorem dX11_bound_44 : decode cX11_bound 44 = .ok (.istore 7, 2) := by decide +kernel
theorem dX11_bound_46 : decode cX11_bound 46 = .ok (.iconst 0, 1) := by decide +kernel
theorem dX11_bound_47 : decode cX11_bound 47 = .ok (.istore 8, 2) := by decide +kernel
theorem dX11_bound_49 : decode cX11_bound 49 = .ok (.iconst 0, 1) := by decide +kernel
theorem dX11_bound_50 : decode cX11_bound 50 = .ok (.istore 9, 2) := by decide +kernel
theorem dX11_bound_52 : decode cX11_bound 52 = .ok (.iload 9, 2) := by decide +kernel
theorem dX11_bound_54 : decode cX11_bound 54 = .ok (.aload_n 0, 1) := by decide +kernel
theorem dX11_bound_55 : decode cX11_bound 55 = .ok (.getfield 34, 3) := by decide +kernel
theorem dX11_bound_58 : decode cX11_bound 58 = .ok (.if_icmp .ge 63, 3) := by decide +kernel
theorem dX11_bound_61 : decode cX11_bound 61 = .ok (.iload 7, 2) := by decide +kernel
theorem dX11_bound_63 : decode cX11_bound 63 = .ok (.iload 9, 2) := by decide +kernel
theorem dX11_bound_65 : decode cX11_bound 65 = .ok (.iload_n 2, 1) := by decide +kernel
theorem dX11_bound_66 : decode cX11_bound 66 = .ok (.if_icmp .ge 18, 3) := by decide +kernel
theorem dX11_bound_69 : decode cX11_bound 69 = .ok (.aload_n 0, 1) := by decide +kernel
theorem dX11_bound_70 : decode cX11_bound 70 = .ok (.getfield 31, 3) := by decide +kernel
theorem dX11_bound_73 : decode cX11_bound 73 = .ok (.iconst 4, 1) := by decide +kernel
theorem dX11_bound_74 : decode cX11_bound 74 = .ok (.iload 6, 2) := by decide +kernel
theorem dX11_bound_76 : decode cX11_bound 76 = .ok (.imul, 1) := by decide +kernel
theorem dX11_bound_77 : decode cX11_bound 77 = .ok (.iload 9, 2) := by decide +kernel
theorem dX11_bound_79 : decode cX11_bound 79 = .ok (.iadd, 1) := by decide +kernel
theorem dX11_bound_80 : decode cX11_bound 80 = .ok (.iaload, 1) := by decide +kernel
theorem dX11_bound_81 : decode cX11_bound 81 = .ok (.goto 4, 3) := by decide +kernel
theorem dX11_bound_84 : decode cX11_bound 84 = .ok (.iconst 0, 1) := by decide +kernel
theorem dX11_bound_85 : decode cX11_bound 85 = .ok (.iadd, 1) := by decide +kernel
theorem dX11_bound_86 : decode cX11_bound 86 = .ok (.istore 7, 2) := by decide +kernel
theorem dX11_bound_88 : decode cX11_bound 88 = .ok (.iload 8, 2) := by decide +kernel
theorem dX11_bound_90 : decode cX11_bound 90 = .ok (.iload 9, 2) := by decide +kernel
theorem dX11_bound_92 : decode cX11_bound 92 = .ok (.iload_n 2, 1) := by decide +kernel
theorem dX11_bound_93 : decode cX11_bound 93 = .ok (.if_icmp .le 18, 3) := by decide +kernel
theorem dX11_bound_96 : decode cX11_bound 96 = .ok (.aload_n 0, 1) := by decide +kernel
theorem dX11_bound_97 : decode cX11_bound 97 = .ok (.getfield 31, 3) := by decide +kernel
theorem dX11_bound_100 : decode cX11_bound 100 = .ok (.iconst 4, 1) := by decide +kernel
theorem dX11_bound_101 : decode cX11_bound 101 = .ok (.iload 6, 2) := by decide +kernel
theorem dX11_bound_103 : decode cX11_bound 103 = .ok (.imul, 1) := by decide +kernel
theorem dX11_bound_104 : decode cX11_bound 104 = .ok (.iload 9, 2) := by decide +kernel
theorem dX11_bound_106 : decode cX11_bound 106 = .ok (.iadd, 1) := by decide +kernel
theorem dX11_bound_107 : decode cX11_bound 107 = .ok (.iaload, 1) := by decide +kernel
theorem dX11_bound_108 : decode cX11_bound 108 = .ok (.goto 4, 3) := by decide +kernel
theorem dX11_bound_111 : decode cX11_bound 111 = .ok (.iconst 0, 1) := by decide +kernel
theorem dX11_bound_112 : decode cX11_bound 112 = .ok (.iadd, 1) := by decide +kernel
theorem dX11_bound_113 : decode cX11_bound 113 = .ok (.istore 8, 2) := by decide +kernel
theorem dX11_bound_115 : decode cX11_bound 115 = .ok (.iinc 9 1, 3) := by decide +kernel
theorem dX11_bound_118 : decode cX11_bound 118 = .ok (.goto (-66), 3) := by decide +kernel
theorem dX11_bound_121 : decode cX11_bound 121 = .ok (.iload_n 3, 1) := by decide +kernel
theorem dX11_bound_122 : decode cX11_bound 122 = .ok (.aload_n 0, 1) := by decide +kernel
theorem dX11_bound_123 : decode cX11_bound 123 = .ok (.getfield 31, 3) := by decide +kernel
theorem dX11_bound_126 : decode cX11_bound 126 = .ok (.iconst 4, 1) := by decide +kernel
theorem dX11_bound_127 : decode cX11_bound 127 = .ok (.iload 6, 2) := by decide +kernel
theorem dX11_bound_129 : decode cX11_bound 129 = .ok (.imul, 1) := by decide +kernel
theorem dX11_bound_130 : decode cX11_bound 130 = .ok (.iload_n 2, 1) := by decide +kernel
theorem dX11_bound_131 : decode cX11_bound 131 = .ok (.iadd, 1) := by decide +kernel
theorem dX11_bound_132 : decode cX11_bound 132 = .ok (.iaload, 1) := by decide +kernel
theorem dX11_bound_133 : decode cX11_bound 133 = .ok (.iadd, 1) := by decide +kernel
theorem dX11_bound_134 : decode cX11_bound 134 = .ok (.istore_n 3, 1) := by decide +kernel
theorem dX11_bound_135 : decode cX11_bound 135 = .ok (.iload 7, 2) := by decide +kernel
theorem dX11_bound_137 : decode cX11_bound 137 = .ok (.iload 4, 2) := by decide +kernel
theorem dX11_bound_139 : decode cX11_bound 139 = .ok (.if_icmp .ge 8, 3) := by decide +kernel
theorem dX11_bound_142 : decode cX11_bound 142 = .ok (.iload 7, 2) := by decide +kernel
theorem dX11_bound_144 : decode cX11_bound 144 = .ok (.goto 5, 3) := by decide +kernel
theorem dX11_bound_147 : decode cX11_bound 147 = .ok (.iload 4, 2) := by decide +kernel
theorem dX11_bound_149 : decode cX11_bound 149 = .ok (.istore 4, 2) := by decide +kernel
theorem dX11_bound_151 : decode cX11_bound 151 = .ok (.iload 8, 2) := by decide +kernel
theorem dX11_bound_153 : decode cX11_bound 153 = .ok (.iload 5, 2) := by decide +kernel
theorem dX11_bound_155 : decode cX11_bound 155 = .ok (.if_icmp .ge 8, 3) := by decide +kernel
theorem dX11_bound_158 : decode cX11_bound 158 = .ok (.iload 8, 2) := by decide +kernel
theorem dX11_bound_160 : decode cX11_bound 160 = .ok (.goto 5, 3) := by decide +kernel
theorem dX11_bound_163 : decode cX11_bound 163 = .ok (.iload 5, 2) := by decide +kernel
theorem dX11_bound_165 : decode cX11_bound 165 = .ok (.istore 5, 2) := by decide +kernel
theorem dX11_bound_167 : decode cX11_bound 167 = .ok (.iinc 6 1, 3) := by decide +kernel
theorem dX11_bound_170 : decode cX11_bound 170 = .ok (.goto (-136), 3) := by decide +kernel
theorem dX11_bound_173 : decode cX11_bound 173 = .ok (.iload_n 3, 1) := by decide +kernel
theorem dX11_bound_174 : decode cX11_bound 174 = .ok (.iload 4, 2) := by decide +kernel
theorem dX11_bound_176 : decode cX11_bound 176 = .ok (.iadd, 1) := by decide +kernel
theorem dX11_bound_177 : decode cX11_bound 177 = .ok (.iload 5, 2) := by decide +kernel
theorem dX11_bound_179 : decode cX11_bound 179 = .ok (.iadd, 1) := by decide +kernel
theorem dX11_bound_180 : decode cX11_bound 180 = .ok (.iload_n 1, 1) := by decide +kernel
theorem dX11_bound_181 : decode cX11_bound 181 = .ok (.if_icmp .le 13, 3) := by decide +kernel
theorem dX11_bound_184 : decode cX11_bound 184 = .ok (.iload_n 3, 1) := by decide +kernel
theorem dX11_bound_185 : decode cX11_bound 185 = .ok (.iload 4, 2) := by decide +kernel
theorem dX11_bound_187 : decode cX11_bound 187 = .ok (.iadd, 1) := by decide +kernel
theorem dX11_bound_188 : decode cX11_bound 188 = .ok (.iload 5, 2) := by decide +kernel
theorem dX11_bound_190 : decode cX11_bound 190 = .ok (.iadd, 1) := by decide +kernel
theorem dX11_bound_191 : decode cX11_bound 191 = .ok (.goto 4, 3) := by decide +kernel
theorem dX11_bound_194 : decode cX11_bound 194 = .ok (.iload_n 1, 1) := by decide +kernel
theorem dX11_bound_195 : decode cX11_bound 195 = .ok (.istore_n 1, 1) := by decide +kernel
theorem dX11_bound_196 : decode cX11_bound 196 = .ok (.iinc 2 1, 3) := by decide +kernel
theorem dX11_bound_199 : decode cX11_bound 199 = .ok (.goto (-195), 3) := by decide +kernel
theorem dX11_bound_202 : decode cX11_bound 202 = .ok (.iload_n 1, 1) := by decide +kernel
theorem dX11_bound_203 : decode cX11_bound 203 = .ok (.ireturn, 1) := by decide +kernel
theorem dX11_any_0 : decode cX11_any 0 = .ok (.iconst 0, 1) := by decide +kernel
theorem dX11_any_1 : decode cX11_any 1 = .ok (.istore_n 1, 1) := by decide +kernel
theorem dX11_any_2 : decode cX11_any 2 = .ok (.iconst 0, 1) := by decide +kernel
theorem dX11_any_3 : decode cX11_any 3 = .ok (.istore_n 2, 1) := by decide +kernel
theorem dX11_any_4 : decode cX11_any 4 = .ok (.iconst 0, 1) := by decide +kernel
theorem dX11_any_5 : decode cX11_any 5 = .ok (.istore_n 3, 1) := by decide +kernel
theorem dX11_any_6 : decode cX11_any 6 = .ok (.iconst 0, 1) := by decide +kernel
theorem dX11_any_7 : decode cX11_any 7 = .ok (.istore 4, 2) := by decide +kernel
theorem dX11_any_9 : decode cX11_any 9 = .ok (.iload 4, 2) := by decide +kernel
theorem dX11_any_11 : decode cX11_any 11 = .ok (.aload_n 0, 1) := by decide +kernel
theorem dX11_any_12 : decode cX11_any 12 = .ok (.getfield 83, 3) := by decide +kernel
theorem dX11_any_15 : decode cX11_any 15 = .ok (.if_icmp .ge 71, 3) := by decide +kernel
theorem dX11_any_18 : decode cX11_any 18 = .ok (.iload_n 1, 1) := by decide +kernel
theorem dX11_any_19 : decode cX11_any 19 = .ok (.aload_n 0, 1) := by decide +kernel
theorem dX11_any_20 : decode cX11_any 20 = .ok (.getfield 31, 3) := by decide +kernel
theorem dX11_any_23 : decode cX11_any 23 = .ok (.iconst 4, 1) := by decide +kernel
theorem dX11_any_24 : decode cX11_any 24 = .ok (.iload 4, 2) := by decide +kernel
theorem dX11_any_26 : decode cX11_any 26 = .ok (.imul, 1) := by decide +kernel
theorem dX11_any_27 : decode cX11_any 27 = .ok (.iaload, 1) := by decide +kernel
theorem dX11_any_28 : decode cX11_any 28 = .ok (.iadd, 1) := by decide +kernel
theorem dX11_any_29 : decode cX11_any 29 = .ok (.istore_n 1, 1) := by decide +kernel
theorem dX11_any_30 : decode cX11_any 30 = .ok (.iload_n 2, 1) := by decide +kernel
theorem dX11_any_31 : decode cX11_any 31 = .ok (.aload_n 0, 1) := by decide +kernel
theorem dX11_any_32 : decode cX11_any 32 = .ok (.getfield 31, 3) := by decide +kernel
theorem dX11_any_35 : decode cX11_any 35 = .ok (.iconst 4, 1) := by decide +kernel
theorem dX11_any_36 : decode cX11_any 36 = .ok (.iload 4, 2) := by decide +kernel
theorem dX11_any_38 : decode cX11_any 38 = .ok (.imul, 1) := by decide +kernel
theorem dX11_any_39 : decode cX11_any 39 = .ok (.iconst 1, 1) := by decide +kernel
theorem dX11_any_40 : decode cX11_any 40 = .ok (.iadd, 1) := by decide +kernel
theorem dX11_any_41 : decode cX11_any 41 = .ok (.iaload, 1) := by decide +kernel
theorem dX11_any_42 : decode cX11_any 42 = .ok (.iadd, 1) := by decide +kernel
theorem dX11_any_43 : decode cX11_any 43 = .ok (.istore_n 2, 1) := by decide +kernel
theorem dX11_any_44 : decode cX11_any 44 = .ok (.aload_n 0, 1) := by decide +kernel
theorem dX11_any_45 : decode cX11_any 45 = .ok (.getfield 31, 3) := by decide +kernel
theorem dX11_any_48 : decode cX11_any 48 = .ok (.iconst 4, 1) := by decide +kernel
theorem dX11_any_49 : decode cX11_any 49 = .ok (.iload 4, 2) := by decide +kernel
theorem dX11_any_51 : decode cX11_any 51 = .ok (.imul, 1) := by decide +kernel
theorem dX11_any_52 : decode cX11_any 52 = .ok (.iaload, 1) := by decide +kernel
theorem dX11_any_53 : decode cX11_any 53 = .ok (.aload_n 0, 1) := by decide +kernel
theorem dX11_any_54 : decode cX11_any 54 = .ok (.getfield 31, 3) := by decide +kernel
theorem dX11_any_57 : decode cX11_any 57 = .ok (.iconst 4, 1) := by decide +kernel
theorem dX11_any_58 : decode cX11_any 58 = .ok (.iload 4, 2) := by decide +kernel
theorem dX11_any_60 : decode cX11_any 60 = .ok (.imul, 1) := by decide +kernel
theorem dX11_any_61 : decode cX11_any 61 = .ok (.iconst 1, 1) := by decide +kernel
theorem dX11_any_62 : decode cX11_any 62 = .ok (.iadd, 1) := by decide +kernel
theorem dX11_any_63 : decode cX11_any 63 = .ok (.iaload, 1) := by decide +kernel
theorem dX11_any_64 : decode cX11_any 64 = .ok (.iadd, 1) := by decide +kernel
theorem dX11_any_65 : decode cX11_any 65 = .ok (.istore 5, 2) := by decide +kernel
theorem dX11_any_67 : decode cX11_any 67 = .ok (.iload 5, 2) := by decide +kernel
theorem dX11_any_69 : decode cX11_any 69 = .ok (.iload_n 3, 1) := by decide +kernel
theorem dX11_any_70 : decode cX11_any 70 = .ok (.if_icmp .le 8, 3) := by decide +kernel
theorem dX11_any_73 : decode cX11_any 73 = .ok (.iload 5, 2) := by decide +kernel
theorem dX11_any_75 : decode cX11_any 75 = .ok (.goto 4, 3) := by decide +kernel
theorem dX11_any_78 : decode cX11_any 78 = .ok (.iload_n 3, 1) := by decide +kernel
theorem dX11_any_79 : decode cX11_any 79 = .ok (.istore_n 3, 1) := by decide +kernel
theorem dX11_any_80 : decode cX11_any 80 = .ok (.iinc 4 1, 3) := by decide +kernel
theorem dX11_any_83 : decode cX11_any 83 = .ok (.goto (-74), 3) := by decide +kernel
theorem dX11_any_86 : decode cX11_any 86 = .ok (.iload_n 1, 1) := by decide +kernel
theorem dX11_any_87 : decode cX11_any 87 = .ok (.iload_n 3, 1) := by decide +kernel
theorem dX11_any_88 : decode cX11_any 88 = .ok (.if_icmp .le 7, 3) := by decide +kernel
theorem dX11_any_91 : decode cX11_any 91 = .ok (.iload_n 1, 1) := by decide +kernel
theorem dX11_any_92 : decode cX11_any 92 = .ok (.goto 4, 3) := by decide +kernel
theorem dX11_any_95 : decode cX11_any 95 = .ok (.iload_n 3, 1) := by decide +kernel
theorem dX11_any_96 : decode cX11_any 96 = .ok (.istore_n 3, 1) := by decide +kernel
theorem dX11_any_97 : decode cX11_any 97 = .ok (.iload_n 2, 1) := by decide +kernel
theorem dX11_any_98 : decode cX11_any 98 = .ok (.iload_n 3, 1) := by decide +kernel
theorem dX11_any_99 : decode cX11_any 99 = .ok (.if_icmp .le 7, 3) := by decide +kernel
theorem dX11_any_102 : decode cX11_any 102 = .ok (.iload_n 2, 1) := by decide +kernel
theorem dX11_any_103 : decode cX11_any 103 = .ok (.goto 4, 3) := by decide +kernel
theorem dX11_any_106 : decode cX11_any 106 = .ok (.iload_n 3, 1) := by decide +kernel
theorem dX11_any_107 : decode cX11_any 107 = .ok (.ireturn, 1) := by decide +kernel
theorem dX11_step_0 : decode cX11_step 0 = .ok (.iload_n 1, 1) := by decide +kernel
theorem dX11_step_1 : decode cX11_step 1 = .ok (.i2l, 1) := by decide +kernel
theorem dX11_step_2 : decode cX11_step 2 = .ok (.lconst 0, 1) := by decide +kernel
theorem dX11_step_3 : decode cX11_step 3 = .ok (.lconst 1, 1) := by decide +kernel
theorem dX11_step_4 : decode cX11_step 4 = .ok (.invokestatic 86, 3) := by decide +kernel
theorem dX11_step_7 : decode cX11_step 7 = .ok (.ifCond .eq 27, 3) := by decide +kernel
theorem dX11_step_10 : decode cX11_step 10 = .ok (.iload_n 2, 1) := by decide +kernel
theorem dX11_step_11 : decode cX11_step 11 = .ok (.i2l, 1) := by decide +kernel
theorem dX11_step_12 : decode cX11_step 12 = .ok (.lconst 0, 1) := by decide +kernel
theorem dX11_step_13 : decode cX11_step 13 = .ok (.ldc2_w 154, 3) := by decide +kernel
theorem dX11_step_16 : decode cX11_step 16 = .ok (.invokestatic 86, 3) := by decide +kernel
theorem dX11_step_19 : decode cX11_step 19 = .ok (.ifCond .eq 15, 3) := by decide +kernel
theorem dX11_step_22 : decode cX11_step 22 = .ok (.iload_n 3, 1) := by decide +kernel
theorem dX11_step_23 : decode cX11_step 23 = .ok (.i2l, 1) := by decide +kernel
theorem dX11_step_24 : decode cX11_step 24 = .ok (.lconst 1, 1) := by decide +kernel
theorem dX11_step_25 : decode cX11_step 25 = .ok (.ldc2_w 102, 3) := by decide +kernel
theorem dX11_step_28 : decode cX11_step 28 = .ok (.invokestatic 86, 3) := by decide +kernel
theorem dX11_step_31 : decode cX11_step 31 = .ok (.ifCond .ne 6, 3) := by decide +kernel
theorem dX11_step_34 : decode cX11_step 34 = .ok (.bipush (-2), 2) := by decide +kernel
theorem dX11_step_36 : decode cX11_step 36 = .ok (.ireturn, 1) := by decide +kernel
theorem dX11_step_37 : decode cX11_step 37 = .ok (.aload_n 0, 1) := by decide +kernel
theorem dX11_step_38 : decode cX11_step 38 = .ok (.getfield 47, 3) := by decide +kernel
theorem dX11_step_41 : decode cX11_step 41 = .ok (.iload_n 1, 1) := by decide +kernel
theorem dX11_step_42 : decode cX11_step 42 = .ok (.iaload, 1) := by decide +kernel
theorem dX11_step_43 : decode cX11_step 43 = .ok (.istore 4, 2) := by decide +kernel
theorem dX11_step_45 : decode cX11_step 45 = .ok (.iload 4, 2) := by decide +kernel
theorem dX11_step_47 : decode cX11_step 47 = .ok (.bipush 6, 2) := by decide +kernel
theorem dX11_step_49 : decode cX11_step 49 = .ok (.if_icmp .ne 6, 3) := by decide +kernel
theorem dX11_step_52 : decode cX11_step 52 = .ok (.bipush (-4), 2) := by decide +kernel
theorem dX11_step_54 : decode cX11_step 54 = .ok (.ireturn, 1) := by decide +kernel
theorem dX11_step_55 : decode cX11_step 55 = .ok (.aload_n 0, 1) := by decide +kernel
theorem dX11_step_56 : decode cX11_step 56 = .ok (.getfield 44, 3) := by decide +kernel
theorem dX11_step_59 : decode cX11_step 59 = .ok (.bipush 12, 2) := by decide +kernel
theorem dX11_step_61 : decode cX11_step 61 = .ok (.iload_n 1, 1) := by decide +kernel
theorem dX11_step_62 : decode cX11_step 62 = .ok (.imul, 1) := by decide +kernel
theorem dX11_step_63 : decode cX11_step 63 = .ok (.iconst 2, 1) := by decide +kernel
theorem dX11_step_64 : decode cX11_step 64 = .ok (.iload 4, 2) := by decide +kernel
theorem dX11_step_66 : decode cX11_step 66 = .ok (.imul, 1) := by decide +kernel
theorem dX11_step_67 : decode cX11_step 67 = .ok (.iadd, 1) := by decide +kernel
theorem dX11_step_68 : decode cX11_step 68 = .ok (.iload_n 2, 1) := by decide +kernel
theorem dX11_step_69 : decode cX11_step 69 = .ok (.iastore, 1) := by decide +kernel
theorem dX11_step_70 : decode cX11_step 70 = .ok (.aload_n 0, 1) := by decide +kernel
theorem dX11_step_71 : decode cX11_step 71 = .ok (.getfield 44, 3) := by decide +kernel
theorem dX11_step_74 : decode cX11_step 74 = .ok (.bipush 12, 2) := by decide +kernel
theorem dX11_step_76 : decode cX11_step 76 = .ok (.iload_n 1, 1) := by decide +kernel
theorem dX11_step_77 : decode cX11_step 77 = .ok (.imul, 1) := by decide +kernel
theorem dX11_step_78 : decode cX11_step 78 = .ok (.iconst 2, 1) := by decide +kernel
theorem dX11_step_79 : decode cX11_step 79 = .ok (.iload 4, 2) := by decide +kernel
theorem dX11_step_81 : decode cX11_step 81 = .ok (.imul, 1) := by decide +kernel
theorem dX11_step_82 : decode cX11_step 82 = .ok (.iadd, 1) := by decide +kernel
theorem dX11_step_83 : decode cX11_step 83 = .ok (.iconst 1, 1) := by decide +kernel
theorem dX11_step_84 : decode cX11_step 84 = .ok (.iadd, 1) := by decide +kernel
theorem dX11_step_85 : decode cX11_step 85 = .ok (.iload_n 3, 1) := by decide +kernel
theorem dX11_step_86 : decode cX11_step 86 = .ok (.iastore, 1) := by decide +kernel
theorem dX11_step_87 : decode cX11_step 87 = .ok (.aload_n 0, 1) := by decide +kernel
theorem dX11_step_88 : decode cX11_step 88 = .ok (.getfield 47, 3) := by decide +kernel
theorem dX11_step_91 : decode cX11_step 91 = .ok (.iload_n 1, 1) := by decide +kernel
theorem dX11_step_92 : decode cX11_step 92 = .ok (.dup2, 1) := by decide +kernel
theorem dX11_step_93 : decode cX11_step 93 = .ok (.iaload, 1) := by decide +kernel
theorem dX11_step_94 : decode cX11_step 94 = .ok (.iconst 1, 1) := by decide +kernel
theorem dX11_step_95 : decode cX11_step 95 = .ok (.iadd, 1) := by decide +kernel
theorem dX11_step_96 : decode cX11_step 96 = .ok (.iastore, 1) := by decide +kernel
theorem dX11_step_97 : decode cX11_step 97 = .ok (.iload 4, 2) := by decide +kernel
theorem dX11_step_99 : decode cX11_step 99 = .ok (.iconst 1, 1) := by decide +kernel
theorem dX11_step_100 : decode cX11_step 100 = .ok (.iadd, 1) := by decide +kernel
theorem dX11_step_101 : decode cX11_step 101 = .ok (.ireturn, 1) := by decide +kernel
theorem dX11_clear_0 : decode cX11_clear 0 = .ok (.aload_n 0, 1) := by decide +kernel
theorem dX11_clear_1 : decode cX11_clear 1 = .ok (.getfield 47, 3) := by decide +kernel
theorem dX11_clear_4 : decode cX11_clear 4 = .ok (.iconst 0, 1) := by decide +kernel
theorem dX11_clear_5 : decode cX11_clear 5 = .ok (.iaload, 1) := by decide +kernel
theorem dX11_clear_6 : decode cX11_clear 6 = .ok (.aload_n 0, 1) := by decide +kernel
theorem dX11_clear_7 : decode cX11_clear 7 = .ok (.getfield 47, 3) := by decide +kernel
theorem dX11_clear_10 : decode cX11_clear 10 = .ok (.iconst 1, 1) := by decide +kernel
theorem dX11_clear_11 : decode cX11_clear 11 = .ok (.iaload, 1) := by decide +kernel
theorem dX11_clear_12 : decode cX11_clear 12 = .ok (.iadd, 1) := by decide +kernel
theorem dX11_clear_13 : decode cX11_clear 13 = .ok (.istore_n 1, 1) := by decide +kernel
theorem dX11_clear_14 : decode cX11_clear 14 = .ok (.aload_n 0, 1) := by decide +kernel
theorem dX11_clear_15 : decode cX11_clear 15 = .ok (.getfield 47, 3) := by decide +kernel
theorem dX11_clear_18 : decode cX11_clear 18 = .ok (.iconst 0, 1) := by decide +kernel
theorem dX11_clear_19 : decode cX11_clear 19 = .ok (.iconst 0, 1) := by decide +kernel
theorem dX11_clear_20 : decode cX11_clear 20 = .ok (.iastore, 1) := by decide +kernel
theorem dX11_clear_21 : decode cX11_clear 21 = .ok (.aload_n 0, 1) := by decide +kernel
theorem dX11_clear_22 : decode cX11_clear 22 = .ok (.getfield 47, 3) := by decide +kernel
theorem dX11_clear_25 : decode cX11_clear 25 = .ok (.iconst 1, 1) := by decide +kernel
theorem dX11_clear_26 : decode cX11_clear 26 = .ok (.iconst 0, 1) := by decide +kernel
theorem dX11_clear_27 : decode cX11_clear 27 = .ok (.iastore, 1) := by decide +kernel
theorem dX11_clear_28 : decode cX11_clear 28 = .ok (.iload_n 1, 1) := by decide +kernel
theorem dX11_clear_29 : decode cX11_clear 29 = .ok (.ireturn, 1) := by decide +kernel
theorem dX11_allMinutes_0 : decode cX11_allMinutes 0 = .ok (.iconst 0, 1) := by decide +kernel
theorem dX11_allMinutes_1 : decode cX11_allMinutes 1 = .ok (.istore_n 2, 1) := by decide +kernel
theorem dX11_allMinutes_2 : decode cX11_allMinutes 2 = .ok (.iconst 0, 1) := by decide +kernel
theorem dX11_allMinutes_3 : decode cX11_allMinutes 3 = .ok (.istore_n 3, 1) := by decide +kernel
theorem dX11_allMinutes_4 : decode cX11_allMinutes 4 = .ok (.iload_n 3, 1) := by decide +kernel
theorem dX11_allMinutes_5 : decode cX11_allMinutes 5 = .ok (.aload_n 0, 1) := by decide +kernel
theorem dX11_allMinutes_6 : decode cX11_allMinutes 6 = .ok (.getfield 47, 3) := by decide +kernel
theorem dX11_allMinutes_9 : decode cX11_allMinutes 9 = .ok (.iload_n 1, 1) := by decide +kernel
theorem dX11_allMinutes_10 : decode cX11_allMinutes 10 = .ok (.iaload, 1) := by decide +kernel
theorem dX11_allMinutes_11 : decode cX11_allMinutes 11 = .ok (.if_icmp .ge 27, 3) := by decide +kernel
theorem dX11_allMinutes_14 : decode cX11_allMinutes 14 = .ok (.iload_n 2, 1) := by decide +kernel
theorem dX11_allMinutes_15 : decode cX11_allMinutes 15 = .ok (.aload_n 0, 1) := by decide +kernel
theorem dX11_allMinutes_16 : decode cX11_allMinutes 16 = .ok (.getfield 44, 3) := by decide +kernel
theorem dX11_allMinutes_19 : decode cX11_allMinutes 19 = .ok (.bipush 12, 2) := by decide +kernel
theorem dX11_allMinutes_21 : decode cX11_allMinutes 21 = .ok (.iload_n 1, 1) := by decide +kernel
theorem dX11_allMinutes_22 : decode cX11_allMinutes 22 = .ok (.imul, 1) := by decide +kernel
theorem dX11_allMinutes_23 : decode cX11_allMinutes 23 = .ok (.iconst 2, 1) := by decide +kernel
theorem dX11_allMinutes_24 : decode cX11_allMinutes 24 = .ok (.iload_n 3, 1) := by decide +kernel
theorem dX11_allMinutes_25 : decode cX11_allMinutes 25 = .ok (.imul, 1) := by decide +kernel
theorem dX11_allMinutes_26 : decode cX11_allMinutes 26 = .ok (.iadd, 1) := by decide +kernel
theorem dX11_allMinutes_27 : decode cX11_allMinutes 27 = .ok (.iconst 1, 1) := by decide +kernel
theorem dX11_allMinutes_28 : decode cX11_allMinutes 28 = .ok (.iadd, 1) := by decide +kernel
theorem dX11_allMinutes_29 : decode cX11_allMinutes 29 = .ok (.iaload, 1) := by decide +kernel
theorem dX11_allMinutes_30 : decode cX11_allMinutes 30 = .ok (.iadd, 1) := by decide +kernel
theorem dX11_allMinutes_31 : decode cX11_allMinutes 31 = .ok (.istore_n 2, 1) := by decide +kernel
theorem dX11_allMinutes_32 : decode cX11_allMinutes 32 = .ok (.iinc 3 1, 3) := by decide +kernel
theorem dX11_allMinutes_35 : decode cX11_allMinutes 35 = .ok (.goto (-31), 3) := by decide +kernel
theorem dX11_allMinutes_38 : decode cX11_allMinutes 38 = .ok (.iload_n 2, 1) := by decide +kernel
theorem dX11_allMinutes_39 : decode cX11_allMinutes 39 = .ok (.ireturn, 1) := by decide +kernel
theorem dX11_benchAt_0 : decode cX11_benchAt 0 = .ok (.iload_n 2, 1) := by decide +kernel
theorem dX11_benchAt_1 : decode cX11_benchAt 1 = .ok (.istore_n 3, 1) := by decide +kernel
theorem dX11_benchAt_2 : decode cX11_benchAt 2 = .ok (.iconst 0, 1) := by decide +kernel
theorem dX11_benchAt_3 : decode cX11_benchAt 3 = .ok (.istore 4, 2) := by decide +kernel
theorem dX11_benchAt_5 : decode cX11_benchAt 5 = .ok (.iload_n 3, 1) := by decide +kernel
theorem dX11_benchAt_6 : decode cX11_benchAt 6 = .ok (.aload_n 0, 1) := by decide +kernel
theorem dX11_benchAt_7 : decode cX11_benchAt 7 = .ok (.getfield 44, 3) := by decide +kernel
theorem dX11_benchAt_10 : decode cX11_benchAt 10 = .ok (.bipush 12, 2) := by decide +kernel
theorem dX11_benchAt_12 : decode cX11_benchAt 12 = .ok (.iload_n 1, 1) := by decide +kernel
theorem dX11_benchAt_13 : decode cX11_benchAt 13 = .ok (.imul, 1) := by decide +kernel
theorem dX11_benchAt_14 : decode cX11_benchAt 14 = .ok (.iconst 2, 1) := by decide +kernel
theorem dX11_benchAt_15 : decode cX11_benchAt 15 = .ok (.iload 4, 2) := by decide +kernel
theorem dX11_benchAt_17 : decode cX11_benchAt 17 = .ok (.imul, 1) := by decide +kernel
theorem dX11_benchAt_18 : decode cX11_benchAt 18 = .ok (.iadd, 1) := by decide +kernel
theorem dX11_benchAt_19 : decode cX11_benchAt 19 = .ok (.iconst 1, 1) := by decide +kernel
theorem dX11_benchAt_20 : decode cX11_benchAt 20 = .ok (.iadd, 1) := by decide +kernel
theorem dX11_benchAt_21 : decode cX11_benchAt 21 = .ok (.iaload, 1) := by decide +kernel
theorem dX11_benchAt_22 : decode cX11_benchAt 22 = .ok (.if_icmp .lt 28, 3) := by decide +kernel
theorem dX11_benchAt_25 : decode cX11_benchAt 25 = .ok (.iload_n 3, 1) := by decide +kernel
theorem dX11_benchAt_26 : decode cX11_benchAt 26 = .ok (.aload_n 0, 1) := by decide +kernel
theorem dX11_benchAt_27 : decode cX11_benchAt 27 = .ok (.getfield 44, 3) := by decide +kernel
theorem dX11_benchAt_30 : decode cX11_benchAt 30 = .ok (.bipush 12, 2) := by decide +kernel
theorem dX11_benchAt_32 : decode cX11_benchAt 32 = .ok (.iload_n 1, 1) := by decide +kernel
theorem dX11_benchAt_33 : decode cX11_benchAt 33 = .ok (.imul, 1) := by decide +kernel
theorem dX11_benchAt_34 : decode cX11_benchAt 34 = .ok (.iconst 2, 1) := by decide +kernel
theorem dX11_benchAt_35 : decode cX11_benchAt 35 = .ok (.iload 4, 2) := by decide +kernel
theorem dX11_benchAt_37 : decode cX11_benchAt 37 = .ok (.imul, 1) := by decide +kernel
theorem dX11_benchAt_38 : decode cX11_benchAt 38 = .ok (.iadd, 1) := by decide +kernel
theorem dX11_benchAt_39 : decode cX11_benchAt 39 = .ok (.iconst 1, 1) := by decide +kernel
theorem dX11_benchAt_40 : decode cX11_benchAt 40 = .ok (.iadd, 1) := by decide +kernel
theorem dX11_benchAt_41 : decode cX11_benchAt 41 = .ok (.iaload, 1) := by decide +kernel
theorem dX11_benchAt_42 : decode cX11_benchAt 42 = .ok (.isub, 1) := by decide +kernel
theorem dX11_benchAt_43 : decode cX11_benchAt 43 = .ok (.istore_n 3, 1) := by decide +kernel
theorem dX11_benchAt_44 : decode cX11_benchAt 44 = .ok (.iinc 4 1, 3) := by decide +kernel
theorem dX11_benchAt_47 : decode cX11_benchAt 47 = .ok (.goto (-42), 3) := by decide +kernel
theorem dX11_benchAt_50 : decode cX11_benchAt 50 = .ok (.aload_n 0, 1) := by decide +kernel
theorem dX11_benchAt_51 : decode cX11_benchAt 51 = .ok (.getfield 44, 3) := by decide +kernel
theorem dX11_benchAt_54 : decode cX11_benchAt 54 = .ok (.bipush 12, 2) := by decide +kernel
theorem dX11_benchAt_56 : decode cX11_benchAt 56 = .ok (.iload_n 1, 1) := by decide +kernel
theorem dX11_benchAt_57 : decode cX11_benchAt 57 = .ok (.imul, 1) := by decide +kernel
theorem dX11_benchAt_58 : decode cX11_benchAt 58 = .ok (.iconst 2, 1) := by decide +kernel
theorem dX11_benchAt_59 : decode cX11_benchAt 59 = .ok (.iload 4, 2) := by decide +kernel
theorem dX11_benchAt_61 : decode cX11_benchAt 61 = .ok (.imul, 1) := by decide +kernel
theorem dX11_benchAt_62 : decode cX11_benchAt 62 = .ok (.iadd, 1) := by decide +kernel
theorem dX11_benchAt_63 : decode cX11_benchAt 63 = .ok (.iaload, 1) := by decide +kernel
theorem dX11_benchAt_64 : decode cX11_benchAt 64 = .ok (.ireturn, 1) := by decide +kernel
theorem dX11_heldAt_0 : decode cX11_heldAt 0 = .ok (.iconst 0, 1) := by decide +kernel
theorem dX11_heldAt_1 : decode cX11_heldAt 1 = .ok (.istore_n 3, 1) := by decide +kernel
theorem dX11_heldAt_2 : decode cX11_heldAt 2 = .ok (.iconst 0, 1) := by decide +kernel
theorem dX11_heldAt_3 : decode cX11_heldAt 3 = .ok (.istore 4, 2) := by decide +kernel
theorem dX11_heldAt_5 : decode cX11_heldAt 5 = .ok (.iload 4, 2) := by decide +kernel
theorem dX11_heldAt_7 : decode cX11_heldAt 7 = .ok (.aload_n 0, 1) := by decide +kernel
theorem dX11_heldAt_8 : decode cX11_heldAt 8 = .ok (.getfield 47, 3) := by decide +kernel
theorem dX11_heldAt_11 : decode cX11_heldAt 11 = .ok (.iload_n 1, 1) := by decide +kernel
theorem dX11_heldAt_12 : decode cX11_heldAt 12 = .ok (.iaload, 1) := by decide +kernel
theorem dX11_heldAt_13 : decode cX11_heldAt 13 = .ok (.if_icmp .ge 58, 3) := by decide +kernel
theorem dX11_heldAt_16 : decode cX11_heldAt 16 = .ok (.iload_n 3, 1) := by decide +kernel
theorem dX11_heldAt_17 : decode cX11_heldAt 17 = .ok (.aload_n 0, 1) := by decide +kernel
theorem dX11_heldAt_18 : decode cX11_heldAt 18 = .ok (.getfield 44, 3) := by decide +kernel
theorem dX11_heldAt_21 : decode cX11_heldAt 21 = .ok (.bipush 12, 2) := by decide +kernel
theorem dX11_heldAt_23 : decode cX11_heldAt 23 = .ok (.iload_n 1, 1) := by decide +kernel
theorem dX11_heldAt_24 : decode cX11_heldAt 24 = .ok (.imul, 1) := by decide +kernel
theorem dX11_heldAt_25 : decode cX11_heldAt 25 = .ok (.iconst 2, 1) := by decide +kernel
theorem dX11_heldAt_26 : decode cX11_heldAt 26 = .ok (.iload 4, 2) := by decide +kernel
theorem dX11_heldAt_28 : decode cX11_heldAt 28 = .ok (.imul, 1) := by decide +kernel
theorem dX11_heldAt_29 : decode cX11_heldAt 29 = .ok (.iadd, 1) := by decide +kernel
theorem dX11_heldAt_30 : decode cX11_heldAt 30 = .ok (.iconst 1, 1) := by decide +kernel
theorem dX11_heldAt_31 : decode cX11_heldAt 31 = .ok (.iadd, 1) := by decide +kernel
theorem dX11_heldAt_32 : decode cX11_heldAt 32 = .ok (.iaload, 1) := by decide +kernel
theorem dX11_heldAt_33 : decode cX11_heldAt 33 = .ok (.iadd, 1) := by decide +kernel
theorem dX11_heldAt_34 : decode cX11_heldAt 34 = .ok (.istore 5, 2) := by decide +kernel
theorem dX11_heldAt_36 : decode cX11_heldAt 36 = .ok (.iload_n 2, 1) := by decide +kernel
theorem dX11_heldAt_37 : decode cX11_heldAt 37 = .ok (.iload_n 3, 1) := by decide +kernel
theorem dX11_heldAt_38 : decode cX11_heldAt 38 = .ok (.if_icmp .le 24, 3) := by decide +kernel
theorem dX11_heldAt_41 : decode cX11_heldAt 41 = .ok (.iload_n 2, 1) := by decide +kernel
theorem dX11_heldAt_42 : decode cX11_heldAt 42 = .ok (.iload 5, 2) := by decide +kernel
theorem dX11_heldAt_44 : decode cX11_heldAt 44 = .ok (.if_icmp .ge 18, 3) := by decide +kernel
theorem dX11_heldAt_47 : decode cX11_heldAt 47 = .ok (.aload_n 0, 1) := by decide +kernel
theorem dX11_heldAt_48 : decode cX11_heldAt 48 = .ok (.getfield 44, 3) := by decide +kernel
theorem dX11_heldAt_51 : decode cX11_heldAt 51 = .ok (.bipush 12, 2) := by decide +kernel
theorem dX11_heldAt_53 : decode cX11_heldAt 53 = .ok (.iload_n 1, 1) := by decide +kernel
theorem dX11_heldAt_54 : decode cX11_heldAt 54 = .ok (.imul, 1) := by decide +kernel
theorem dX11_heldAt_55 : decode cX11_heldAt 55 = .ok (.iconst 2, 1) := by decide +kernel
theorem dX11_heldAt_56 : decode cX11_heldAt 56 = .ok (.iload 4, 2) := by decide +kernel
theorem dX11_heldAt_58 : decode cX11_heldAt 58 = .ok (.imul, 1) := by decide +kernel
theorem dX11_heldAt_59 : decode cX11_heldAt 59 = .ok (.iadd, 1) := by decide +kernel
theorem dX11_heldAt_60 : decode cX11_heldAt 60 = .ok (.iaload, 1) := by decide +kernel
theorem dX11_heldAt_61 : decode cX11_heldAt 61 = .ok (.ireturn, 1) := by decide +kernel
theorem dX11_heldAt_62 : decode cX11_heldAt 62 = .ok (.iload 5, 2) := by decide +kernel
theorem dX11_heldAt_64 : decode cX11_heldAt 64 = .ok (.istore_n 3, 1) := by decide +kernel
theorem dX11_heldAt_65 : decode cX11_heldAt 65 = .ok (.iinc 4 1, 3) := by decide +kernel
theorem dX11_heldAt_68 : decode cX11_heldAt 68 = .ok (.goto (-63), 3) := by decide +kernel
theorem dX11_heldAt_71 : decode cX11_heldAt 71 = .ok (.iconst (-1), 1) := by decide +kernel
theorem dX11_heldAt_72 : decode cX11_heldAt 72 = .ok (.ireturn, 1) := by decide +kernel
theorem dX11_walk_0 : decode cX11_walk 0 = .ok (.aload_n 0, 1) := by decide +kernel
theorem dX11_walk_1 : decode cX11_walk 1 = .ok (.iconst 0, 1) := by decide +kernel
theorem dX11_walk_2 : decode cX11_walk 2 = .ok (.invokevirtual 168, 3) := by decide +kernel
theorem dX11_walk_5 : decode cX11_walk 5 = .ok (.istore_n 1, 1) := by decide +kernel
theorem dX11_walk_6 : decode cX11_walk 6 = .ok (.aload_n 0, 1) := by decide +kernel
theorem dX11_walk_7 : decode cX11_walk 7 = .ok (.iconst 1, 1) := by decide +kernel
theorem dX11_walk_8 : decode cX11_walk 8 = .ok (.invokevirtual 168, 3) := by decide +kernel
theorem dX11_walk_11 : decode cX11_walk 11 = .ok (.istore_n 2, 1) := by decide +kernel
theorem dX11_walk_12 : decode cX11_walk 12 = .ok (.iconst 0, 1) := by decide +kernel
theorem dX11_walk_13 : decode cX11_walk 13 = .ok (.istore_n 3, 1) := by decide +kernel
theorem dX11_walk_14 : decode cX11_walk 14 = .ok (.iload_n 3, 1) := by decide +kernel
theorem dX11_walk_15 : decode cX11_walk 15 = .ok (.iload_n 1, 1) := by decide +kernel
theorem dX11_walk_16 : decode cX11_walk 16 = .ok (.if_icmp .gt 49, 3) := by decide +kernel
theorem dX11_walk_19 : decode cX11_walk 19 = .ok (.iconst 0, 1) := by decide +kernel
theorem dX11_walk_20 : decode cX11_walk 20 = .ok (.istore 4, 2) := by decide +kernel
theorem dX11_walk_22 : decode cX11_walk 22 = .ok (.iload 4, 2) := by decide +kernel
theorem dX11_walk_24 : decode cX11_walk 24 = .ok (.iload_n 2, 1) := by decide +kernel
theorem dX11_walk_25 : decode cX11_walk 25 = .ok (.if_icmp .gt 34, 3) := by decide +kernel
theorem dX11_walk_28 : decode cX11_walk 28 = .ok (.aload_n 0, 1) := by decide +kernel
theorem dX11_walk_29 : decode cX11_walk 29 = .ok (.getfield 74, 3) := by decide +kernel
theorem dX11_walk_32 : decode cX11_walk 32 = .ok (.bipush 121, 2) := by decide +kernel
theorem dX11_walk_34 : decode cX11_walk 34 = .ok (.iload_n 3, 1) := by decide +kernel
theorem dX11_walk_35 : decode cX11_walk 35 = .ok (.imul, 1) := by decide +kernel
theorem dX11_walk_36 : decode cX11_walk 36 = .ok (.iload 4, 2) := by decide +kernel
theorem dX11_walk_38 : decode cX11_walk 38 = .ok (.iadd, 1) := by decide +kernel
theorem dX11_walk_39 : decode cX11_walk 39 = .ok (.iload_n 3, 1) := by decide +kernel
theorem dX11_walk_40 : decode cX11_walk 40 = .ok (.iload 4, 2) := by decide +kernel
theorem dX11_walk_42 : decode cX11_walk 42 = .ok (.iadd, 1) := by decide +kernel
theorem dX11_walk_43 : decode cX11_walk 43 = .ok (.ifCond .ne 7, 3) := by decide +kernel
theorem dX11_walk_46 : decode cX11_walk 46 = .ok (.iconst 0, 1) := by decide +kernel
theorem dX11_walk_47 : decode cX11_walk 47 = .ok (.goto 5, 3) := by decide +kernel
theorem dX11_walk_50 : decode cX11_walk 50 = .ok (.ldc 171, 2) := by decide +kernel
theorem dX11_walk_52 : decode cX11_walk 52 = .ok (.iastore, 1) := by decide +kernel
theorem dX11_walk_53 : decode cX11_walk 53 = .ok (.iinc 4 1, 3) := by decide +kernel
theorem dX11_walk_56 : decode cX11_walk 56 = .ok (.goto (-34), 3) := by decide +kernel
theorem dX11_walk_59 : decode cX11_walk 59 = .ok (.iinc 3 1, 3) := by decide +kernel
theorem dX11_walk_62 : decode cX11_walk 62 = .ok (.goto (-48), 3) := by decide +kernel
theorem dX11_walk_65 : decode cX11_walk 65 = .ok (.iconst 0, 1) := by decide +kernel
theorem dX11_walk_66 : decode cX11_walk 66 = .ok (.istore_n 3, 1) := by decide +kernel
theorem dX11_walk_67 : decode cX11_walk 67 = .ok (.iload_n 3, 1) := by decide +kernel
theorem dX11_walk_68 : decode cX11_walk 68 = .ok (.iload_n 1, 1) := by decide +kernel
theorem dX11_walk_69 : decode cX11_walk 69 = .ok (.if_icmp .gt 254, 3) := by decide +kernel
theorem dX11_walk_72 : decode cX11_walk 72 = .ok (.iconst 0, 1) := by decide +kernel
theorem dX11_walk_73 : decode cX11_walk 73 = .ok (.istore 4, 2) := by decide +kernel
theorem dX11_walk_75 : decode cX11_walk 75 = .ok (.iload 4, 2) := by decide +kernel
theorem dX11_walk_77 : decode cX11_walk 77 = .ok (.iload_n 2, 1) := by decide +kernel
theorem dX11_walk_78 : decode cX11_walk 78 = .ok (.if_icmp .gt 239, 3) := by decide +kernel
theorem dX11_walk_81 : decode cX11_walk 81 = .ok (.aload_n 0, 1) := by decide +kernel
theorem dX11_walk_82 : decode cX11_walk 82 = .ok (.getfield 74, 3) := by decide +kernel
theorem dX11_walk_85 : decode cX11_walk 85 = .ok (.bipush 121, 2) := by decide +kernel
theorem dX11_walk_87 : decode cX11_walk 87 = .ok (.iload_n 3, 1) := by decide +kernel
theorem dX11_walk_88 : decode cX11_walk 88 = .ok (.imul, 1) := by decide +kernel
theorem dX11_walk_89 : decode cX11_walk 89 = .ok (.iload 4, 2) := by decide +kernel
theorem dX11_walk_91 : decode cX11_walk 91 = .ok (.iadd, 1) := by decide +kernel
theorem dX11_walk_92 : decode cX11_walk 92 = .ok (.iaload, 1) := by decide +kernel
theorem dX11_walk_93 : decode cX11_walk 93 = .ok (.iconst 1, 1) := by decide +kernel
theorem dX11_walk_94 : decode cX11_walk 94 = .ok (.iadd, 1) := by decide +kernel
theorem dX11_walk_95 : decode cX11_walk 95 = .ok (.istore 5, 2) := by decide +kernel
theorem dX11_walk_97 : decode cX11_walk 97 = .ok (.iload_n 3, 1) := by decide +kernel
theorem dX11_walk_98 : decode cX11_walk 98 = .ok (.iload_n 1, 1) := by decide +kernel
theorem dX11_walk_99 : decode cX11_walk 99 = .ok (.if_icmp .ge 23, 3) := by decide +kernel
theorem dX11_walk_102 : decode cX11_walk 102 = .ok (.aload_n 0, 1) := by decide +kernel
theorem dX11_walk_103 : decode cX11_walk 103 = .ok (.iconst 0, 1) := by decide +kernel
theorem dX11_walk_104 : decode cX11_walk 104 = .ok (.iload_n 3, 1) := by decide +kernel
theorem dX11_walk_105 : decode cX11_walk 105 = .ok (.invokevirtual 172, 3) := by decide +kernel
theorem dX11_walk_108 : decode cX11_walk 108 = .ok (.aload_n 0, 1) := by decide +kernel
theorem dX11_walk_109 : decode cX11_walk 109 = .ok (.iconst 1, 1) := by decide +kernel
theorem dX11_walk_110 : decode cX11_walk 110 = .ok (.iload 4, 2) := by decide +kernel
theorem dX11_walk_112 : decode cX11_walk 112 = .ok (.invokevirtual 176, 3) := by decide +kernel
theorem dX11_walk_115 : decode cX11_walk 115 = .ok (.if_icmp .eq 7, 3) := by decide +kernel
theorem dX11_walk_118 : decode cX11_walk 118 = .ok (.iconst 1, 1) := by decide +kernel
theorem dX11_walk_119 : decode cX11_walk 119 = .ok (.goto 4, 3) := by decide +kernel
theorem dX11_walk_122 : decode cX11_walk 122 = .ok (.iconst 0, 1) := by decide +kernel
theorem dX11_walk_123 : decode cX11_walk 123 = .ok (.istore 6, 2) := by decide +kernel
theorem dX11_walk_125 : decode cX11_walk 125 = .ok (.iload 4, 2) := by decide +kernel
theorem dX11_walk_127 : decode cX11_walk 127 = .ok (.iload_n 2, 1) := by decide +kernel
theorem dX11_walk_128 : decode cX11_walk 128 = .ok (.if_icmp .ge 23, 3) := by decide +kernel
theorem dX11_walk_131 : decode cX11_walk 131 = .ok (.aload_n 0, 1) := by decide +kernel
theorem dX11_walk_132 : decode cX11_walk 132 = .ok (.iconst 1, 1) := by decide +kernel
theorem dX11_walk_133 : decode cX11_walk 133 = .ok (.iload 4, 2) := by decide +kernel
theorem dX11_walk_135 : decode cX11_walk 135 = .ok (.invokevirtual 172, 3) := by decide +kernel
theorem dX11_walk_138 : decode cX11_walk 138 = .ok (.aload_n 0, 1) := by decide +kernel
theorem dX11_walk_139 : decode cX11_walk 139 = .ok (.iconst 0, 1) := by decide +kernel
theorem dX11_walk_140 : decode cX11_walk 140 = .ok (.iload_n 3, 1) := by decide +kernel
theorem dX11_walk_141 : decode cX11_walk 141 = .ok (.invokevirtual 176, 3) := by decide +kernel
theorem dX11_walk_144 : decode cX11_walk 144 = .ok (.if_icmp .eq 7, 3) := by decide +kernel
theorem dX11_walk_147 : decode cX11_walk 147 = .ok (.iconst 1, 1) := by decide +kernel
theorem dX11_walk_148 : decode cX11_walk 148 = .ok (.goto 4, 3) := by decide +kernel
theorem dX11_walk_151 : decode cX11_walk 151 = .ok (.iconst 0, 1) := by decide +kernel
theorem dX11_walk_152 : decode cX11_walk 152 = .ok (.istore 7, 2) := by decide +kernel
theorem dX11_walk_154 : decode cX11_walk 154 = .ok (.iload 6, 2) := by decide +kernel
theorem dX11_walk_156 : decode cX11_walk 156 = .ok (.ifCond .eq 28, 3) := by decide +kernel
theorem dX11_walk_159 : decode cX11_walk 159 = .ok (.iload 7, 2) := by decide +kernel
theorem dX11_walk_161 : decode cX11_walk 161 = .ok (.ifCond .eq 23, 3) := by decide +kernel
theorem dX11_walk_164 : decode cX11_walk 164 = .ok (.aload_n 0, 1) := by decide +kernel
theorem dX11_walk_165 : decode cX11_walk 165 = .ok (.iconst 0, 1) := by decide +kernel
theorem dX11_walk_166 : decode cX11_walk 166 = .ok (.iload_n 3, 1) := by decide +kernel
theorem dX11_walk_167 : decode cX11_walk 167 = .ok (.invokevirtual 172, 3) := by decide +kernel
theorem dX11_walk_170 : decode cX11_walk 170 = .ok (.aload_n 0, 1) := by decide +kernel
theorem dX11_walk_171 : decode cX11_walk 171 = .ok (.iconst 1, 1) := by decide +kernel
theorem dX11_walk_172 : decode cX11_walk 172 = .ok (.iload 4, 2) := by decide +kernel
theorem dX11_walk_174 : decode cX11_walk 174 = .ok (.invokevirtual 172, 3) := by decide +kernel
theorem dX11_walk_177 : decode cX11_walk 177 = .ok (.if_icmp .eq 7, 3) := by decide +kernel
theorem dX11_walk_180 : decode cX11_walk 180 = .ok (.iconst 1, 1) := by decide +kernel
theorem dX11_walk_181 : decode cX11_walk 181 = .ok (.goto 4, 3) := by decide +kernel
theorem dX11_walk_184 : decode cX11_walk 184 = .ok (.iconst 0, 1) := by decide +kernel
theorem dX11_walk_185 : decode cX11_walk 185 = .ok (.istore 8, 2) := by decide +kernel
theorem dX11_walk_187 : decode cX11_walk 187 = .ok (.iload 6, 2) := by decide +kernel
theorem dX11_walk_189 : decode cX11_walk 189 = .ok (.ifCond .eq 40, 3) := by decide +kernel
theorem dX11_walk_192 : decode cX11_walk 192 = .ok (.iload 5, 2) := by decide +kernel
theorem dX11_walk_194 : decode cX11_walk 194 = .ok (.aload_n 0, 1) := by decide +kernel
theorem dX11_walk_195 : decode cX11_walk 195 = .ok (.getfield 74, 3) := by decide +kernel
theorem dX11_walk_198 : decode cX11_walk 198 = .ok (.bipush 121, 2) := by decide +kernel
theorem dX11_walk_200 : decode cX11_walk 200 = .ok (.iload_n 3, 1) := by decide +kernel
theorem dX11_walk_201 : decode cX11_walk 201 = .ok (.imul, 1) := by decide +kernel
theorem dX11_walk_202 : decode cX11_walk 202 = .ok (.bipush 121, 2) := by decide +kernel
theorem dX11_walk_204 : decode cX11_walk 204 = .ok (.iadd, 1) := by decide +kernel
theorem dX11_walk_205 : decode cX11_walk 205 = .ok (.iload 4, 2) := by decide +kernel
theorem dX11_walk_207 : decode cX11_walk 207 = .ok (.iadd, 1) := by decide +kernel
theorem dX11_walk_208 : decode cX11_walk 208 = .ok (.iaload, 1) := by decide +kernel
theorem dX11_walk_209 : decode cX11_walk 209 = .ok (.if_icmp .ge 20, 3) := by decide +kernel
theorem dX11_walk_212 : decode cX11_walk 212 = .ok (.aload_n 0, 1) := by decide +kernel
theorem dX11_walk_213 : decode cX11_walk 213 = .ok (.getfield 74, 3) := by decide +kernel
theorem dX11_walk_216 : decode cX11_walk 216 = .ok (.bipush 121, 2) := by decide +kernel
theorem dX11_walk_218 : decode cX11_walk 218 = .ok (.iload_n 3, 1) := by decide +kernel
theorem dX11_walk_219 : decode cX11_walk 219 = .ok (.imul, 1) := by decide +kernel
theorem dX11_walk_220 : decode cX11_walk 220 = .ok (.bipush 121, 2) := by decide +kernel
theorem dX11_walk_222 : decode cX11_walk 222 = .ok (.iadd, 1) := by decide +kernel
theorem dX11_walk_223 : decode cX11_walk 223 = .ok (.iload 4, 2) := by decide +kernel
theorem dX11_walk_225 : decode cX11_walk 225 = .ok (.iadd, 1) := by decide +kernel
theorem dX11_walk_226 : decode cX11_walk 226 = .ok (.iload 5, 2) := by decide +kernel
theorem dX11_walk_228 : decode cX11_walk 228 = .ok (.iastore, 1) := by decide +kernel
theorem dX11_walk_229 : decode cX11_walk 229 = .ok (.iload 7, 2) := by decide +kernel
theorem dX11_walk_231 : decode cX11_walk 231 = .ok (.ifCond .eq 38, 3) := by decide +kernel
theorem dX11_walk_234 : decode cX11_walk 234 = .ok (.iload 5, 2) := by decide +kernel
theorem dX11_walk_236 : decode cX11_walk 236 = .ok (.aload_n 0, 1) := by decide +kernel
theorem dX11_walk_237 : decode cX11_walk 237 = .ok (.getfield 74, 3) := by decide +kernel
theorem dX11_walk_240 : decode cX11_walk 240 = .ok (.bipush 121, 2) := by decide +kernel
theorem dX11_walk_242 : decode cX11_walk 242 = .ok (.iload_n 3, 1) := by decide +kernel
theorem dX11_walk_243 : decode cX11_walk 243 = .ok (.imul, 1) := by decide +kernel
theorem dX11_walk_244 : decode cX11_walk 244 = .ok (.iload 4, 2) := by decide +kernel
theorem dX11_walk_246 : decode cX11_walk 246 = .ok (.iadd, 1) := by decide +kernel
theorem dX11_walk_247 : decode cX11_walk 247 = .ok (.iconst 1, 1) := by decide +kernel
theorem dX11_walk_248 : decode cX11_walk 248 = .ok (.iadd, 1) := by decide +kernel
theorem dX11_walk_249 : decode cX11_walk 249 = .ok (.iaload, 1) := by decide +kernel
theorem dX11_walk_250 : decode cX11_walk 250 = .ok (.if_icmp .ge 19, 3) := by decide +kernel
theorem dX11_walk_253 : decode cX11_walk 253 = .ok (.aload_n 0, 1) := by decide +kernel
theorem dX11_walk_254 : decode cX11_walk 254 = .ok (.getfield 74, 3) := by decide +kernel
theorem dX11_walk_257 : decode cX11_walk 257 = .ok (.bipush 121, 2) := by decide +kernel
theorem dX11_walk_259 : decode cX11_walk 259 = .ok (.iload_n 3, 1) := by decide +kernel
theorem dX11_walk_260 : decode cX11_walk 260 = .ok (.imul, 1) := by decide +kernel
theorem dX11_walk_261 : decode cX11_walk 261 = .ok (.iload 4, 2) := by decide +kernel
theorem dX11_walk_263 : decode cX11_walk 263 = .ok (.iadd, 1) := by decide +kernel
theorem dX11_walk_264 : decode cX11_walk 264 = .ok (.iconst 1, 1) := by decide +kernel
theorem dX11_walk_265 : decode cX11_walk 265 = .ok (.iadd, 1) := by decide +kernel
theorem dX11_walk_266 : decode cX11_walk 266 = .ok (.iload 5, 2) := by decide +kernel
theorem dX11_walk_268 : decode cX11_walk 268 = .ok (.iastore, 1) := by decide +kernel
theorem dX11_walk_269 : decode cX11_walk 269 = .ok (.iload 8, 2) := by decide +kernel
theorem dX11_walk_271 : decode cX11_walk 271 = .ok (.ifCond .eq 40, 3) := by decide +kernel
theorem dX11_walk_274 : decode cX11_walk 274 = .ok (.iload 5, 2) := by decide +kernel
theorem dX11_walk_276 : decode cX11_walk 276 = .ok (.aload_n 0, 1) := by decide +kernel
theorem dX11_walk_277 : decode cX11_walk 277 = .ok (.getfield 74, 3) := by decide +kernel
theorem dX11_walk_280 : decode cX11_walk 280 = .ok (.bipush 121, 2) := by decide +kernel
theorem dX11_walk_282 : decode cX11_walk 282 = .ok (.iload_n 3, 1) := by decide +kernel
theorem dX11_walk_283 : decode cX11_walk 283 = .ok (.imul, 1) := by decide +kernel
theorem dX11_walk_284 : decode cX11_walk 284 = .ok (.bipush 122, 2) := by decide +kernel
theorem dX11_walk_286 : decode cX11_walk 286 = .ok (.iadd, 1) := by decide +kernel
theorem dX11_walk_287 : decode cX11_walk 287 = .ok (.iload 4, 2) := by decide +kernel
theorem dX11_walk_289 : decode cX11_walk 289 = .ok (.iadd, 1) := by decide +kernel
theorem dX11_walk_290 : decode cX11_walk 290 = .ok (.iaload, 1) := by decide +kernel
theorem dX11_walk_291 : decode cX11_walk 291 = .ok (.if_icmp .ge 20, 3) := by decide +kernel
theorem dX11_walk_294 : decode cX11_walk 294 = .ok (.aload_n 0, 1) := by decide +kernel
theorem dX11_walk_295 : decode cX11_walk 295 = .ok (.getfield 74, 3) := by decide +kernel
theorem dX11_walk_298 : decode cX11_walk 298 = .ok (.bipush 121, 2) := by decide +kernel
theorem dX11_walk_300 : decode cX11_walk 300 = .ok (.iload_n 3, 1) := by decide +kernel
theorem dX11_walk_301 : decode cX11_walk 301 = .ok (.imul, 1) := by decide +kernel
theorem dX11_walk_302 : decode cX11_walk 302 = .ok (.bipush 122, 2) := by decide +kernel
theorem dX11_walk_304 : decode cX11_walk 304 = .ok (.iadd, 1) := by decide +kernel
theorem dX11_walk_305 : decode cX11_walk 305 = .ok (.iload 4, 2) := by decide +kernel
theorem dX11_walk_307 : decode cX11_walk 307 = .ok (.iadd, 1) := by decide +kernel
theorem dX11_walk_308 : decode cX11_walk 308 = .ok (.iload 5, 2) := by decide +kernel
theorem dX11_walk_310 : decode cX11_walk 310 = .ok (.iastore, 1) := by decide +kernel
theorem dX11_walk_311 : decode cX11_walk 311 = .ok (.iinc 4 1, 3) := by decide +kernel
theorem dX11_walk_314 : decode cX11_walk 314 = .ok (.goto (-239), 3) := by decide +kernel
theorem dX11_walk_317 : decode cX11_walk 317 = .ok (.iinc 3 1, 3) := by decide +kernel
theorem dX11_walk_320 : decode cX11_walk 320 = .ok (.goto (-253), 3) := by decide +kernel
theorem dX11_walk_323 : decode cX11_walk 323 = .ok (.aload_n 0, 1) := by decide +kernel
theorem dX11_walk_324 : decode cX11_walk 324 = .ok (.getfield 74, 3) := by decide +kernel
theorem dX11_walk_327 : decode cX11_walk 327 = .ok (.bipush 121, 2) := by decide +kernel
theorem dX11_walk_329 : decode cX11_walk 329 = .ok (.iload_n 1, 1) := by decide +kernel
theorem dX11_walk_330 : decode cX11_walk 330 = .ok (.imul, 1) := by decide +kernel
theorem dX11_walk_331 : decode cX11_walk 331 = .ok (.iload_n 2, 1) := by decide +kernel
theorem dX11_walk_332 : decode cX11_walk 332 = .ok (.iadd, 1) := by decide +kernel
theorem dX11_walk_333 : decode cX11_walk 333 = .ok (.iaload, 1) := by decide +kernel
theorem dX11_walk_334 : decode cX11_walk 334 = .ok (.ireturn, 1) := by decide +kernel
theorem dX11_leaf_0 : decode cX11_leaf 0 = .ok (.iload_n 1, 1) := by decide +kernel
theorem dX11_leaf_1 : decode cX11_leaf 1 = .ok (.i2l, 1) := by decide +kernel
theorem dX11_leaf_2 : decode cX11_leaf 2 = .ok (.ldc2_w 134, 3) := by decide +kernel
theorem dX11_leaf_5 : decode cX11_leaf 5 = .ok (.aload_n 0, 1) := by decide +kernel
theorem dX11_leaf_6 : decode cX11_leaf 6 = .ok (.getfield 179, 3) := by decide +kernel
theorem dX11_leaf_9 : decode cX11_leaf 9 = .ok (.iconst 1, 1) := by decide +kernel
theorem dX11_leaf_10 : decode cX11_leaf 10 = .ok (.isub, 1) := by decide +kernel
theorem dX11_leaf_11 : decode cX11_leaf 11 = .ok (.i2l, 1) := by decide +kernel
theorem dX11_leaf_12 : decode cX11_leaf 12 = .ok (.invokestatic 86, 3) := by decide +kernel
theorem dX11_leaf_15 : decode cX11_leaf 15 = .ok (.ifCond .ne 6, 3) := by decide +kernel
theorem dX11_leaf_18 : decode cX11_leaf 18 = .ok (.bipush (-2), 2) := by decide +kernel
theorem dX11_leaf_20 : decode cX11_leaf 20 = .ok (.ireturn, 1) := by decide +kernel
theorem dX11_leaf_21 : decode cX11_leaf 21 = .ok (.aload_n 0, 1) := by decide +kernel
theorem dX11_leaf_22 : decode cX11_leaf 22 = .ok (.getfield 179, 3) := by decide +kernel
theorem dX11_leaf_25 : decode cX11_leaf 25 = .ok (.bipush 12, 2) := by decide +kernel
theorem dX11_leaf_27 : decode cX11_leaf 27 = .ok (.if_icmp .ne 6, 3) := by decide +kernel
theorem dX11_leaf_30 : decode cX11_leaf 30 = .ok (.bipush (-4), 2) := by decide +kernel
theorem dX11_leaf_32 : decode cX11_leaf 32 = .ok (.ireturn, 1) := by decide +kernel
theorem dX11_leaf_33 : decode cX11_leaf 33 = .ok (.aload_n 0, 1) := by decide +kernel
theorem dX11_leaf_34 : decode cX11_leaf 34 = .ok (.getfield 50, 3) := by decide +kernel
theorem dX11_leaf_37 : decode cX11_leaf 37 = .ok (.aload_n 0, 1) := by decide +kernel
theorem dX11_leaf_38 : decode cX11_leaf 38 = .ok (.getfield 179, 3) := by decide +kernel
theorem dX11_leaf_41 : decode cX11_leaf 41 = .ok (.iload_n 1, 1) := by decide +kernel
theorem dX11_leaf_42 : decode cX11_leaf 42 = .ok (.iastore, 1) := by decide +kernel
theorem dX11_leaf_43 : decode cX11_leaf 43 = .ok (.aload_n 0, 1) := by decide +kernel
theorem dX11_leaf_44 : decode cX11_leaf 44 = .ok (.dup, 1) := by decide +kernel
theorem dX11_leaf_45 : decode cX11_leaf 45 = .ok (.getfield 179, 3) := by decide +kernel
theorem dX11_leaf_48 : decode cX11_leaf 48 = .ok (.iconst 1, 1) := by decide +kernel
theorem dX11_leaf_49 : decode cX11_leaf 49 = .ok (.iadd, 1) := by decide +kernel
theorem dX11_leaf_50 : decode cX11_leaf 50 = .ok (.putfield 179, 3) := by decide +kernel
theorem dX11_leaf_53 : decode cX11_leaf 53 = .ok (.aload_n 0, 1) := by decide +kernel
theorem dX11_leaf_54 : decode cX11_leaf 54 = .ok (.getfield 179, 3) := by decide +kernel
theorem dX11_leaf_57 : decode cX11_leaf 57 = .ok (.iconst 1, 1) := by decide +kernel
theorem dX11_leaf_58 : decode cX11_leaf 58 = .ok (.isub, 1) := by decide +kernel
theorem dX11_leaf_59 : decode cX11_leaf 59 = .ok (.ireturn, 1) := by decide +kernel
theorem dX11_fell_0 : decode cX11_fell 0 = .ok (.aload_n 0, 1) := by decide +kernel
theorem dX11_fell_1 : decode cX11_fell 1 = .ok (.getfield 179, 3) := by decide +kernel
theorem dX11_fell_4 : decode cX11_fell 4 = .ok (.istore_n 1, 1) := by decide +kernel
theorem dX11_fell_5 : decode cX11_fell 5 = .ok (.aload_n 0, 1) := by decide +kernel
theorem dX11_fell_6 : decode cX11_fell 6 = .ok (.iconst 0, 1) := by decide +kernel
theorem dX11_fell_7 : decode cX11_fell 7 = .ok (.putfield 179, 3) := by decide +kernel
theorem dX11_fell_10 : decode cX11_fell 10 = .ok (.iload_n 1, 1) := by decide +kernel
theorem dX11_fell_11 : decode cX11_fell 11 = .ok (.ireturn, 1) := by decide +kernel
theorem dX11_likes_0 : decode cX11_likes 0 = .ok (.iload_n 1, 1) := by decide +kernel
theorem dX11_likes_1 : decode cX11_likes 1 = .ok (.i2l, 1) := by decide +kernel
theorem dX11_likes_2 : decode cX11_likes 2 = .ok (.lconst 1, 1) := by decide +kernel
theorem dX11_likes_3 : decode cX11_likes 3 = .ok (.ldc2_w 96, 3) := by decide +kernel
theorem dX11_likes_6 : decode cX11_likes 6 = .ok (.invokestatic 86, 3) := by decide +kernel
theorem dX11_likes_9 : decode cX11_likes 9 = .ok (.ifCond .ne 6, 3) := by decide +kernel
theorem dX11_likes_12 : decode cX11_likes 12 = .ok (.bipush (-2), 2) := by decide +kernel
theorem dX11_likes_14 : decode cX11_likes 14 = .ok (.ireturn, 1) := by decide +kernel
theorem dX11_likes_15 : decode cX11_likes 15 = .ok (.aload_n 0, 1) := by decide +kernel
theorem dX11_likes_16 : decode cX11_likes 16 = .ok (.getfield 53, 3) := by decide +kernel
theorem dX11_likes_19 : decode cX11_likes 19 = .ok (.istore_n 2, 1) := by decide +kernel
theorem dX11_likes_20 : decode cX11_likes 20 = .ok (.aload_n 0, 1) := by decide +kernel
theorem dX11_likes_21 : decode cX11_likes 21 = .ok (.iload_n 1, 1) := by decide +kernel
theorem dX11_likes_22 : decode cX11_likes 22 = .ok (.putfield 53, 3) := by decide +kernel
theorem dX11_likes_25 : decode cX11_likes 25 = .ok (.iload_n 2, 1) := by decide +kernel
theorem dX11_likes_26 : decode cX11_likes 26 = .ok (.ireturn, 1) := by decide +kernel
theorem dX11_levelOf_0 : decode cX11_levelOf 0 = .ok (.iconst 1, 1) := by decide +kernel
theorem dX11_levelOf_1 : decode cX11_levelOf 1 = .ok (.istore_n 2, 1) := by decide +kernel
theorem dX11_levelOf_2 : decode cX11_levelOf 2 = .ok (.iload_n 1, 1) := by decide +kernel
theorem dX11_levelOf_3 : decode cX11_levelOf 3 = .ok (.istore_n 3, 1) := by decide +kernel
theorem dX11_levelOf_4 : decode cX11_levelOf 4 = .ok (.aload_n 0, 1) := by decide +kernel
theorem dX11_levelOf_5 : decode cX11_levelOf 5 = .ok (.getfield 50, 3) := by decide +kernel
theorem dX11_levelOf_8 : decode cX11_levelOf 8 = .ok (.iload_n 3, 1) := by decide +kernel
theorem dX11_levelOf_9 : decode cX11_levelOf 9 = .ok (.iaload, 1) := by decide +kernel
theorem dX11_levelOf_10 : decode cX11_levelOf 10 = .ok (.iconst (-1), 1) := by decide +kernel
theorem dX11_levelOf_11 : decode cX11_levelOf 11 = .ok (.if_icmp .eq 16, 3) := by decide +kernel
theorem dX11_levelOf_14 : decode cX11_levelOf 14 = .ok (.aload_n 0, 1) := by decide +kernel
theorem dX11_levelOf_15 : decode cX11_levelOf 15 = .ok (.getfield 50, 3) := by decide +kernel
theorem dX11_levelOf_18 : decode cX11_levelOf 18 = .ok (.iload_n 3, 1) := by decide +kernel
theorem dX11_levelOf_19 : decode cX11_levelOf 19 = .ok (.iaload, 1) := by decide +kernel
theorem dX11_levelOf_20 : decode cX11_levelOf 20 = .ok (.istore_n 3, 1) := by decide +kernel
theorem dX11_levelOf_21 : decode cX11_levelOf 21 = .ok (.iinc 2 1, 3) := by decide +kernel
theorem dX11_levelOf_24 : decode cX11_levelOf 24 = .ok (.goto (-20), 3) := by decide +kernel
theorem dX11_levelOf_27 : decode cX11_levelOf 27 = .ok (.iload_n 2, 1) := by decide +kernel
theorem dX11_levelOf_28 : decode cX11_levelOf 28 = .ok (.ireturn, 1) := by decide +kernel
theorem dX11_freeBehind_0 : decode cX11_freeBehind 0 = .ok (.iconst 0, 1) := by decide +kernel
theorem dX11_freeBehind_1 : decode cX11_freeBehind 1 = .ok (.istore_n 2, 1) := by decide +kernel
theorem dX11_freeBehind_2 : decode cX11_freeBehind 2 = .ok (.iconst 0, 1) := by decide +kernel
theorem dX11_freeBehind_3 : decode cX11_freeBehind 3 = .ok (.istore_n 3, 1) := by decide +kernel
theorem dX11_freeBehind_4 : decode cX11_freeBehind 4 = .ok (.iload_n 3, 1) := by decide +kernel
theorem dX11_freeBehind_5 : decode cX11_freeBehind 5 = .ok (.aload_n 0, 1) := by decide +kernel
theorem dX11_freeBehind_6 : decode cX11_freeBehind 6 = .ok (.getfield 179, 3) := by decide +kernel
theorem dX11_freeBehind_9 : decode cX11_freeBehind 9 = .ok (.if_icmp .ge 90, 3) := by decide +kernel
theorem dX11_freeBehind_12 : decode cX11_freeBehind 12 = .ok (.iload_n 1, 1) := by decide +kernel
theorem dX11_freeBehind_13 : decode cX11_freeBehind 13 = .ok (.iload_n 3, 1) := by decide +kernel
theorem dX11_freeBehind_14 : decode cX11_freeBehind 14 = .ok (.ishr, 1) := by decide +kernel
theorem dX11_freeBehind_15 : decode cX11_freeBehind 15 = .ok (.iconst 1, 1) := by decide +kernel
theorem dX11_freeBehind_16 : decode cX11_freeBehind 16 = .ok (.iand, 1) := by decide +kernel
theorem dX11_freeBehind_17 : decode cX11_freeBehind 17 = .ok (.ifCond .ne 7, 3) := by decide +kernel
theorem dX11_freeBehind_20 : decode cX11_freeBehind 20 = .ok (.iconst 1, 1) := by decide +kernel
theorem dX11_freeBehind_21 : decode cX11_freeBehind 21 = .ok (.goto 4, 3) := by decide +kernel
theorem dX11_freeBehind_24 : decode cX11_freeBehind 24 = .ok (.iconst 0, 1) := by decide +kernel
theorem dX11_freeBehind_25 : decode cX11_freeBehind 25 = .ok (.istore 4, 2) := by decide +kernel
theorem dX11_freeBehind_27 : decode cX11_freeBehind 27 = .ok (.iconst 0, 1) := by decide +kernel
theorem dX11_freeBehind_28 : decode cX11_freeBehind 28 = .ok (.istore 5, 2) := by decide +kernel
