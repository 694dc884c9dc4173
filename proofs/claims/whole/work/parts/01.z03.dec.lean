theorem dX10_open_4 : decode cX10_open 4 = .ok (.iload_n 1, 1) := by decide +kernel
theorem dX10_open_5 : decode cX10_open 5 = .ok (.sipush 1000, 3) := by decide +kernel
theorem dX10_open_8 : decode cX10_open 8 = .ok (.if_icmp .gt 21, 3) := by decide +kernel
theorem dX10_open_11 : decode cX10_open 11 = .ok (.iload_n 2, 1) := by decide +kernel
theorem dX10_open_12 : decode cX10_open 12 = .ok (.ifCond .lt 17, 3) := by decide +kernel
theorem dX10_open_15 : decode cX10_open 15 = .ok (.iload_n 2, 1) := by decide +kernel
theorem dX10_open_16 : decode cX10_open 16 = .ok (.iconst 4, 1) := by decide +kernel
theorem dX10_open_17 : decode cX10_open 17 = .ok (.if_icmp .gt 12, 3) := by decide +kernel
theorem dX10_open_20 : decode cX10_open 20 = .ok (.iload_n 3, 1) := by decide +kernel
theorem dX10_open_21 : decode cX10_open 21 = .ok (.ifCond .lt 8, 3) := by decide +kernel
theorem dX10_open_24 : decode cX10_open 24 = .ok (.iload_n 3, 1) := by decide +kernel
theorem dX10_open_25 : decode cX10_open 25 = .ok (.iconst 3, 1) := by decide +kernel
theorem dX10_open_26 : decode cX10_open 26 = .ok (.if_icmp .le 6, 3) := by decide +kernel
theorem dX10_open_29 : decode cX10_open 29 = .ok (.bipush (-4), 2) := by decide +kernel
theorem dX10_open_31 : decode cX10_open 31 = .ok (.ireturn, 1) := by decide +kernel
theorem dX10_open_32 : decode cX10_open 32 = .ok (.iconst 0, 1) := by decide +kernel
theorem dX10_open_33 : decode cX10_open 33 = .ok (.istore 4, 2) := by decide +kernel
theorem dX10_open_35 : decode cX10_open 35 = .ok (.iload 4, 2) := by decide +kernel
theorem dX10_open_37 : decode cX10_open 37 = .ok (.aload_n 0, 1) := by decide +kernel
theorem dX10_open_38 : decode cX10_open 38 = .ok (.getfield 63, 3) := by decide +kernel
theorem dX10_open_41 : decode cX10_open 41 = .ok (.if_icmp .ge 18, 3) := by decide +kernel
theorem dX10_open_44 : decode cX10_open 44 = .ok (.aload_n 0, 1) := by decide +kernel
theorem dX10_open_45 : decode cX10_open 45 = .ok (.iload 4, 2) := by decide +kernel
theorem dX10_open_47 : decode cX10_open 47 = .ok (.invokevirtual 72, 3) := by decide +kernel
theorem dX10_open_50 : decode cX10_open 50 = .ok (.ifCond .eq 9, 3) := by decide +kernel
theorem dX10_open_53 : decode cX10_open 53 = .ok (.iinc 4 1, 3) := by decide +kernel
theorem dX10_open_56 : decode cX10_open 56 = .ok (.goto (-21), 3) := by decide +kernel
theorem dX10_open_59 : decode cX10_open 59 = .ok (.iload 4, 2) := by decide +kernel
theorem dX10_open_61 : decode cX10_open 61 = .ok (.aload_n 0, 1) := by decide +kernel
theorem dX10_open_62 : decode cX10_open 62 = .ok (.getfield 63, 3) := by decide +kernel
theorem dX10_open_65 : decode cX10_open 65 = .ok (.if_icmp .ne 6, 3) := by decide +kernel
theorem dX10_open_68 : decode cX10_open 68 = .ok (.bipush (-5), 2) := by decide +kernel
theorem dX10_open_70 : decode cX10_open 70 = .ok (.ireturn, 1) := by decide +kernel
theorem dX10_open_71 : decode cX10_open 71 = .ok (.aload_n 0, 1) := by decide +kernel
theorem dX10_open_72 : decode cX10_open 72 = .ok (.getfield 9, 3) := by decide +kernel
theorem dX10_open_75 : decode cX10_open 75 = .ok (.iload 4, 2) := by decide +kernel
theorem dX10_open_77 : decode cX10_open 77 = .ok (.iconst 1, 1) := by decide +kernel
theorem dX10_open_78 : decode cX10_open 78 = .ok (.iastore, 1) := by decide +kernel
theorem dX10_open_79 : decode cX10_open 79 = .ok (.aload_n 0, 1) := by decide +kernel
theorem dX10_open_80 : decode cX10_open 80 = .ok (.getfield 13, 3) := by decide +kernel
theorem dX10_open_83 : decode cX10_open 83 = .ok (.iload 4, 2) := by decide +kernel
theorem dX10_open_85 : decode cX10_open 85 = .ok (.iload_n 1, 1) := by decide +kernel
theorem dX10_open_86 : decode cX10_open 86 = .ok (.iastore, 1) := by decide +kernel
theorem dX10_open_87 : decode cX10_open 87 = .ok (.aload_n 0, 1) := by decide +kernel
theorem dX10_open_88 : decode cX10_open 88 = .ok (.getfield 16, 3) := by decide +kernel
theorem dX10_open_91 : decode cX10_open 91 = .ok (.iload 4, 2) := by decide +kernel
theorem dX10_open_93 : decode cX10_open 93 = .ok (.iload_n 2, 1) := by decide +kernel
theorem dX10_open_94 : decode cX10_open 94 = .ok (.iastore, 1) := by decide +kernel
theorem dX10_open_95 : decode cX10_open 95 = .ok (.aload_n 0, 1) := by decide +kernel
theorem dX10_open_96 : decode cX10_open 96 = .ok (.getfield 19, 3) := by decide +kernel
theorem dX10_open_99 : decode cX10_open 99 = .ok (.iload 4, 2) := by decide +kernel
theorem dX10_open_101 : decode cX10_open 101 = .ok (.iload_n 3, 1) := by decide +kernel
theorem dX10_open_102 : decode cX10_open 102 = .ok (.iastore, 1) := by decide +kernel
theorem dX10_open_103 : decode cX10_open 103 = .ok (.aload_n 0, 1) := by decide +kernel
theorem dX10_open_104 : decode cX10_open 104 = .ok (.getfield 22, 3) := by decide +kernel
theorem dX10_open_107 : decode cX10_open 107 = .ok (.iload 4, 2) := by decide +kernel
theorem dX10_open_109 : decode cX10_open 109 = .ok (.iconst 0, 1) := by decide +kernel
theorem dX10_open_110 : decode cX10_open 110 = .ok (.iastore, 1) := by decide +kernel
theorem dX10_open_111 : decode cX10_open 111 = .ok (.aload_n 0, 1) := by decide +kernel
theorem dX10_open_112 : decode cX10_open 112 = .ok (.getfield 34, 3) := by decide +kernel
theorem dX10_open_115 : decode cX10_open 115 = .ok (.iload 4, 2) := by decide +kernel
theorem dX10_open_117 : decode cX10_open 117 = .ok (.iconst (-1), 1) := by decide +kernel
theorem dX10_open_118 : decode cX10_open 118 = .ok (.iastore, 1) := by decide +kernel
theorem dX10_open_119 : decode cX10_open 119 = .ok (.aload_n 0, 1) := by decide +kernel
theorem dX10_open_120 : decode cX10_open 120 = .ok (.getfield 37, 3) := by decide +kernel
theorem dX10_open_123 : decode cX10_open 123 = .ok (.iload 4, 2) := by decide +kernel
theorem dX10_open_125 : decode cX10_open 125 = .ok (.iconst (-1), 1) := by decide +kernel
theorem dX10_open_126 : decode cX10_open 126 = .ok (.iastore, 1) := by decide +kernel
theorem dX10_open_127 : decode cX10_open 127 = .ok (.aload_n 0, 1) := by decide +kernel
theorem dX10_open_128 : decode cX10_open 128 = .ok (.iload 4, 2) := by decide +kernel
theorem dX10_open_130 : decode cX10_open 130 = .ok (.iconst 0, 1) := by decide +kernel
theorem dX10_open_131 : decode cX10_open 131 = .ok (.invokevirtual 92, 3) := by decide +kernel
theorem dX10_open_134 : decode cX10_open 134 = .ok (.ifCond .ne 14, 3) := by decide +kernel
theorem dX10_open_137 : decode cX10_open 137 = .ok (.aload_n 0, 1) := by decide +kernel
theorem dX10_open_138 : decode cX10_open 138 = .ok (.getfield 9, 3) := by decide +kernel
theorem dX10_open_141 : decode cX10_open 141 = .ok (.iload 4, 2) := by decide +kernel
theorem dX10_open_143 : decode cX10_open 143 = .ok (.iconst 0, 1) := by decide +kernel
theorem dX10_open_144 : decode cX10_open 144 = .ok (.iastore, 1) := by decide +kernel
theorem dX10_open_145 : decode cX10_open 145 = .ok (.bipush (-6), 2) := by decide +kernel
theorem dX10_open_147 : decode cX10_open 147 = .ok (.ireturn, 1) := by decide +kernel
theorem dX10_open_148 : decode cX10_open 148 = .ok (.iconst 0, 1) := by decide +kernel
theorem dX10_open_149 : decode cX10_open 149 = .ok (.istore 5, 2) := by decide +kernel
theorem dX10_open_151 : decode cX10_open 151 = .ok (.iload 5, 2) := by decide +kernel
theorem dX10_open_153 : decode cX10_open 153 = .ok (.iload_n 1, 1) := by decide +kernel
theorem dX10_open_154 : decode cX10_open 154 = .ok (.if_icmp .ge 25, 3) := by decide +kernel
theorem dX10_open_157 : decode cX10_open 157 = .ok (.aload_n 0, 1) := by decide +kernel
theorem dX10_open_158 : decode cX10_open 158 = .ok (.getfield 69, 3) := by decide +kernel
theorem dX10_open_161 : decode cX10_open 161 = .ok (.aload_n 0, 1) := by decide +kernel
theorem dX10_open_162 : decode cX10_open 162 = .ok (.getfield 25, 3) := by decide +kernel
theorem dX10_open_165 : decode cX10_open 165 = .ok (.iload 4, 2) := by decide +kernel
theorem dX10_open_167 : decode cX10_open 167 = .ok (.iaload, 1) := by decide +kernel
theorem dX10_open_168 : decode cX10_open 168 = .ok (.iload 5, 2) := by decide +kernel
theorem dX10_open_170 : decode cX10_open 170 = .ok (.iadd, 1) := by decide +kernel
theorem dX10_open_171 : decode cX10_open 171 = .ok (.iconst 0, 1) := by decide +kernel
theorem dX10_open_172 : decode cX10_open 172 = .ok (.iastore, 1) := by decide +kernel
theorem dX10_open_173 : decode cX10_open 173 = .ok (.iinc 5 1, 3) := by decide +kernel
theorem dX10_open_176 : decode cX10_open 176 = .ok (.goto (-25), 3) := by decide +kernel
theorem dX10_open_179 : decode cX10_open 179 = .ok (.iload 4, 2) := by decide +kernel
theorem dX10_open_181 : decode cX10_open 181 = .ok (.ireturn, 1) := by decide +kernel
theorem dX10_put_0 : decode cX10_put 0 = .ok (.aload_n 0, 1) := by decide +kernel
theorem dX10_put_1 : decode cX10_put 1 = .ok (.iload_n 1, 1) := by decide +kernel
theorem dX10_put_2 : decode cX10_put 2 = .ok (.invokevirtual 96, 3) := by decide +kernel
theorem dX10_put_5 : decode cX10_put 5 = .ok (.ifCond .ne 5, 3) := by decide +kernel
theorem dX10_put_8 : decode cX10_put 8 = .ok (.iconst (-1), 1) := by decide +kernel
theorem dX10_put_9 : decode cX10_put 9 = .ok (.ireturn, 1) := by decide +kernel
theorem dX10_put_10 : decode cX10_put 10 = .ok (.aload_n 0, 1) := by decide +kernel
theorem dX10_put_11 : decode cX10_put 11 = .ok (.getfield 9, 3) := by decide +kernel
theorem dX10_put_14 : decode cX10_put 14 = .ok (.iload_n 1, 1) := by decide +kernel
theorem dX10_put_15 : decode cX10_put 15 = .ok (.iaload, 1) := by decide +kernel
theorem dX10_put_16 : decode cX10_put 16 = .ok (.iconst 1, 1) := by decide +kernel
theorem dX10_put_17 : decode cX10_put 17 = .ok (.if_icmp .eq 6, 3) := by decide +kernel
theorem dX10_put_20 : decode cX10_put 20 = .ok (.bipush (-3), 2) := by decide +kernel
theorem dX10_put_22 : decode cX10_put 22 = .ok (.ireturn, 1) := by decide +kernel
theorem dX10_put_23 : decode cX10_put 23 = .ok (.iload_n 2, 1) := by decide +kernel
theorem dX10_put_24 : decode cX10_put 24 = .ok (.ifCond .lt 13, 3) := by decide +kernel
theorem dX10_put_27 : decode cX10_put 27 = .ok (.iload_n 2, 1) := by decide +kernel
theorem dX10_put_28 : decode cX10_put 28 = .ok (.aload_n 0, 1) := by decide +kernel
theorem dX10_put_29 : decode cX10_put 29 = .ok (.getfield 13, 3) := by decide +kernel
theorem dX10_put_32 : decode cX10_put 32 = .ok (.iload_n 1, 1) := by decide +kernel
theorem dX10_put_33 : decode cX10_put 33 = .ok (.iaload, 1) := by decide +kernel
theorem dX10_put_34 : decode cX10_put 34 = .ok (.if_icmp .lt 6, 3) := by decide +kernel
theorem dX10_put_37 : decode cX10_put 37 = .ok (.bipush (-2), 2) := by decide +kernel
theorem dX10_put_39 : decode cX10_put 39 = .ok (.ireturn, 1) := by decide +kernel
theorem dX10_put_40 : decode cX10_put 40 = .ok (.aload_n 0, 1) := by decide +kernel
theorem dX10_put_41 : decode cX10_put 41 = .ok (.getfield 69, 3) := by decide +kernel
theorem dX10_put_44 : decode cX10_put 44 = .ok (.aload_n 0, 1) := by decide +kernel
theorem dX10_put_45 : decode cX10_put 45 = .ok (.getfield 25, 3) := by decide +kernel
theorem dX10_put_48 : decode cX10_put 48 = .ok (.iload_n 1, 1) := by decide +kernel
theorem dX10_put_49 : decode cX10_put 49 = .ok (.iaload, 1) := by decide +kernel
theorem dX10_put_50 : decode cX10_put 50 = .ok (.iload_n 2, 1) := by decide +kernel
theorem dX10_put_51 : decode cX10_put 51 = .ok (.iadd, 1) := by decide +kernel
theorem dX10_put_52 : decode cX10_put 52 = .ok (.iload_n 3, 1) := by decide +kernel
theorem dX10_put_53 : decode cX10_put 53 = .ok (.iastore, 1) := by decide +kernel
theorem dX10_put_54 : decode cX10_put 54 = .ok (.iconst 0, 1) := by decide +kernel
theorem dX10_put_55 : decode cX10_put 55 = .ok (.ireturn, 1) := by decide +kernel
theorem dX10_resize_0 : decode cX10_resize 0 = .ok (.aload_n 0, 1) := by decide +kernel
theorem dX10_resize_1 : decode cX10_resize 1 = .ok (.iload_n 1, 1) := by decide +kernel
theorem dX10_resize_2 : decode cX10_resize 2 = .ok (.invokevirtual 96, 3) := by decide +kernel
theorem dX10_resize_5 : decode cX10_resize 5 = .ok (.ifCond .ne 5, 3) := by decide +kernel
theorem dX10_resize_8 : decode cX10_resize 8 = .ok (.iconst (-1), 1) := by decide +kernel
theorem dX10_resize_9 : decode cX10_resize 9 = .ok (.ireturn, 1) := by decide +kernel
theorem dX10_resize_10 : decode cX10_resize 10 = .ok (.aload_n 0, 1) := by decide +kernel
theorem dX10_resize_11 : decode cX10_resize 11 = .ok (.getfield 9, 3) := by decide +kernel
theorem dX10_resize_14 : decode cX10_resize 14 = .ok (.iload_n 1, 1) := by decide +kernel
theorem dX10_resize_15 : decode cX10_resize 15 = .ok (.iaload, 1) := by decide +kernel
theorem dX10_resize_16 : decode cX10_resize 16 = .ok (.iconst 1, 1) := by decide +kernel
theorem dX10_resize_17 : decode cX10_resize 17 = .ok (.if_icmp .eq 6, 3) := by decide +kernel
theorem dX10_resize_20 : decode cX10_resize 20 = .ok (.bipush (-3), 2) := by decide +kernel
theorem dX10_resize_22 : decode cX10_resize 22 = .ok (.ireturn, 1) := by decide +kernel
theorem dX10_resize_23 : decode cX10_resize 23 = .ok (.iload_n 2, 1) := by decide +kernel
theorem dX10_resize_24 : decode cX10_resize 24 = .ok (.ifCond .lt 10, 3) := by decide +kernel
theorem dX10_resize_27 : decode cX10_resize 27 = .ok (.iload_n 2, 1) := by decide +kernel
theorem dX10_resize_28 : decode cX10_resize 28 = .ok (.sipush 1000, 3) := by decide +kernel
theorem dX10_resize_31 : decode cX10_resize 31 = .ok (.if_icmp .le 6, 3) := by decide +kernel
theorem dX10_resize_34 : decode cX10_resize 34 = .ok (.bipush (-4), 2) := by decide +kernel
theorem dX10_resize_36 : decode cX10_resize 36 = .ok (.ireturn, 1) := by decide +kernel
theorem dX10_resize_37 : decode cX10_resize 37 = .ok (.aload_n 0, 1) := by decide +kernel
theorem dX10_resize_38 : decode cX10_resize 38 = .ok (.getfield 13, 3) := by decide +kernel
theorem dX10_resize_41 : decode cX10_resize 41 = .ok (.iload_n 1, 1) := by decide +kernel
theorem dX10_resize_42 : decode cX10_resize 42 = .ok (.iaload, 1) := by decide +kernel
theorem dX10_resize_43 : decode cX10_resize 43 = .ok (.istore_n 3, 1) := by decide +kernel
theorem dX10_resize_44 : decode cX10_resize 44 = .ok (.aload_n 0, 1) := by decide +kernel
theorem dX10_resize_45 : decode cX10_resize 45 = .ok (.getfield 25, 3) := by decide +kernel
theorem dX10_resize_48 : decode cX10_resize 48 = .ok (.iload_n 1, 1) := by decide +kernel
theorem dX10_resize_49 : decode cX10_resize 49 = .ok (.iaload, 1) := by decide +kernel
theorem dX10_resize_50 : decode cX10_resize 50 = .ok (.istore 4, 2) := by decide +kernel
theorem dX10_resize_52 : decode cX10_resize 52 = .ok (.aload_n 0, 1) := by decide +kernel
theorem dX10_resize_53 : decode cX10_resize 53 = .ok (.getfield 28, 3) := by decide +kernel
theorem dX10_resize_56 : decode cX10_resize 56 = .ok (.iload_n 1, 1) := by decide +kernel
theorem dX10_resize_57 : decode cX10_resize 57 = .ok (.iaload, 1) := by decide +kernel
theorem dX10_resize_58 : decode cX10_resize 58 = .ok (.istore 5, 2) := by decide +kernel
theorem dX10_resize_60 : decode cX10_resize 60 = .ok (.iconst 0, 1) := by decide +kernel
theorem dX10_resize_61 : decode cX10_resize 61 = .ok (.istore 6, 2) := by decide +kernel
theorem dX10_resize_63 : decode cX10_resize 63 = .ok (.iload 6, 2) := by decide +kernel
theorem dX10_resize_65 : decode cX10_resize 65 = .ok (.iload_n 3, 1) := by decide +kernel
theorem dX10_resize_66 : decode cX10_resize 66 = .ok (.if_icmp .ge 26, 3) := by decide +kernel
theorem dX10_resize_69 : decode cX10_resize 69 = .ok (.aload_n 0, 1) := by decide +kernel
theorem dX10_resize_70 : decode cX10_resize 70 = .ok (.getfield 44, 3) := by decide +kernel
theorem dX10_resize_73 : decode cX10_resize 73 = .ok (.iload 6, 2) := by decide +kernel
theorem dX10_resize_75 : decode cX10_resize 75 = .ok (.aload_n 0, 1) := by decide +kernel
theorem dX10_resize_76 : decode cX10_resize 76 = .ok (.getfield 69, 3) := by decide +kernel
theorem dX10_resize_79 : decode cX10_resize 79 = .ok (.iload 4, 2) := by decide +kernel
theorem dX10_resize_81 : decode cX10_resize 81 = .ok (.iload 6, 2) := by decide +kernel
theorem dX10_resize_83 : decode cX10_resize 83 = .ok (.iadd, 1) := by decide +kernel
theorem dX10_resize_84 : decode cX10_resize 84 = .ok (.iaload, 1) := by decide +kernel
theorem dX10_resize_85 : decode cX10_resize 85 = .ok (.iastore, 1) := by decide +kernel
theorem dX10_resize_86 : decode cX10_resize 86 = .ok (.iinc 6 1, 3) := by decide +kernel
theorem dX10_resize_89 : decode cX10_resize 89 = .ok (.goto (-26), 3) := by decide +kernel
theorem dX10_resize_92 : decode cX10_resize 92 = .ok (.aload_n 0, 1) := by decide +kernel
theorem dX10_resize_93 : decode cX10_resize 93 = .ok (.getfield 13, 3) := by decide +kernel
theorem dX10_resize_96 : decode cX10_resize 96 = .ok (.iload_n 1, 1) := by decide +kernel
theorem dX10_resize_97 : decode cX10_resize 97 = .ok (.iload_n 2, 1) := by decide +kernel
theorem dX10_resize_98 : decode cX10_resize 98 = .ok (.iastore, 1) := by decide +kernel
theorem dX10_resize_99 : decode cX10_resize 99 = .ok (.aload_n 0, 1) := by decide +kernel
theorem dX10_resize_100 : decode cX10_resize 100 = .ok (.iload_n 1, 1) := by decide +kernel
theorem dX10_resize_101 : decode cX10_resize 101 = .ok (.aload_n 0, 1) := by decide +kernel
theorem dX10_resize_102 : decode cX10_resize 102 = .ok (.getfield 16, 3) := by decide +kernel
theorem dX10_resize_105 : decode cX10_resize 105 = .ok (.iload_n 1, 1) := by decide +kernel
theorem dX10_resize_106 : decode cX10_resize 106 = .ok (.iaload, 1) := by decide +kernel
theorem dX10_resize_107 : decode cX10_resize 107 = .ok (.iconst 2, 1) := by decide +kernel
theorem dX10_resize_108 : decode cX10_resize 108 = .ok (.if_icmp .eq 7, 3) := by decide +kernel
theorem dX10_resize_111 : decode cX10_resize 111 = .ok (.iconst 1, 1) := by decide +kernel
theorem dX10_resize_112 : decode cX10_resize 112 = .ok (.goto 4, 3) := by decide +kernel
theorem dX10_resize_115 : decode cX10_resize 115 = .ok (.iconst 0, 1) := by decide +kernel
theorem dX10_resize_116 : decode cX10_resize 116 = .ok (.invokevirtual 92, 3) := by decide +kernel
theorem dX10_resize_119 : decode cX10_resize 119 = .ok (.ifCond .ne 29, 3) := by decide +kernel
theorem dX10_resize_122 : decode cX10_resize 122 = .ok (.aload_n 0, 1) := by decide +kernel
theorem dX10_resize_123 : decode cX10_resize 123 = .ok (.getfield 13, 3) := by decide +kernel
theorem dX10_resize_126 : decode cX10_resize 126 = .ok (.iload_n 1, 1) := by decide +kernel
theorem dX10_resize_127 : decode cX10_resize 127 = .ok (.iload_n 3, 1) := by decide +kernel
theorem dX10_resize_128 : decode cX10_resize 128 = .ok (.iastore, 1) := by decide +kernel
theorem dX10_resize_129 : decode cX10_resize 129 = .ok (.aload_n 0, 1) := by decide +kernel
theorem dX10_resize_130 : decode cX10_resize 130 = .ok (.getfield 25, 3) := by decide +kernel
theorem dX10_resize_133 : decode cX10_resize 133 = .ok (.iload_n 1, 1) := by decide +kernel
theorem dX10_resize_134 : decode cX10_resize 134 = .ok (.iload 4, 2) := by decide +kernel
theorem dX10_resize_136 : decode cX10_resize 136 = .ok (.iastore, 1) := by decide +kernel
theorem dX10_resize_137 : decode cX10_resize 137 = .ok (.aload_n 0, 1) := by decide +kernel
theorem dX10_resize_138 : decode cX10_resize 138 = .ok (.getfield 28, 3) := by decide +kernel
theorem dX10_resize_141 : decode cX10_resize 141 = .ok (.iload_n 1, 1) := by decide +kernel
theorem dX10_resize_142 : decode cX10_resize 142 = .ok (.iload 5, 2) := by decide +kernel
theorem dX10_resize_144 : decode cX10_resize 144 = .ok (.iastore, 1) := by decide +kernel
theorem dX10_resize_145 : decode cX10_resize 145 = .ok (.bipush (-6), 2) := by decide +kernel
theorem dX10_resize_147 : decode cX10_resize 147 = .ok (.ireturn, 1) := by decide +kernel
theorem dX10_resize_148 : decode cX10_resize 148 = .ok (.iconst 0, 1) := by decide +kernel
theorem dX10_resize_149 : decode cX10_resize 149 = .ok (.istore 6, 2) := by decide +kernel
theorem dX10_resize_151 : decode cX10_resize 151 = .ok (.iload 6, 2) := by decide +kernel
theorem dX10_resize_153 : decode cX10_resize 153 = .ok (.iload_n 2, 1) := by decide +kernel
theorem dX10_resize_154 : decode cX10_resize 154 = .ok (.if_icmp .ge 40, 3) := by decide +kernel
theorem dX10_resize_157 : decode cX10_resize 157 = .ok (.aload_n 0, 1) := by decide +kernel
theorem dX10_resize_158 : decode cX10_resize 158 = .ok (.getfield 69, 3) := by decide +kernel
theorem dX10_resize_161 : decode cX10_resize 161 = .ok (.aload_n 0, 1) := by decide +kernel
theorem dX10_resize_162 : decode cX10_resize 162 = .ok (.getfield 25, 3) := by decide +kernel
theorem dX10_resize_165 : decode cX10_resize 165 = .ok (.iload_n 1, 1) := by decide +kernel
theorem dX10_resize_166 : decode cX10_resize 166 = .ok (.iaload, 1) := by decide +kernel
theorem dX10_resize_167 : decode cX10_resize 167 = .ok (.iload 6, 2) := by decide +kernel
theorem dX10_resize_169 : decode cX10_resize 169 = .ok (.iadd, 1) := by decide +kernel
theorem dX10_resize_170 : decode cX10_resize 170 = .ok (.iload 6, 2) := by decide +kernel
theorem dX10_resize_172 : decode cX10_resize 172 = .ok (.iload_n 3, 1) := by decide +kernel
theorem dX10_resize_173 : decode cX10_resize 173 = .ok (.if_icmp .ge 13, 3) := by decide +kernel
theorem dX10_resize_176 : decode cX10_resize 176 = .ok (.aload_n 0, 1) := by decide +kernel
theorem dX10_resize_177 : decode cX10_resize 177 = .ok (.getfield 44, 3) := by decide +kernel
theorem dX10_resize_180 : decode cX10_resize 180 = .ok (.iload 6, 2) := by decide +kernel
theorem dX10_resize_182 : decode cX10_resize 182 = .ok (.iaload, 1) := by decide +kernel
theorem dX10_resize_183 : decode cX10_resize 183 = .ok (.goto 4, 3) := by decide +kernel
theorem dX10_resize_186 : decode cX10_resize 186 = .ok (.iconst 0, 1) := by decide +kernel
theorem dX10_resize_187 : decode cX10_resize 187 = .ok (.iastore, 1) := by decide +kernel
theorem dX10_resize_188 : decode cX10_resize 188 = .ok (.iinc 6 1, 3) := by decide +kernel
theorem dX10_resize_191 : decode cX10_resize 191 = .ok (.goto (-40), 3) := by decide +kernel
theorem dX10_resize_194 : decode cX10_resize 194 = .ok (.iconst 0, 1) := by decide +kernel
theorem dX10_resize_195 : decode cX10_resize 195 = .ok (.ireturn, 1) := by decide +kernel
theorem dX10_goesToEnd_0 : decode cX10_goesToEnd 0 = .ok (.aload_n 0, 1) := by decide +kernel
theorem dX10_goesToEnd_1 : decode cX10_goesToEnd 1 = .ok (.getfield 31, 3) := by decide +kernel
theorem dX10_goesToEnd_4 : decode cX10_goesToEnd 4 = .ok (.iload_n 1, 1) := by decide +kernel
theorem dX10_goesToEnd_5 : decode cX10_goesToEnd 5 = .ok (.aload_n 0, 1) := by decide +kernel
theorem dX10_goesToEnd_6 : decode cX10_goesToEnd 6 = .ok (.getfield 99, 3) := by decide +kernel
theorem dX10_goesToEnd_9 : decode cX10_goesToEnd 9 = .ok (.iastore, 1) := by decide +kernel
theorem dX10_goesToEnd_10 : decode cX10_goesToEnd 10 = .ok (.aload_n 0, 1) := by decide +kernel
theorem dX10_goesToEnd_11 : decode cX10_goesToEnd 11 = .ok (.dup, 1) := by decide +kernel
theorem dX10_goesToEnd_12 : decode cX10_goesToEnd 12 = .ok (.getfield 99, 3) := by decide +kernel
theorem dX10_goesToEnd_15 : decode cX10_goesToEnd 15 = .ok (.iconst 1, 1) := by decide +kernel
theorem dX10_goesToEnd_16 : decode cX10_goesToEnd 16 = .ok (.iadd, 1) := by decide +kernel
theorem dX10_goesToEnd_17 : decode cX10_goesToEnd 17 = .ok (.putfield 99, 3) := by decide +kernel
theorem dX10_goesToEnd_20 : decode cX10_goesToEnd 20 = .ok (.return_, 1) := by decide +kernel
theorem dX10_submit_0 : decode cX10_submit 0 = .ok (.aload_n 0, 1) := by decide +kernel
theorem dX10_submit_1 : decode cX10_submit 1 = .ok (.iload_n 1, 1) := by decide +kernel
theorem dX10_submit_2 : decode cX10_submit 2 = .ok (.invokevirtual 96, 3) := by decide +kernel
theorem dX10_submit_5 : decode cX10_submit 5 = .ok (.ifCond .ne 5, 3) := by decide +kernel
theorem dX10_submit_8 : decode cX10_submit 8 = .ok (.iconst (-1), 1) := by decide +kernel
theorem dX10_submit_9 : decode cX10_submit 9 = .ok (.ireturn, 1) := by decide +kernel
theorem dX10_submit_10 : decode cX10_submit 10 = .ok (.aload_n 0, 1) := by decide +kernel
theorem dX10_submit_11 : decode cX10_submit 11 = .ok (.getfield 9, 3) := by decide +kernel
theorem dX10_submit_14 : decode cX10_submit 14 = .ok (.iload_n 1, 1) := by decide +kernel
theorem dX10_submit_15 : decode cX10_submit 15 = .ok (.iaload, 1) := by decide +kernel
theorem dX10_submit_16 : decode cX10_submit 16 = .ok (.iconst 1, 1) := by decide +kernel
theorem dX10_submit_17 : decode cX10_submit 17 = .ok (.if_icmp .eq 6, 3) := by decide +kernel
theorem dX10_submit_20 : decode cX10_submit 20 = .ok (.bipush (-3), 2) := by decide +kernel
theorem dX10_submit_22 : decode cX10_submit 22 = .ok (.ireturn, 1) := by decide +kernel
theorem dX10_submit_23 : decode cX10_submit 23 = .ok (.aload_n 0, 1) := by decide +kernel
theorem dX10_submit_24 : decode cX10_submit 24 = .ok (.getfield 9, 3) := by decide +kernel
theorem dX10_submit_27 : decode cX10_submit 27 = .ok (.iload_n 1, 1) := by decide +kernel
theorem dX10_submit_28 : decode cX10_submit 28 = .ok (.iconst 2, 1) := by decide +kernel
theorem dX10_submit_29 : decode cX10_submit 29 = .ok (.iastore, 1) := by decide +kernel
theorem dX10_submit_30 : decode cX10_submit 30 = .ok (.aload_n 0, 1) := by decide +kernel
theorem dX10_submit_31 : decode cX10_submit 31 = .ok (.iload_n 1, 1) := by decide +kernel
theorem dX10_submit_32 : decode cX10_submit 32 = .ok (.invokevirtual 102, 3) := by decide +kernel
theorem dX10_submit_35 : decode cX10_submit 35 = .ok (.aload_n 0, 1) := by decide +kernel
theorem dX10_submit_36 : decode cX10_submit 36 = .ok (.getfield 34, 3) := by decide +kernel
theorem dX10_submit_39 : decode cX10_submit 39 = .ok (.iload_n 1, 1) := by decide +kernel
theorem dX10_submit_40 : decode cX10_submit 40 = .ok (.aload_n 0, 1) := by decide +kernel
theorem dX10_submit_41 : decode cX10_submit 41 = .ok (.getfield 106, 3) := by decide +kernel
theorem dX10_submit_44 : decode cX10_submit 44 = .ok (.iastore, 1) := by decide +kernel
theorem dX10_submit_45 : decode cX10_submit 45 = .ok (.aload_n 0, 1) := by decide +kernel
theorem dX10_submit_46 : decode cX10_submit 46 = .ok (.iload_n 1, 1) := by decide +kernel
theorem dX10_submit_47 : decode cX10_submit 47 = .ok (.invokevirtual 109, 3) := by decide +kernel
theorem dX10_submit_50 : decode cX10_submit 50 = .ok (.aload_n 0, 1) := by decide +kernel
theorem dX10_submit_51 : decode cX10_submit 51 = .ok (.getfield 40, 3) := by decide +kernel
theorem dX10_submit_54 : decode cX10_submit 54 = .ok (.iload_n 1, 1) := by decide +kernel
theorem dX10_submit_55 : decode cX10_submit 55 = .ok (.aload_n 0, 1) := by decide +kernel
theorem dX10_submit_56 : decode cX10_submit 56 = .ok (.invokevirtual 112, 3) := by decide +kernel
theorem dX10_submit_59 : decode cX10_submit 59 = .ok (.bastore, 1) := by decide +kernel
theorem dX10_submit_60 : decode cX10_submit 60 = .ok (.aload_n 0, 1) := by decide +kernel
theorem dX10_submit_61 : decode cX10_submit 61 = .ok (.invokevirtual 116, 3) := by decide +kernel
theorem dX10_submit_64 : decode cX10_submit 64 = .ok (.iconst 0, 1) := by decide +kernel
theorem dX10_submit_65 : decode cX10_submit 65 = .ok (.ireturn, 1) := by decide +kernel
theorem dX10_cancel_0 : decode cX10_cancel 0 = .ok (.aload_n 0, 1) := by decide +kernel
theorem dX10_cancel_1 : decode cX10_cancel 1 = .ok (.iload_n 1, 1) := by decide +kernel
theorem dX10_cancel_2 : decode cX10_cancel 2 = .ok (.invokevirtual 96, 3) := by decide +kernel
theorem dX10_cancel_5 : decode cX10_cancel 5 = .ok (.ifCond .ne 5, 3) := by decide +kernel
theorem dX10_cancel_8 : decode cX10_cancel 8 = .ok (.iconst (-1), 1) := by decide +kernel
theorem dX10_cancel_9 : decode cX10_cancel 9 = .ok (.ireturn, 1) := by decide +kernel
theorem dX10_cancel_10 : decode cX10_cancel 10 = .ok (.aload_n 0, 1) := by decide +kernel
theorem dX10_cancel_11 : decode cX10_cancel 11 = .ok (.getfield 9, 3) := by decide +kernel
theorem dX10_cancel_14 : decode cX10_cancel 14 = .ok (.iload_n 1, 1) := by decide +kernel
theorem dX10_cancel_15 : decode cX10_cancel 15 = .ok (.iaload, 1) := by decide +kernel
theorem dX10_cancel_16 : decode cX10_cancel 16 = .ok (.iconst 2, 1) := by decide +kernel
theorem dX10_cancel_17 : decode cX10_cancel 17 = .ok (.if_icmp .eq 6, 3) := by decide +kernel
theorem dX10_cancel_20 : decode cX10_cancel 20 = .ok (.bipush (-3), 2) := by decide +kernel
theorem dX10_cancel_22 : decode cX10_cancel 22 = .ok (.ireturn, 1) := by decide +kernel
theorem dX10_cancel_23 : decode cX10_cancel 23 = .ok (.aload_n 0, 1) := by decide +kernel
theorem dX10_cancel_24 : decode cX10_cancel 24 = .ok (.getfield 9, 3) := by decide +kernel
theorem dX10_cancel_27 : decode cX10_cancel 27 = .ok (.iload_n 1, 1) := by decide +kernel
theorem dX10_cancel_28 : decode cX10_cancel 28 = .ok (.iconst 4, 1) := by decide +kernel
theorem dX10_cancel_29 : decode cX10_cancel 29 = .ok (.iastore, 1) := by decide +kernel
theorem dX10_cancel_30 : decode cX10_cancel 30 = .ok (.iconst 0, 1) := by decide +kernel
theorem dX10_cancel_31 : decode cX10_cancel 31 = .ok (.ireturn, 1) := by decide +kernel
theorem dX10_raise_0 : decode cX10_raise 0 = .ok (.aload_n 0, 1) := by decide +kernel
theorem dX10_raise_1 : decode cX10_raise 1 = .ok (.iload_n 1, 1) := by decide +kernel
theorem dX10_raise_2 : decode cX10_raise 2 = .ok (.invokevirtual 96, 3) := by decide +kernel
theorem dX10_raise_5 : decode cX10_raise 5 = .ok (.ifCond .ne 5, 3) := by decide +kernel
theorem dX10_raise_8 : decode cX10_raise 8 = .ok (.iconst (-1), 1) := by decide +kernel
theorem dX10_raise_9 : decode cX10_raise 9 = .ok (.ireturn, 1) := by decide +kernel
theorem dX10_raise_10 : decode cX10_raise 10 = .ok (.iload_n 2, 1) := by decide +kernel
theorem dX10_raise_11 : decode cX10_raise 11 = .ok (.ifCond .lt 8, 3) := by decide +kernel
theorem dX10_raise_14 : decode cX10_raise 14 = .ok (.iload_n 2, 1) := by decide +kernel
theorem dX10_raise_15 : decode cX10_raise 15 = .ok (.iconst 3, 1) := by decide +kernel
theorem dX10_raise_16 : decode cX10_raise 16 = .ok (.if_icmp .le 6, 3) := by decide +kernel
theorem dX10_raise_19 : decode cX10_raise 19 = .ok (.bipush (-4), 2) := by decide +kernel
theorem dX10_raise_21 : decode cX10_raise 21 = .ok (.ireturn, 1) := by decide +kernel
theorem dX10_raise_22 : decode cX10_raise 22 = .ok (.aload_n 0, 1) := by decide +kernel
theorem dX10_raise_23 : decode cX10_raise 23 = .ok (.getfield 9, 3) := by decide +kernel
theorem dX10_raise_26 : decode cX10_raise 26 = .ok (.iload_n 1, 1) := by decide +kernel
theorem dX10_raise_27 : decode cX10_raise 27 = .ok (.iaload, 1) := by decide +kernel
theorem dX10_raise_28 : decode cX10_raise 28 = .ok (.iconst 3, 1) := by decide +kernel
theorem dX10_raise_29 : decode cX10_raise 29 = .ok (.if_icmp .eq 13, 3) := by decide +kernel
theorem dX10_raise_32 : decode cX10_raise 32 = .ok (.aload_n 0, 1) := by decide +kernel
theorem dX10_raise_33 : decode cX10_raise 33 = .ok (.getfield 9, 3) := by decide +kernel
theorem dX10_raise_36 : decode cX10_raise 36 = .ok (.iload_n 1, 1) := by decide +kernel
theorem dX10_raise_37 : decode cX10_raise 37 = .ok (.iaload, 1) := by decide +kernel
theorem dX10_raise_38 : decode cX10_raise 38 = .ok (.iconst 4, 1) := by decide +kernel
theorem dX10_raise_39 : decode cX10_raise 39 = .ok (.if_icmp .ne 6, 3) := by decide +kernel
theorem dX10_raise_42 : decode cX10_raise 42 = .ok (.bipush (-3), 2) := by decide +kernel
theorem dX10_raise_44 : decode cX10_raise 44 = .ok (.ireturn, 1) := by decide +kernel
theorem dX10_raise_45 : decode cX10_raise 45 = .ok (.aload_n 0, 1) := by decide +kernel
theorem dX10_raise_46 : decode cX10_raise 46 = .ok (.getfield 19, 3) := by decide +kernel
theorem dX10_raise_49 : decode cX10_raise 49 = .ok (.iload_n 1, 1) := by decide +kernel
theorem dX10_raise_50 : decode cX10_raise 50 = .ok (.iload_n 2, 1) := by decide +kernel
theorem dX10_raise_51 : decode cX10_raise 51 = .ok (.iastore, 1) := by decide +kernel
theorem dX10_raise_52 : decode cX10_raise 52 = .ok (.aload_n 0, 1) := by decide +kernel
theorem dX10_raise_53 : decode cX10_raise 53 = .ok (.getfield 9, 3) := by decide +kernel
theorem dX10_raise_56 : decode cX10_raise 56 = .ok (.iload_n 1, 1) := by decide +kernel
theorem dX10_raise_57 : decode cX10_raise 57 = .ok (.iaload, 1) := by decide +kernel
theorem dX10_raise_58 : decode cX10_raise 58 = .ok (.iconst 2, 1) := by decide +kernel
theorem dX10_raise_59 : decode cX10_raise 59 = .ok (.if_icmp .ne 8, 3) := by decide +kernel
theorem dX10_raise_62 : decode cX10_raise 62 = .ok (.aload_n 0, 1) := by decide +kernel
theorem dX10_raise_63 : decode cX10_raise 63 = .ok (.iload_n 1, 1) := by decide +kernel
theorem dX10_raise_64 : decode cX10_raise 64 = .ok (.invokevirtual 102, 3) := by decide +kernel
theorem dX10_raise_67 : decode cX10_raise 67 = .ok (.iconst 0, 1) := by decide +kernel
theorem dX10_raise_68 : decode cX10_raise 68 = .ok (.ireturn, 1) := by decide +kernel
theorem dX10_close_0 : decode cX10_close 0 = .ok (.aload_n 0, 1) := by decide +kernel
theorem dX10_close_1 : decode cX10_close 1 = .ok (.iload_n 1, 1) := by decide +kernel
theorem dX10_close_2 : decode cX10_close 2 = .ok (.invokevirtual 96, 3) := by decide +kernel
theorem dX10_close_5 : decode cX10_close 5 = .ok (.ifCond .ne 5, 3) := by decide +kernel
theorem dX10_close_8 : decode cX10_close 8 = .ok (.iconst (-1), 1) := by decide +kernel
theorem dX10_close_9 : decode cX10_close 9 = .ok (.ireturn, 1) := by decide +kernel
theorem dX10_close_10 : decode cX10_close 10 = .ok (.aload_n 0, 1) := by decide +kernel
theorem dX10_close_11 : decode cX10_close 11 = .ok (.getfield 9, 3) := by decide +kernel
theorem dX10_close_14 : decode cX10_close 14 = .ok (.iload_n 1, 1) := by decide +kernel
theorem dX10_close_15 : decode cX10_close 15 = .ok (.iaload, 1) := by decide +kernel
theorem dX10_close_16 : decode cX10_close 16 = .ok (.iconst 2, 1) := by decide +kernel
theorem dX10_close_17 : decode cX10_close 17 = .ok (.if_icmp .ne 6, 3) := by decide +kernel
theorem dX10_close_20 : decode cX10_close 20 = .ok (.bipush (-3), 2) := by decide +kernel
theorem dX10_close_22 : decode cX10_close 22 = .ok (.ireturn, 1) := by decide +kernel
theorem dX10_close_23 : decode cX10_close 23 = .ok (.aload_n 0, 1) := by decide +kernel
theorem dX10_close_24 : decode cX10_close 24 = .ok (.getfield 9, 3) := by decide +kernel
theorem dX10_close_27 : decode cX10_close 27 = .ok (.iload_n 1, 1) := by decide +kernel
theorem dX10_close_28 : decode cX10_close 28 = .ok (.iconst 0, 1) := by decide +kernel
theorem dX10_close_29 : decode cX10_close 29 = .ok (.iastore, 1) := by decide +kernel
theorem dX10_close_30 : decode cX10_close 30 = .ok (.iconst 0, 1) := by decide +kernel
theorem dX10_close_31 : decode cX10_close 31 = .ok (.ireturn, 1) := by decide +kernel
theorem dX10_pack_0 : decode cX10_pack 0 = .ok (.iconst 0, 1) := by decide +kernel
theorem dX10_pack_1 : decode cX10_pack 1 = .ok (.istore_n 1, 1) := by decide +kernel
theorem dX10_pack_2 : decode cX10_pack 2 = .ok (.iconst 0, 1) := by decide +kernel
theorem dX10_pack_3 : decode cX10_pack 3 = .ok (.istore_n 2, 1) := by decide +kernel
theorem dX10_pack_4 : decode cX10_pack 4 = .ok (.aload_n 0, 1) := by decide +kernel
theorem dX10_pack_5 : decode cX10_pack 5 = .ok (.iconst 0, 1) := by decide +kernel
theorem dX10_pack_6 : decode cX10_pack 6 = .ok (.invokevirtual 80, 3) := by decide +kernel
theorem dX10_pack_9 : decode cX10_pack 9 = .ok (.istore_n 3, 1) := by decide +kernel
theorem dX10_pack_10 : decode cX10_pack 10 = .ok (.iload_n 3, 1) := by decide +kernel
theorem dX10_pack_11 : decode cX10_pack 11 = .ok (.iconst (-1), 1) := by decide +kernel
theorem dX10_pack_12 : decode cX10_pack 12 = .ok (.if_icmp .eq 113, 3) := by decide +kernel
theorem dX10_pack_15 : decode cX10_pack 15 = .ok (.aload_n 0, 1) := by decide +kernel
theorem dX10_pack_16 : decode cX10_pack 16 = .ok (.iload_n 3, 1) := by decide +kernel
theorem dX10_pack_17 : decode cX10_pack 17 = .ok (.invokevirtual 83, 3) := by decide +kernel
theorem dX10_pack_20 : decode cX10_pack 20 = .ok (.istore 4, 2) := by decide +kernel
theorem dX10_pack_22 : decode cX10_pack 22 = .ok (.aload_n 0, 1) := by decide +kernel
theorem dX10_pack_23 : decode cX10_pack 23 = .ok (.iload_n 3, 1) := by decide +kernel
theorem dX10_pack_24 : decode cX10_pack 24 = .ok (.invokevirtual 86, 3) := by decide +kernel
theorem dX10_pack_27 : decode cX10_pack 27 = .ok (.istore 5, 2) := by decide +kernel
theorem dX10_pack_29 : decode cX10_pack 29 = .ok (.iconst 0, 1) := by decide +kernel
theorem dX10_pack_30 : decode cX10_pack 30 = .ok (.istore 6, 2) := by decide +kernel
theorem dX10_pack_32 : decode cX10_pack 32 = .ok (.iload 6, 2) := by decide +kernel
theorem dX10_pack_34 : decode cX10_pack 34 = .ok (.iload 5, 2) := by decide +kernel
theorem dX10_pack_36 : decode cX10_pack 36 = .ok (.if_icmp .ge 34, 3) := by decide +kernel
theorem dX10_pack_39 : decode cX10_pack 39 = .ok (.iload 4, 2) := by decide +kernel
theorem dX10_pack_41 : decode cX10_pack 41 = .ok (.iload_n 1, 1) := by decide +kernel
theorem dX10_pack_42 : decode cX10_pack 42 = .ok (.if_icmp .eq 28, 3) := by decide +kernel
theorem dX10_pack_45 : decode cX10_pack 45 = .ok (.aload_n 0, 1) := by decide +kernel
theorem dX10_pack_46 : decode cX10_pack 46 = .ok (.getfield 69, 3) := by decide +kernel
theorem dX10_pack_49 : decode cX10_pack 49 = .ok (.iload_n 1, 1) := by decide +kernel
theorem dX10_pack_50 : decode cX10_pack 50 = .ok (.iload 6, 2) := by decide +kernel
theorem dX10_pack_52 : decode cX10_pack 52 = .ok (.iadd, 1) := by decide +kernel
theorem dX10_pack_53 : decode cX10_pack 53 = .ok (.aload_n 0, 1) := by decide +kernel
theorem dX10_pack_54 : decode cX10_pack 54 = .ok (.getfield 69, 3) := by decide +kernel
theorem dX10_pack_57 : decode cX10_pack 57 = .ok (.iload 4, 2) := by decide +kernel
theorem dX10_pack_59 : decode cX10_pack 59 = .ok (.iload 6, 2) := by decide +kernel
theorem dX10_pack_61 : decode cX10_pack 61 = .ok (.iadd, 1) := by decide +kernel
theorem dX10_pack_62 : decode cX10_pack 62 = .ok (.iaload, 1) := by decide +kernel
theorem dX10_pack_63 : decode cX10_pack 63 = .ok (.iastore, 1) := by decide +kernel
theorem dX10_pack_64 : decode cX10_pack 64 = .ok (.iinc 6 1, 3) := by decide +kernel
theorem dX10_pack_67 : decode cX10_pack 67 = .ok (.goto (-35), 3) := by decide +kernel
theorem dX10_pack_70 : decode cX10_pack 70 = .ok (.iload 4, 2) := by decide +kernel
theorem dX10_pack_72 : decode cX10_pack 72 = .ok (.iload_n 1, 1) := by decide +kernel
theorem dX10_pack_73 : decode cX10_pack 73 = .ok (.if_icmp .eq 8, 3) := by decide +kernel
theorem dX10_pack_76 : decode cX10_pack 76 = .ok (.iload_n 2, 1) := by decide +kernel
theorem dX10_pack_77 : decode cX10_pack 77 = .ok (.iload 5, 2) := by decide +kernel
theorem dX10_pack_79 : decode cX10_pack 79 = .ok (.iadd, 1) := by decide +kernel
theorem dX10_pack_80 : decode cX10_pack 80 = .ok (.istore_n 2, 1) := by decide +kernel
theorem dX10_pack_81 : decode cX10_pack 81 = .ok (.iload_n 3, 1) := by decide +kernel
theorem dX10_pack_82 : decode cX10_pack 82 = .ok (.bipush 100, 2) := by decide +kernel
theorem dX10_pack_84 : decode cX10_pack 84 = .ok (.if_icmp .lt 16, 3) := by decide +kernel
theorem dX10_pack_87 : decode cX10_pack 87 = .ok (.aload_n 0, 1) := by decide +kernel
theorem dX10_pack_88 : decode cX10_pack 88 = .ok (.getfield 28, 3) := by decide +kernel
theorem dX10_pack_91 : decode cX10_pack 91 = .ok (.iload_n 3, 1) := by decide +kernel
theorem dX10_pack_92 : decode cX10_pack 92 = .ok (.bipush 100, 2) := by decide +kernel
theorem dX10_pack_94 : decode cX10_pack 94 = .ok (.isub, 1) := by decide +kernel
theorem dX10_pack_95 : decode cX10_pack 95 = .ok (.iload_n 1, 1) := by decide +kernel
theorem dX10_pack_96 : decode cX10_pack 96 = .ok (.iastore, 1) := by decide +kernel
theorem dX10_pack_97 : decode cX10_pack 97 = .ok (.goto 10, 3) := by decide +kernel
theorem dX10_pack_100 : decode cX10_pack 100 = .ok (.aload_n 0, 1) := by decide +kernel
theorem dX10_pack_101 : decode cX10_pack 101 = .ok (.getfield 25, 3) := by decide +kernel
theorem dX10_pack_104 : decode cX10_pack 104 = .ok (.iload_n 3, 1) := by decide +kernel
theorem dX10_pack_105 : decode cX10_pack 105 = .ok (.iload_n 1, 1) := by decide +kernel
theorem dX10_pack_106 : decode cX10_pack 106 = .ok (.iastore, 1) := by decide +kernel
theorem dX10_pack_107 : decode cX10_pack 107 = .ok (.iload_n 1, 1) := by decide +kernel
theorem dX10_pack_108 : decode cX10_pack 108 = .ok (.iload 5, 2) := by decide +kernel
theorem dX10_pack_110 : decode cX10_pack 110 = .ok (.iadd, 1) := by decide +kernel
theorem dX10_pack_111 : decode cX10_pack 111 = .ok (.istore_n 1, 1) := by decide +kernel
theorem dX10_pack_112 : decode cX10_pack 112 = .ok (.aload_n 0, 1) := by decide +kernel
theorem dX10_pack_113 : decode cX10_pack 113 = .ok (.iload 4, 2) := by decide +kernel
theorem dX10_pack_115 : decode cX10_pack 115 = .ok (.iload 5, 2) := by decide +kernel
theorem dX10_pack_117 : decode cX10_pack 117 = .ok (.iadd, 1) := by decide +kernel
theorem dX10_pack_118 : decode cX10_pack 118 = .ok (.invokevirtual 80, 3) := by decide +kernel
theorem dX10_pack_121 : decode cX10_pack 121 = .ok (.istore_n 3, 1) := by decide +kernel
theorem dX10_pack_122 : decode cX10_pack 122 = .ok (.goto (-112), 3) := by decide +kernel
theorem dX10_pack_125 : decode cX10_pack 125 = .ok (.iload_n 2, 1) := by decide +kernel
theorem dX10_pack_126 : decode cX10_pack 126 = .ok (.ireturn, 1) := by decide +kernel
theorem dX10_takesUp_0 : decode cX10_takesUp 0 = .ok (.aload_n 0, 1) := by decide +kernel
theorem dX10_takesUp_1 : decode cX10_takesUp 1 = .ok (.iload_n 1, 1) := by decide +kernel
theorem dX10_takesUp_2 : decode cX10_takesUp 2 = .ok (.putfield 119, 3) := by decide +kernel
theorem dX10_takesUp_5 : decode cX10_takesUp 5 = .ok (.aload_n 0, 1) := by decide +kernel
theorem dX10_takesUp_6 : decode cX10_takesUp 6 = .ok (.aload_n 0, 1) := by decide +kernel
theorem dX10_takesUp_7 : decode cX10_takesUp 7 = .ok (.getfield 13, 3) := by decide +kernel
theorem dX10_takesUp_10 : decode cX10_takesUp 10 = .ok (.iload_n 1, 1) := by decide +kernel
theorem dX10_takesUp_11 : decode cX10_takesUp 11 = .ok (.iaload, 1) := by decide +kernel
theorem dX10_takesUp_12 : decode cX10_takesUp 12 = .ok (.putfield 122, 3) := by decide +kernel
theorem dX10_takesUp_15 : decode cX10_takesUp 15 = .ok (.bipush 10, 2) := by decide +kernel
theorem dX10_takesUp_17 : decode cX10_takesUp 17 = .ok (.iload_n 1, 1) := by decide +kernel
theorem dX10_takesUp_18 : decode cX10_takesUp 18 = .ok (.imul, 1) := by decide +kernel
theorem dX10_takesUp_19 : decode cX10_takesUp 19 = .ok (.istore_n 2, 1) := by decide +kernel
theorem dX10_takesUp_20 : decode cX10_takesUp 20 = .ok (.aload_n 0, 1) := by decide +kernel
theorem dX10_takesUp_21 : decode cX10_takesUp 21 = .ok (.aload_n 0, 1) := by decide +kernel
theorem dX10_takesUp_22 : decode cX10_takesUp 22 = .ok (.getfield 47, 3) := by decide +kernel
theorem dX10_takesUp_25 : decode cX10_takesUp 25 = .ok (.iload_n 2, 1) := by decide +kernel
theorem dX10_takesUp_26 : decode cX10_takesUp 26 = .ok (.iaload, 1) := by decide +kernel
theorem dX10_takesUp_27 : decode cX10_takesUp 27 = .ok (.putfield 125, 3) := by decide +kernel
theorem dX10_takesUp_30 : decode cX10_takesUp 30 = .ok (.aload_n 0, 1) := by decide +kernel
theorem dX10_takesUp_31 : decode cX10_takesUp 31 = .ok (.aload_n 0, 1) := by decide +kernel
theorem dX10_takesUp_32 : decode cX10_takesUp 32 = .ok (.getfield 47, 3) := by decide +kernel
theorem dX10_takesUp_35 : decode cX10_takesUp 35 = .ok (.iload_n 2, 1) := by decide +kernel
theorem dX10_takesUp_36 : decode cX10_takesUp 36 = .ok (.iconst 1, 1) := by decide +kernel
theorem dX10_takesUp_37 : decode cX10_takesUp 37 = .ok (.iadd, 1) := by decide +kernel
theorem dX10_takesUp_38 : decode cX10_takesUp 38 = .ok (.iaload, 1) := by decide +kernel
theorem dX10_takesUp_39 : decode cX10_takesUp 39 = .ok (.putfield 128, 3) := by decide +kernel
theorem dX10_takesUp_42 : decode cX10_takesUp 42 = .ok (.aload_n 0, 1) := by decide +kernel
theorem dX10_takesUp_43 : decode cX10_takesUp 43 = .ok (.aload_n 0, 1) := by decide +kernel
theorem dX10_takesUp_44 : decode cX10_takesUp 44 = .ok (.getfield 47, 3) := by decide +kernel
theorem dX10_takesUp_47 : decode cX10_takesUp 47 = .ok (.iload_n 2, 1) := by decide +kernel
theorem dX10_takesUp_48 : decode cX10_takesUp 48 = .ok (.iconst 2, 1) := by decide +kernel
theorem dX10_takesUp_49 : decode cX10_takesUp 49 = .ok (.iadd, 1) := by decide +kernel
theorem dX10_takesUp_50 : decode cX10_takesUp 50 = .ok (.iaload, 1) := by decide +kernel
theorem dX10_takesUp_51 : decode cX10_takesUp 51 = .ok (.putfield 131, 3) := by decide +kernel
theorem dX10_takesUp_54 : decode cX10_takesUp 54 = .ok (.aload_n 0, 1) := by decide +kernel
theorem dX10_takesUp_55 : decode cX10_takesUp 55 = .ok (.aload_n 0, 1) := by decide +kernel
theorem dX10_takesUp_56 : decode cX10_takesUp 56 = .ok (.getfield 47, 3) := by decide +kernel
theorem dX10_takesUp_59 : decode cX10_takesUp 59 = .ok (.iload_n 2, 1) := by decide +kernel
theorem dX10_takesUp_60 : decode cX10_takesUp 60 = .ok (.iconst 3, 1) := by decide +kernel
theorem dX10_takesUp_61 : decode cX10_takesUp 61 = .ok (.iadd, 1) := by decide +kernel
theorem dX10_takesUp_62 : decode cX10_takesUp 62 = .ok (.iaload, 1) := by decide +kernel
theorem dX10_takesUp_63 : decode cX10_takesUp 63 = .ok (.putfield 134, 3) := by decide +kernel
theorem dX10_takesUp_66 : decode cX10_takesUp 66 = .ok (.aload_n 0, 1) := by decide +kernel
theorem dX10_takesUp_67 : decode cX10_takesUp 67 = .ok (.aload_n 0, 1) := by decide +kernel
theorem dX10_takesUp_68 : decode cX10_takesUp 68 = .ok (.getfield 47, 3) := by decide +kernel
theorem dX10_takesUp_71 : decode cX10_takesUp 71 = .ok (.iload_n 2, 1) := by decide +kernel
theorem dX10_takesUp_72 : decode cX10_takesUp 72 = .ok (.iconst 4, 1) := by decide +kernel
theorem dX10_takesUp_73 : decode cX10_takesUp 73 = .ok (.iadd, 1) := by decide +kernel
theorem dX10_takesUp_74 : decode cX10_takesUp 74 = .ok (.iaload, 1) := by decide +kernel
theorem dX10_takesUp_75 : decode cX10_takesUp 75 = .ok (.putfield 137, 3) := by decide +kernel
theorem dX10_takesUp_78 : decode cX10_takesUp 78 = .ok (.aload_n 0, 1) := by decide +kernel
theorem dX10_takesUp_79 : decode cX10_takesUp 79 = .ok (.aload_n 0, 1) := by decide +kernel
theorem dX10_takesUp_80 : decode cX10_takesUp 80 = .ok (.getfield 47, 3) := by decide +kernel
theorem dX10_takesUp_83 : decode cX10_takesUp 83 = .ok (.iload_n 2, 1) := by decide +kernel
theorem dX10_takesUp_84 : decode cX10_takesUp 84 = .ok (.iconst 5, 1) := by decide +kernel
theorem dX10_takesUp_85 : decode cX10_takesUp 85 = .ok (.iadd, 1) := by decide +kernel
theorem dX10_takesUp_86 : decode cX10_takesUp 86 = .ok (.iaload, 1) := by decide +kernel
theorem dX10_takesUp_87 : decode cX10_takesUp 87 = .ok (.putfield 140, 3) := by decide +kernel
theorem dX10_takesUp_90 : decode cX10_takesUp 90 = .ok (.aload_n 0, 1) := by decide +kernel
theorem dX10_takesUp_91 : decode cX10_takesUp 91 = .ok (.aload_n 0, 1) := by decide +kernel
theorem dX10_takesUp_92 : decode cX10_takesUp 92 = .ok (.getfield 47, 3) := by decide +kernel
theorem dX10_takesUp_95 : decode cX10_takesUp 95 = .ok (.iload_n 2, 1) := by decide +kernel
theorem dX10_takesUp_96 : decode cX10_takesUp 96 = .ok (.bipush 6, 2) := by decide +kernel
theorem dX10_takesUp_98 : decode cX10_takesUp 98 = .ok (.iadd, 1) := by decide +kernel
theorem dX10_takesUp_99 : decode cX10_takesUp 99 = .ok (.iaload, 1) := by decide +kernel
theorem dX10_takesUp_100 : decode cX10_takesUp 100 = .ok (.putfield 143, 3) := by decide +kernel
theorem dX10_takesUp_103 : decode cX10_takesUp 103 = .ok (.aload_n 0, 1) := by decide +kernel
theorem dX10_takesUp_104 : decode cX10_takesUp 104 = .ok (.aload_n 0, 1) := by decide +kernel
theorem dX10_takesUp_105 : decode cX10_takesUp 105 = .ok (.getfield 47, 3) := by decide +kernel
theorem dX10_takesUp_108 : decode cX10_takesUp 108 = .ok (.iload_n 2, 1) := by decide +kernel
theorem dX10_takesUp_109 : decode cX10_takesUp 109 = .ok (.bipush 7, 2) := by decide +kernel
theorem dX10_takesUp_111 : decode cX10_takesUp 111 = .ok (.iadd, 1) := by decide +kernel
theorem dX10_takesUp_112 : decode cX10_takesUp 112 = .ok (.iaload, 1) := by decide +kernel
theorem dX10_takesUp_113 : decode cX10_takesUp 113 = .ok (.putfield 146, 3) := by decide +kernel
theorem dX10_takesUp_116 : decode cX10_takesUp 116 = .ok (.aload_n 0, 1) := by decide +kernel
theorem dX10_takesUp_117 : decode cX10_takesUp 117 = .ok (.aload_n 0, 1) := by decide +kernel
theorem dX10_takesUp_118 : decode cX10_takesUp 118 = .ok (.getfield 47, 3) := by decide +kernel
theorem dX10_takesUp_121 : decode cX10_takesUp 121 = .ok (.iload_n 2, 1) := by decide +kernel
theorem dX10_takesUp_122 : decode cX10_takesUp 122 = .ok (.bipush 8, 2) := by decide +kernel
theorem dX10_takesUp_124 : decode cX10_takesUp 124 = .ok (.iadd, 1) := by decide +kernel
theorem dX10_takesUp_125 : decode cX10_takesUp 125 = .ok (.iaload, 1) := by decide +kernel
theorem dX10_takesUp_126 : decode cX10_takesUp 126 = .ok (.putfield 149, 3) := by decide +kernel
theorem dX10_takesUp_129 : decode cX10_takesUp 129 = .ok (.aload_n 0, 1) := by decide +kernel
theorem dX10_takesUp_130 : decode cX10_takesUp 130 = .ok (.aload_n 0, 1) := by decide +kernel
theorem dX10_takesUp_131 : decode cX10_takesUp 131 = .ok (.getfield 47, 3) := by decide +kernel
theorem dX10_takesUp_134 : decode cX10_takesUp 134 = .ok (.iload_n 2, 1) := by decide +kernel
theorem dX10_takesUp_135 : decode cX10_takesUp 135 = .ok (.bipush 9, 2) := by decide +kernel
theorem dX10_takesUp_137 : decode cX10_takesUp 137 = .ok (.iadd, 1) := by decide +kernel
theorem dX10_takesUp_138 : decode cX10_takesUp 138 = .ok (.iaload, 1) := by decide +kernel
theorem dX10_takesUp_139 : decode cX10_takesUp 139 = .ok (.putfield 152, 3) := by decide +kernel
theorem dX10_takesUp_142 : decode cX10_takesUp 142 = .ok (.return_, 1) := by decide +kernel
theorem dX10_putsBy_0 : decode cX10_putsBy 0 = .ok (.bipush 10, 2) := by decide +kernel
theorem dX10_putsBy_2 : decode cX10_putsBy 2 = .ok (.aload_n 0, 1) := by decide +kernel
theorem dX10_putsBy_3 : decode cX10_putsBy 3 = .ok (.getfield 119, 3) := by decide +kernel
theorem dX10_putsBy_6 : decode cX10_putsBy 6 = .ok (.imul, 1) := by decide +kernel
theorem dX10_putsBy_7 : decode cX10_putsBy 7 = .ok (.istore_n 1, 1) := by decide +kernel
theorem dX10_putsBy_8 : decode cX10_putsBy 8 = .ok (.aload_n 0, 1) := by decide +kernel
theorem dX10_putsBy_9 : decode cX10_putsBy 9 = .ok (.getfield 47, 3) := by decide +kernel
theorem dX10_putsBy_12 : decode cX10_putsBy 12 = .ok (.iload_n 1, 1) := by decide +kernel
theorem dX10_putsBy_13 : decode cX10_putsBy 13 = .ok (.aload_n 0, 1) := by decide +kernel
theorem dX10_putsBy_14 : decode cX10_putsBy 14 = .ok (.getfield 125, 3) := by decide +kernel
theorem dX10_putsBy_17 : decode cX10_putsBy 17 = .ok (.iastore, 1) := by decide +kernel
theorem dX10_putsBy_18 : decode cX10_putsBy 18 = .ok (.aload_n 0, 1) := by decide +kernel
theorem dX10_putsBy_19 : decode cX10_putsBy 19 = .ok (.getfield 47, 3) := by decide +kernel
theorem dX10_putsBy_22 : decode cX10_putsBy 22 = .ok (.iload_n 1, 1) := by decide +kernel
theorem dX10_putsBy_23 : decode cX10_putsBy 23 = .ok (.iconst 1, 1) := by decide +kernel
theorem dX10_putsBy_24 : decode cX10_putsBy 24 = .ok (.iadd, 1) := by decide +kernel
theorem dX10_putsBy_25 : decode cX10_putsBy 25 = .ok (.aload_n 0, 1) := by decide +kernel
theorem dX10_putsBy_26 : decode cX10_putsBy 26 = .ok (.getfield 128, 3) := by decide +kernel
theorem dX10_putsBy_29 : decode cX10_putsBy 29 = .ok (.iastore, 1) := by decide +kernel
theorem dX10_putsBy_30 : decode cX10_putsBy 30 = .ok (.aload_n 0, 1) := by decide +kernel
theorem dX10_putsBy_31 : decode cX10_putsBy 31 = .ok (.getfield 47, 3) := by decide +kernel
theorem dX10_putsBy_34 : decode cX10_putsBy 34 = .ok (.iload_n 1, 1) := by decide +kernel
theorem dX10_putsBy_35 : decode cX10_putsBy 35 = .ok (.iconst 2, 1) := by decide +kernel
theorem dX10_putsBy_36 : decode cX10_putsBy 36 = .ok (.iadd, 1) := by decide +kernel
theorem dX10_putsBy_37 : decode cX10_putsBy 37 = .ok (.aload_n 0, 1) := by decide +kernel
theorem dX10_putsBy_38 : decode cX10_putsBy 38 = .ok (.getfield 131, 3) := by decide +kernel
theorem dX10_putsBy_41 : decode cX10_putsBy 41 = .ok (.iastore, 1) := by decide +kernel
theorem dX10_putsBy_42 : decode cX10_putsBy 42 = .ok (.aload_n 0, 1) := by decide +kernel
theorem dX10_putsBy_43 : decode cX10_putsBy 43 = .ok (.getfield 47, 3) := by decide +kernel
theorem dX10_putsBy_46 : decode cX10_putsBy 46 = .ok (.iload_n 1, 1) := by decide +kernel
theorem dX10_putsBy_47 : decode cX10_putsBy 47 = .ok (.iconst 3, 1) := by decide +kernel
theorem dX10_putsBy_48 : decode cX10_putsBy 48 = .ok (.iadd, 1) := by decide +kernel
theorem dX10_putsBy_49 : decode cX10_putsBy 49 = .ok (.aload_n 0, 1) := by decide +kernel
theorem dX10_putsBy_50 : decode cX10_putsBy 50 = .ok (.getfield 134, 3) := by decide +kernel
theorem dX10_putsBy_53 : decode cX10_putsBy 53 = .ok (.iastore, 1) := by decide +kernel
theorem dX10_putsBy_54 : decode cX10_putsBy 54 = .ok (.aload_n 0, 1) := by decide +kernel
theorem dX10_putsBy_55 : decode cX10_putsBy 55 = .ok (.getfield 47, 3) := by decide +kernel
theorem dX10_putsBy_58 : decode cX10_putsBy 58 = .ok (.iload_n 1, 1) := by decide +kernel
theorem dX10_putsBy_59 : decode cX10_putsBy 59 = .ok (.iconst 4, 1) := by decide +kernel
theorem dX10_putsBy_60 : decode cX10_putsBy 60 = .ok (.iadd, 1) := by decide +kernel
theorem dX10_putsBy_61 : decode cX10_putsBy 61 = .ok (.aload_n 0, 1) := by decide +kernel
theorem dX10_putsBy_62 : decode cX10_putsBy 62 = .ok (.getfield 137, 3) := by decide +kernel
theorem dX10_putsBy_65 : decode cX10_putsBy 65 = .ok (.iastore, 1) := by decide +kernel
theorem dX10_putsBy_66 : decode cX10_putsBy 66 = .ok (.aload_n 0, 1) := by decide +kernel
theorem dX10_putsBy_67 : decode cX10_putsBy 67 = .ok (.getfield 47, 3) := by decide +kernel
theorem dX10_putsBy_70 : decode cX10_putsBy 70 = .ok (.iload_n 1, 1) := by decide +kernel
theorem dX10_putsBy_71 : decode cX10_putsBy 71 = .ok (.iconst 5, 1) := by decide +kernel
theorem dX10_putsBy_72 : decode cX10_putsBy 72 = .ok (.iadd, 1) := by decide +kernel
theorem dX10_putsBy_73 : decode cX10_putsBy 73 = .ok (.aload_n 0, 1) := by decide +kernel
theorem dX10_putsBy_74 : decode cX10_putsBy 74 = .ok (.getfield 140, 3) := by decide +kernel
theorem dX10_putsBy_77 : decode cX10_putsBy 77 = .ok (.iastore, 1) := by decide +kernel
theorem dX10_putsBy_78 : decode cX10_putsBy 78 = .ok (.aload_n 0, 1) := by decide +kernel
theorem dX10_putsBy_79 : decode cX10_putsBy 79 = .ok (.getfield 47, 3) := by decide +kernel
theorem dX10_putsBy_82 : decode cX10_putsBy 82 = .ok (.iload_n 1, 1) := by decide +kernel
theorem dX10_putsBy_83 : decode cX10_putsBy 83 = .ok (.bipush 6, 2) := by decide +kernel
theorem dX10_putsBy_85 : decode cX10_putsBy 85 = .ok (.iadd, 1) := by decide +kernel
theorem dX10_putsBy_86 : decode cX10_putsBy 86 = .ok (.aload_n 0, 1) := by decide +kernel
theorem dX10_putsBy_87 : decode cX10_putsBy 87 = .ok (.getfield 143, 3) := by decide +kernel
theorem dX10_putsBy_90 : decode cX10_putsBy 90 = .ok (.iastore, 1) := by decide +kernel
theorem dX10_putsBy_91 : decode cX10_putsBy 91 = .ok (.aload_n 0, 1) := by decide +kernel
theorem dX10_putsBy_92 : decode cX10_putsBy 92 = .ok (.getfield 47, 3) := by decide +kernel
theorem dX10_putsBy_95 : decode cX10_putsBy 95 = .ok (.iload_n 1, 1) := by decide +kernel
theorem dX10_putsBy_96 : decode cX10_putsBy 96 = .ok (.bipush 7, 2) := by decide +kernel
theorem dX10_putsBy_98 : decode cX10_putsBy 98 = .ok (.iadd, 1) := by decide +kernel
theorem dX10_putsBy_99 : decode cX10_putsBy 99 = .ok (.aload_n 0, 1) := by decide +kernel
theorem dX10_putsBy_100 : decode cX10_putsBy 100 = .ok (.getfield 146, 3) := by decide +kernel
theorem dX10_putsBy_103 : decode cX10_putsBy 103 = .ok (.iastore, 1) := by decide +kernel
theorem dX10_putsBy_104 : decode cX10_putsBy 104 = .ok (.aload_n 0, 1) := by decide +kernel
theorem dX10_putsBy_105 : decode cX10_putsBy 105 = .ok (.getfield 47, 3) := by decide +kernel
theorem dX10_putsBy_108 : decode cX10_putsBy 108 = .ok (.iload_n 1, 1) := by decide +kernel
theorem dX10_putsBy_109 : decode cX10_putsBy 109 = .ok (.bipush 8, 2) := by decide +kernel
theorem dX10_putsBy_111 : decode cX10_putsBy 111 = .ok (.iadd, 1) := by decide +kernel
theorem dX10_putsBy_112 : decode cX10_putsBy 112 = .ok (.aload_n 0, 1) := by decide +kernel
theorem dX10_putsBy_113 : decode cX10_putsBy 113 = .ok (.getfield 149, 3) := by decide +kernel
theorem dX10_putsBy_116 : decode cX10_putsBy 116 = .ok (.iastore, 1) := by decide +kernel
theorem dX10_putsBy_117 : decode cX10_putsBy 117 = .ok (.aload_n 0, 1) := by decide +kernel
theorem dX10_putsBy_118 : decode cX10_putsBy 118 = .ok (.getfield 47, 3) := by decide +kernel
theorem dX10_putsBy_121 : decode cX10_putsBy 121 = .ok (.iload_n 1, 1) := by decide +kernel
theorem dX10_putsBy_122 : decode cX10_putsBy 122 = .ok (.bipush 9, 2) := by decide +kernel
theorem dX10_putsBy_124 : decode cX10_putsBy 124 = .ok (.iadd, 1) := by decide +kernel
theorem dX10_putsBy_125 : decode cX10_putsBy 125 = .ok (.aload_n 0, 1) := by decide +kernel
theorem dX10_putsBy_126 : decode cX10_putsBy 126 = .ok (.getfield 152, 3) := by decide +kernel
theorem dX10_putsBy_129 : decode cX10_putsBy 129 = .ok (.iastore, 1) := by decide +kernel
theorem dX10_putsBy_130 : decode cX10_putsBy 130 = .ok (.return_, 1) := by decide +kernel
theorem dX10_at_0 : decode cX10_at 0 = .ok (.aload_n 0, 1) := by decide +kernel
theorem dX10_at_1 : decode cX10_at 1 = .ok (.getfield 69, 3) := by decide +kernel
theorem dX10_at_4 : decode cX10_at 4 = .ok (.aload_n 0, 1) := by decide +kernel
theorem dX10_at_5 : decode cX10_at 5 = .ok (.getfield 25, 3) := by decide +kernel
theorem dX10_at_8 : decode cX10_at 8 = .ok (.aload_n 0, 1) := by decide +kernel
theorem dX10_at_9 : decode cX10_at 9 = .ok (.getfield 119, 3) := by decide +kernel
theorem dX10_at_12 : decode cX10_at 12 = .ok (.iaload, 1) := by decide +kernel
theorem dX10_at_13 : decode cX10_at 13 = .ok (.iload_n 1, 1) := by decide +kernel
theorem dX10_at_14 : decode cX10_at 14 = .ok (.iadd, 1) := by decide +kernel
theorem dX10_at_15 : decode cX10_at 15 = .ok (.iaload, 1) := by decide +kernel
theorem dX10_at_16 : decode cX10_at 16 = .ok (.ireturn, 1) := by decide +kernel
theorem dX10_change_0 : decode cX10_change 0 = .ok (.aload_n 0, 1) := by decide +kernel
theorem dX10_change_1 : decode cX10_change 1 = .ok (.getfield 69, 3) := by decide +kernel
theorem dX10_change_4 : decode cX10_change 4 = .ok (.aload_n 0, 1) := by decide +kernel
theorem dX10_change_5 : decode cX10_change 5 = .ok (.getfield 25, 3) := by decide +kernel
theorem dX10_change_8 : decode cX10_change 8 = .ok (.aload_n 0, 1) := by decide +kernel
theorem dX10_change_9 : decode cX10_change 9 = .ok (.getfield 119, 3) := by decide +kernel
theorem dX10_change_12 : decode cX10_change 12 = .ok (.iaload, 1) := by decide +kernel
theorem dX10_change_13 : decode cX10_change 13 = .ok (.iload_n 1, 1) := by decide +kernel
theorem dX10_change_14 : decode cX10_change 14 = .ok (.iadd, 1) := by decide +kernel
theorem dX10_change_15 : decode cX10_change 15 = .ok (.iaload, 1) := by decide +kernel
theorem dX10_change_16 : decode cX10_change 16 = .ok (.istore_n 3, 1) := by decide +kernel
theorem dX10_change_17 : decode cX10_change 17 = .ok (.aload_n 0, 1) := by decide +kernel
theorem dX10_change_18 : decode cX10_change 18 = .ok (.getfield 69, 3) := by decide +kernel
theorem dX10_change_21 : decode cX10_change 21 = .ok (.aload_n 0, 1) := by decide +kernel
theorem dX10_change_22 : decode cX10_change 22 = .ok (.getfield 25, 3) := by decide +kernel
theorem dX10_change_25 : decode cX10_change 25 = .ok (.aload_n 0, 1) := by decide +kernel
theorem dX10_change_26 : decode cX10_change 26 = .ok (.getfield 119, 3) := by decide +kernel
theorem dX10_change_29 : decode cX10_change 29 = .ok (.iaload, 1) := by decide +kernel
theorem dX10_change_30 : decode cX10_change 30 = .ok (.iload_n 1, 1) := by decide +kernel
theorem dX10_change_31 : decode cX10_change 31 = .ok (.iadd, 1) := by decide +kernel
theorem dX10_change_32 : decode cX10_change 32 = .ok (.aload_n 0, 1) := by decide +kernel
theorem dX10_change_33 : decode cX10_change 33 = .ok (.getfield 69, 3) := by decide +kernel
theorem dX10_change_36 : decode cX10_change 36 = .ok (.aload_n 0, 1) := by decide +kernel
theorem dX10_change_37 : decode cX10_change 37 = .ok (.getfield 25, 3) := by decide +kernel
theorem dX10_change_40 : decode cX10_change 40 = .ok (.aload_n 0, 1) := by decide +kernel
theorem dX10_change_41 : decode cX10_change 41 = .ok (.getfield 119, 3) := by decide +kernel
theorem dX10_change_44 : decode cX10_change 44 = .ok (.iaload, 1) := by decide +kernel
theorem dX10_change_45 : decode cX10_change 45 = .ok (.iload_n 2, 1) := by decide +kernel
theorem dX10_change_46 : decode cX10_change 46 = .ok (.iadd, 1) := by decide +kernel
theorem dX10_change_47 : decode cX10_change 47 = .ok (.iaload, 1) := by decide +kernel
theorem dX10_change_48 : decode cX10_change 48 = .ok (.iastore, 1) := by decide +kernel
theorem dX10_change_49 : decode cX10_change 49 = .ok (.aload_n 0, 1) := by decide +kernel
theorem dX10_change_50 : decode cX10_change 50 = .ok (.getfield 69, 3) := by decide +kernel
theorem dX10_change_53 : decode cX10_change 53 = .ok (.aload_n 0, 1) := by decide +kernel
theorem dX10_change_54 : decode cX10_change 54 = .ok (.getfield 25, 3) := by decide +kernel
theorem dX10_change_57 : decode cX10_change 57 = .ok (.aload_n 0, 1) := by decide +kernel
theorem dX10_change_58 : decode cX10_change 58 = .ok (.getfield 119, 3) := by decide +kernel
theorem dX10_change_61 : decode cX10_change 61 = .ok (.iaload, 1) := by decide +kernel
theorem dX10_change_62 : decode cX10_change 62 = .ok (.iload_n 2, 1) := by decide +kernel
theorem dX10_change_63 : decode cX10_change 63 = .ok (.iadd, 1) := by decide +kernel
theorem dX10_change_64 : decode cX10_change 64 = .ok (.iload_n 3, 1) := by decide +kernel
theorem dX10_change_65 : decode cX10_change 65 = .ok (.iastore, 1) := by decide +kernel
theorem dX10_change_66 : decode cX10_change 66 = .ok (.return_, 1) := by decide +kernel
theorem dX10_begins_0 : decode cX10_begins 0 = .ok (.aload_n 0, 1) := by decide +kernel
theorem dX10_begins_1 : decode cX10_begins 1 = .ok (.getfield 16, 3) := by decide +kernel
theorem dX10_begins_4 : decode cX10_begins 4 = .ok (.aload_n 0, 1) := by decide +kernel
theorem dX10_begins_5 : decode cX10_begins 5 = .ok (.getfield 119, 3) := by decide +kernel
theorem dX10_begins_8 : decode cX10_begins 8 = .ok (.iaload, 1) := by decide +kernel
theorem dX10_begins_9 : decode cX10_begins 9 = .ok (.tableswitch 68 0 3 #[31, 49, 54, 59], 31) := by decide +kernel
theorem dX10_begins_40 : decode cX10_begins 40 = .ok (.aload_n 0, 1) := by decide +kernel
theorem dX10_begins_41 : decode cX10_begins 41 = .ok (.aload_n 0, 1) := by decide +kernel
theorem dX10_begins_42 : decode cX10_begins 42 = .ok (.getfield 122, 3) := by decide +kernel
theorem dX10_begins_45 : decode cX10_begins 45 = .ok (.iconst 1, 1) := by decide +kernel
theorem dX10_begins_46 : decode cX10_begins 46 = .ok (.if_icmp .le 7, 3) := by decide +kernel
theorem dX10_begins_49 : decode cX10_begins 49 = .ok (.iconst 1, 1) := by decide +kernel
theorem dX10_begins_50 : decode cX10_begins 50 = .ok (.goto 4, 3) := by decide +kernel
theorem dX10_begins_53 : decode cX10_begins 53 = .ok (.iconst 0, 1) := by decide +kernel
theorem dX10_begins_54 : decode cX10_begins 54 = .ok (.invokevirtual 155, 3) := by decide +kernel
theorem dX10_begins_57 : decode cX10_begins 57 = .ok (.ireturn, 1) := by decide +kernel
theorem dX10_begins_58 : decode cX10_begins 58 = .ok (.aload_n 0, 1) := by decide +kernel
theorem dX10_begins_59 : decode cX10_begins 59 = .ok (.invokevirtual 158, 3) := by decide +kernel
theorem dX10_begins_62 : decode cX10_begins 62 = .ok (.ireturn, 1) := by decide +kernel
theorem dX10_begins_63 : decode cX10_begins 63 = .ok (.aload_n 0, 1) := by decide +kernel
theorem dX10_begins_64 : decode cX10_begins 64 = .ok (.invokevirtual 161, 3) := by decide +kernel
theorem dX10_begins_67 : decode cX10_begins 67 = .ok (.ireturn, 1) := by decide +kernel
theorem dX10_begins_68 : decode cX10_begins 68 = .ok (.aload_n 0, 1) := by decide +kernel
theorem dX10_begins_69 : decode cX10_begins 69 = .ok (.aload_n 0, 1) := by decide +kernel
theorem dX10_begins_70 : decode cX10_begins 70 = .ok (.invokevirtual 164, 3) := by decide +kernel
theorem dX10_begins_73 : decode cX10_begins 73 = .ok (.invokevirtual 155, 3) := by decide +kernel
theorem dX10_begins_76 : decode cX10_begins 76 = .ok (.ireturn, 1) := by decide +kernel
theorem dX10_begins_77 : decode cX10_begins 77 = .ok (.aload_n 0, 1) := by decide +kernel
theorem dX10_begins_78 : decode cX10_begins 78 = .ok (.iconst 0, 1) := by decide +kernel
theorem dX10_begins_79 : decode cX10_begins 79 = .ok (.putfield 149, 3) := by decide +kernel
theorem dX10_begins_82 : decode cX10_begins 82 = .ok (.aload_n 0, 1) := by decide +kernel
theorem dX10_begins_83 : decode cX10_begins 83 = .ok (.getfield 122, 3) := by decide +kernel
theorem dX10_begins_86 : decode cX10_begins 86 = .ok (.iconst 1, 1) := by decide +kernel
theorem dX10_begins_87 : decode cX10_begins 87 = .ok (.if_icmp .le 21, 3) := by decide +kernel
theorem dX10_begins_90 : decode cX10_begins 90 = .ok (.aload_n 0, 1) := by decide +kernel
theorem dX10_begins_91 : decode cX10_begins 91 = .ok (.iconst 0, 1) := by decide +kernel
theorem dX10_begins_92 : decode cX10_begins 92 = .ok (.aload_n 0, 1) := by decide +kernel
theorem dX10_begins_93 : decode cX10_begins 93 = .ok (.getfield 122, 3) := by decide +kernel
theorem dX10_begins_96 : decode cX10_begins 96 = .ok (.iconst 1, 1) := by decide +kernel
theorem dX10_begins_97 : decode cX10_begins 97 = .ok (.isub, 1) := by decide +kernel
theorem dX10_begins_98 : decode cX10_begins 98 = .ok (.invokevirtual 168, 3) := by decide +kernel
theorem dX10_begins_101 : decode cX10_begins 101 = .ok (.ifCond .eq 7, 3) := by decide +kernel
theorem dX10_begins_104 : decode cX10_begins 104 = .ok (.iconst 1, 1) := by decide +kernel
theorem dX10_begins_105 : decode cX10_begins 105 = .ok (.goto 4, 3) := by decide +kernel
theorem dX10_begins_108 : decode cX10_begins 108 = .ok (.iconst 0, 1) := by decide +kernel
theorem dX10_begins_109 : decode cX10_begins 109 = .ok (.ireturn, 1) := by decide +kernel
theorem dX10_goesOn_0 : decode cX10_goesOn 0 = .ok (.aload_n 0, 1) := by decide +kernel
theorem dX10_goesOn_1 : decode cX10_goesOn 1 = .ok (.getfield 16, 3) := by decide +kernel
theorem dX10_goesOn_4 : decode cX10_goesOn 4 = .ok (.aload_n 0, 1) := by decide +kernel
theorem dX10_goesOn_5 : decode cX10_goesOn 5 = .ok (.getfield 119, 3) := by decide +kernel
theorem dX10_goesOn_8 : decode cX10_goesOn 8 = .ok (.iaload, 1) := by decide +kernel
theorem dX10_goesOn_9 : decode cX10_goesOn 9 = .ok (.tableswitch 46 0 3 #[31, 36, 41, 31], 31) := by decide +kernel
theorem dX10_goesOn_40 : decode cX10_goesOn 40 = .ok (.aload_n 0, 1) := by decide +kernel
theorem dX10_goesOn_41 : decode cX10_goesOn 41 = .ok (.invokevirtual 172, 3) := by decide +kernel
theorem dX10_goesOn_44 : decode cX10_goesOn 44 = .ok (.ireturn, 1) := by decide +kernel
theorem dX10_goesOn_45 : decode cX10_goesOn 45 = .ok (.aload_n 0, 1) := by decide +kernel
theorem dX10_goesOn_46 : decode cX10_goesOn 46 = .ok (.invokevirtual 175, 3) := by decide +kernel
theorem dX10_goesOn_49 : decode cX10_goesOn 49 = .ok (.ireturn, 1) := by decide +kernel
theorem dX10_goesOn_50 : decode cX10_goesOn 50 = .ok (.aload_n 0, 1) := by decide +kernel
theorem dX10_goesOn_51 : decode cX10_goesOn 51 = .ok (.invokevirtual 178, 3) := by decide +kernel
theorem dX10_goesOn_54 : decode cX10_goesOn 54 = .ok (.ireturn, 1) := by decide +kernel
theorem dX10_goesOn_55 : decode cX10_goesOn 55 = .ok (.aload_n 0, 1) := by decide +kernel
theorem dX10_goesOn_56 : decode cX10_goesOn 56 = .ok (.invokevirtual 181, 3) := by decide +kernel
theorem dX10_goesOn_59 : decode cX10_goesOn 59 = .ok (.ireturn, 1) := by decide +kernel
theorem dX10_widest_0 : decode cX10_widest 0 = .ok (.iconst 0, 1) := by decide +kernel
theorem dX10_widest_1 : decode cX10_widest 1 = .ok (.istore_n 1, 1) := by decide +kernel
theorem dX10_widest_2 : decode cX10_widest 2 = .ok (.iconst 1, 1) := by decide +kernel
theorem dX10_widest_3 : decode cX10_widest 3 = .ok (.istore_n 2, 1) := by decide +kernel
theorem dX10_widest_4 : decode cX10_widest 4 = .ok (.iload_n 2, 1) := by decide +kernel
theorem dX10_widest_5 : decode cX10_widest 5 = .ok (.aload_n 0, 1) := by decide +kernel
theorem dX10_widest_6 : decode cX10_widest 6 = .ok (.getfield 122, 3) := by decide +kernel
theorem dX10_widest_9 : decode cX10_widest 9 = .ok (.if_icmp .ge 14, 3) := by decide +kernel
theorem dX10_widest_12 : decode cX10_widest 12 = .ok (.iload_n 2, 1) := by decide +kernel
theorem dX10_widest_13 : decode cX10_widest 13 = .ok (.istore_n 1, 1) := by decide +kernel
theorem dX10_widest_14 : decode cX10_widest 14 = .ok (.iconst 3, 1) := by decide +kernel
theorem dX10_widest_15 : decode cX10_widest 15 = .ok (.iload_n 2, 1) := by decide +kernel
theorem dX10_widest_16 : decode cX10_widest 16 = .ok (.imul, 1) := by decide +kernel
theorem dX10_widest_17 : decode cX10_widest 17 = .ok (.iconst 1, 1) := by decide +kernel
theorem dX10_widest_18 : decode cX10_widest 18 = .ok (.iadd, 1) := by decide +kernel
theorem dX10_widest_19 : decode cX10_widest 19 = .ok (.istore_n 2, 1) := by decide +kernel
theorem dX10_widest_20 : decode cX10_widest 20 = .ok (.goto (-16), 3) := by decide +kernel
theorem dX10_widest_23 : decode cX10_widest 23 = .ok (.iload_n 1, 1) := by decide +kernel
theorem dX10_widest_24 : decode cX10_widest 24 = .ok (.ireturn, 1) := by decide +kernel
theorem dX10_stepsBegin_0 : decode cX10_stepsBegin 0 = .ok (.aload_n 0, 1) := by decide +kernel
theorem dX10_stepsBegin_1 : decode cX10_stepsBegin 1 = .ok (.iload_n 1, 1) := by decide +kernel
theorem dX10_stepsBegin_2 : decode cX10_stepsBegin 2 = .ok (.putfield 125, 3) := by decide +kernel
theorem dX10_stepsBegin_5 : decode cX10_stepsBegin 5 = .ok (.aload_n 0, 1) := by decide +kernel
theorem dX10_stepsBegin_6 : decode cX10_stepsBegin 6 = .ok (.iload_n 1, 1) := by decide +kernel
theorem dX10_stepsBegin_7 : decode cX10_stepsBegin 7 = .ok (.putfield 128, 3) := by decide +kernel
theorem dX10_stepsBegin_10 : decode cX10_stepsBegin 10 = .ok (.aload_n 0, 1) := by decide +kernel
theorem dX10_stepsBegin_11 : decode cX10_stepsBegin 11 = .ok (.iload_n 1, 1) := by decide +kernel
theorem dX10_stepsBegin_12 : decode cX10_stepsBegin 12 = .ok (.putfield 131, 3) := by decide +kernel
theorem dX10_stepsBegin_15 : decode cX10_stepsBegin 15 = .ok (.iload_n 1, 1) := by decide +kernel
theorem dX10_stepsBegin_16 : decode cX10_stepsBegin 16 = .ok (.ifCond .le 14, 3) := by decide +kernel
theorem dX10_stepsBegin_19 : decode cX10_stepsBegin 19 = .ok (.aload_n 0, 1) := by decide +kernel
theorem dX10_stepsBegin_20 : decode cX10_stepsBegin 20 = .ok (.invokevirtual 184, 3) := by decide +kernel
theorem dX10_stepsBegin_23 : decode cX10_stepsBegin 23 = .ok (.ifCond .eq 7, 3) := by decide +kernel
theorem dX10_stepsBegin_26 : decode cX10_stepsBegin 26 = .ok (.iconst 1, 1) := by decide +kernel
theorem dX10_stepsBegin_27 : decode cX10_stepsBegin 27 = .ok (.goto 4, 3) := by decide +kernel
theorem dX10_stepsBegin_30 : decode cX10_stepsBegin 30 = .ok (.iconst 0, 1) := by decide +kernel
theorem dX10_stepsBegin_31 : decode cX10_stepsBegin 31 = .ok (.ireturn, 1) := by decide +kernel
theorem dX10_stepsStand_0 : decode cX10_stepsStand 0 = .ok (.aload_n 0, 1) := by decide +kernel
theorem dX10_stepsStand_1 : decode cX10_stepsStand 1 = .ok (.getfield 125, 3) := by decide +kernel
theorem dX10_stepsStand_4 : decode cX10_stepsStand 4 = .ok (.ifCond .le 106, 3) := by decide +kernel
theorem dX10_stepsStand_7 : decode cX10_stepsStand 7 = .ok (.aload_n 0, 1) := by decide +kernel
theorem dX10_stepsStand_8 : decode cX10_stepsStand 8 = .ok (.getfield 128, 3) := by decide +kernel
theorem dX10_stepsStand_11 : decode cX10_stepsStand 11 = .ok (.aload_n 0, 1) := by decide +kernel
theorem dX10_stepsStand_12 : decode cX10_stepsStand 12 = .ok (.getfield 122, 3) := by decide +kernel
theorem dX10_stepsStand_15 : decode cX10_stepsStand 15 = .ok (.if_icmp .ge 16, 3) := by decide +kernel
theorem dX10_stepsStand_18 : decode cX10_stepsStand 18 = .ok (.aload_n 0, 1) := by decide +kernel
theorem dX10_stepsStand_19 : decode cX10_stepsStand 19 = .ok (.getfield 131, 3) := by decide +kernel
theorem dX10_stepsStand_22 : decode cX10_stepsStand 22 = .ok (.aload_n 0, 1) := by decide +kernel
theorem dX10_stepsStand_23 : decode cX10_stepsStand 23 = .ok (.getfield 125, 3) := by decide +kernel
theorem dX10_stepsStand_26 : decode cX10_stepsStand 26 = .ok (.if_icmp .lt 5, 3) := by decide +kernel
theorem dX10_stepsStand_29 : decode cX10_stepsStand 29 = .ok (.iconst 1, 1) := by decide +kernel
theorem dX10_stepsStand_30 : decode cX10_stepsStand 30 = .ok (.ireturn, 1) := by decide +kernel
theorem dX10_stepsStand_31 : decode cX10_stepsStand 31 = .ok (.aload_n 0, 1) := by decide +kernel
theorem dX10_stepsStand_32 : decode cX10_stepsStand 32 = .ok (.getfield 128, 3) := by decide +kernel
theorem dX10_stepsStand_35 : decode cX10_stepsStand 35 = .ok (.aload_n 0, 1) := by decide +kernel
theorem dX10_stepsStand_36 : decode cX10_stepsStand 36 = .ok (.getfield 122, 3) := by decide +kernel
theorem dX10_stepsStand_39 : decode cX10_stepsStand 39 = .ok (.if_icmp .ge 24, 3) := by decide +kernel
theorem dX10_stepsStand_42 : decode cX10_stepsStand 42 = .ok (.aload_n 0, 1) := by decide +kernel
theorem dX10_stepsStand_43 : decode cX10_stepsStand 43 = .ok (.dup, 1) := by decide +kernel
theorem dX10_stepsStand_44 : decode cX10_stepsStand 44 = .ok (.getfield 128, 3) := by decide +kernel
theorem dX10_stepsStand_47 : decode cX10_stepsStand 47 = .ok (.iconst 1, 1) := by decide +kernel
theorem dX10_stepsStand_48 : decode cX10_stepsStand 48 = .ok (.iadd, 1) := by decide +kernel
theorem dX10_stepsStand_49 : decode cX10_stepsStand 49 = .ok (.putfield 128, 3) := by decide +kernel
theorem dX10_stepsStand_52 : decode cX10_stepsStand 52 = .ok (.aload_n 0, 1) := by decide +kernel
theorem dX10_stepsStand_53 : decode cX10_stepsStand 53 = .ok (.aload_n 0, 1) := by decide +kernel
theorem dX10_stepsStand_54 : decode cX10_stepsStand 54 = .ok (.getfield 128, 3) := by decide +kernel
theorem dX10_stepsStand_57 : decode cX10_stepsStand 57 = .ok (.putfield 131, 3) := by decide +kernel
theorem dX10_stepsStand_60 : decode cX10_stepsStand 60 = .ok (.goto (-60), 3) := by decide +kernel
theorem dX10_stepsStand_63 : decode cX10_stepsStand 63 = .ok (.aload_n 0, 1) := by decide +kernel
theorem dX10_stepsStand_64 : decode cX10_stepsStand 64 = .ok (.aload_n 0, 1) := by decide +kernel
theorem dX10_stepsStand_65 : decode cX10_stepsStand 65 = .ok (.getfield 16, 3) := by decide +kernel
theorem dX10_stepsStand_68 : decode cX10_stepsStand 68 = .ok (.aload_n 0, 1) := by decide +kernel
theorem dX10_stepsStand_69 : decode cX10_stepsStand 69 = .ok (.getfield 119, 3) := by decide +kernel
theorem dX10_stepsStand_72 : decode cX10_stepsStand 72 = .ok (.iaload, 1) := by decide +kernel
theorem dX10_stepsStand_73 : decode cX10_stepsStand 73 = .ok (.ifCond .ne 7, 3) := by decide +kernel
theorem dX10_stepsStand_76 : decode cX10_stepsStand 76 = .ok (.iconst 0, 1) := by decide +kernel
theorem dX10_stepsStand_77 : decode cX10_stepsStand 77 = .ok (.goto 11, 3) := by decide +kernel
theorem dX10_stepsStand_80 : decode cX10_stepsStand 80 = .ok (.aload_n 0, 1) := by decide +kernel
theorem dX10_stepsStand_81 : decode cX10_stepsStand 81 = .ok (.getfield 125, 3) := by decide +kernel
theorem dX10_stepsStand_84 : decode cX10_stepsStand 84 = .ok (.iconst 1, 1) := by decide +kernel
theorem dX10_stepsStand_85 : decode cX10_stepsStand 85 = .ok (.isub, 1) := by decide +kernel
theorem dX10_stepsStand_86 : decode cX10_stepsStand 86 = .ok (.iconst 3, 1) := by decide +kernel
theorem dX10_stepsStand_87 : decode cX10_stepsStand 87 = .ok (.idiv, 1) := by decide +kernel
theorem dX10_stepsStand_88 : decode cX10_stepsStand 88 = .ok (.putfield 125, 3) := by decide +kernel
theorem dX10_stepsStand_91 : decode cX10_stepsStand 91 = .ok (.aload_n 0, 1) := by decide +kernel
theorem dX10_stepsStand_92 : decode cX10_stepsStand 92 = .ok (.aload_n 0, 1) := by decide +kernel
theorem dX10_stepsStand_93 : decode cX10_stepsStand 93 = .ok (.getfield 125, 3) := by decide +kernel
theorem dX10_stepsStand_96 : decode cX10_stepsStand 96 = .ok (.putfield 128, 3) := by decide +kernel
theorem dX10_stepsStand_99 : decode cX10_stepsStand 99 = .ok (.aload_n 0, 1) := by decide +kernel
theorem dX10_stepsStand_100 : decode cX10_stepsStand 100 = .ok (.aload_n 0, 1) := by decide +kernel
theorem dX10_stepsStand_101 : decode cX10_stepsStand 101 = .ok (.getfield 125, 3) := by decide +kernel
theorem dX10_stepsStand_104 : decode cX10_stepsStand 104 = .ok (.putfield 131, 3) := by decide +kernel
theorem dX10_stepsStand_107 : decode cX10_stepsStand 107 = .ok (.goto (-107), 3) := by decide +kernel
theorem dX10_stepsStand_110 : decode cX10_stepsStand 110 = .ok (.iconst 0, 1) := by decide +kernel
theorem dX10_stepsStand_111 : decode cX10_stepsStand 111 = .ok (.ireturn, 1) := by decide +kernel
theorem dX10_stepsGo_0 : decode cX10_stepsGo 0 = .ok (.aload_n 0, 1) := by decide +kernel
theorem dX10_stepsGo_1 : decode cX10_stepsGo 1 = .ok (.aload_n 0, 1) := by decide +kernel
theorem dX10_stepsGo_2 : decode cX10_stepsGo 2 = .ok (.getfield 131, 3) := by decide +kernel
theorem dX10_stepsGo_5 : decode cX10_stepsGo 5 = .ok (.aload_n 0, 1) := by decide +kernel
theorem dX10_stepsGo_6 : decode cX10_stepsGo 6 = .ok (.getfield 125, 3) := by decide +kernel
theorem dX10_stepsGo_9 : decode cX10_stepsGo 9 = .ok (.isub, 1) := by decide +kernel
theorem dX10_stepsGo_10 : decode cX10_stepsGo 10 = .ok (.invokevirtual 187, 3) := by decide +kernel
theorem dX10_stepsGo_13 : decode cX10_stepsGo 13 = .ok (.aload_n 0, 1) := by decide +kernel
theorem dX10_stepsGo_14 : decode cX10_stepsGo 14 = .ok (.aload_n 0, 1) := by decide +kernel
theorem dX10_stepsGo_15 : decode cX10_stepsGo 15 = .ok (.getfield 131, 3) := by decide +kernel
theorem dX10_stepsGo_18 : decode cX10_stepsGo 18 = .ok (.invokevirtual 187, 3) := by decide +kernel
theorem dX10_stepsGo_21 : decode cX10_stepsGo 21 = .ok (.if_icmp .le 36, 3) := by decide +kernel
theorem dX10_stepsGo_24 : decode cX10_stepsGo 24 = .ok (.aload_n 0, 1) := by decide +kernel
theorem dX10_stepsGo_25 : decode cX10_stepsGo 25 = .ok (.aload_n 0, 1) := by decide +kernel
theorem dX10_stepsGo_26 : decode cX10_stepsGo 26 = .ok (.getfield 131, 3) := by decide +kernel
theorem dX10_stepsGo_29 : decode cX10_stepsGo 29 = .ok (.aload_n 0, 1) := by decide +kernel
theorem dX10_stepsGo_30 : decode cX10_stepsGo 30 = .ok (.getfield 125, 3) := by decide +kernel
theorem dX10_stepsGo_33 : decode cX10_stepsGo 33 = .ok (.isub, 1) := by decide +kernel
theorem dX10_stepsGo_34 : decode cX10_stepsGo 34 = .ok (.aload_n 0, 1) := by decide +kernel
theorem dX10_stepsGo_35 : decode cX10_stepsGo 35 = .ok (.getfield 131, 3) := by decide +kernel
theorem dX10_stepsGo_38 : decode cX10_stepsGo 38 = .ok (.invokevirtual 190, 3) := by decide +kernel
theorem dX10_stepsGo_41 : decode cX10_stepsGo 41 = .ok (.aload_n 0, 1) := by decide +kernel
theorem dX10_stepsGo_42 : decode cX10_stepsGo 42 = .ok (.dup, 1) := by decide +kernel
theorem dX10_stepsGo_43 : decode cX10_stepsGo 43 = .ok (.getfield 131, 3) := by decide +kernel
theorem dX10_stepsGo_46 : decode cX10_stepsGo 46 = .ok (.aload_n 0, 1) := by decide +kernel
theorem dX10_stepsGo_47 : decode cX10_stepsGo 47 = .ok (.getfield 125, 3) := by decide +kernel
theorem dX10_stepsGo_50 : decode cX10_stepsGo 50 = .ok (.isub, 1) := by decide +kernel
theorem dX10_stepsGo_51 : decode cX10_stepsGo 51 = .ok (.putfield 131, 3) := by decide +kernel
theorem dX10_stepsGo_54 : decode cX10_stepsGo 54 = .ok (.goto 21, 3) := by decide +kernel
theorem dX10_stepsGo_57 : decode cX10_stepsGo 57 = .ok (.aload_n 0, 1) := by decide +kernel
theorem dX10_stepsGo_58 : decode cX10_stepsGo 58 = .ok (.dup, 1) := by decide +kernel
theorem dX10_stepsGo_59 : decode cX10_stepsGo 59 = .ok (.getfield 128, 3) := by decide +kernel
theorem dX10_stepsGo_62 : decode cX10_stepsGo 62 = .ok (.iconst 1, 1) := by decide +kernel
theorem dX10_stepsGo_63 : decode cX10_stepsGo 63 = .ok (.iadd, 1) := by decide +kernel
theorem dX10_stepsGo_64 : decode cX10_stepsGo 64 = .ok (.putfield 128, 3) := by decide +kernel
theorem dX10_stepsGo_67 : decode cX10_stepsGo 67 = .ok (.aload_n 0, 1) := by decide +kernel
theorem dX10_stepsGo_68 : decode cX10_stepsGo 68 = .ok (.aload_n 0, 1) := by decide +kernel
theorem dX10_stepsGo_69 : decode cX10_stepsGo 69 = .ok (.getfield 128, 3) := by decide +kernel
theorem dX10_stepsGo_72 : decode cX10_stepsGo 72 = .ok (.putfield 131, 3) := by decide +kernel
theorem dX10_stepsGo_75 : decode cX10_stepsGo 75 = .ok (.aload_n 0, 1) := by decide +kernel
theorem dX10_stepsGo_76 : decode cX10_stepsGo 76 = .ok (.invokevirtual 184, 3) := by decide +kernel
theorem dX10_stepsGo_79 : decode cX10_stepsGo 79 = .ok (.ireturn, 1) := by decide +kernel
theorem dX10_heapBegins_0 : decode cX10_heapBegins 0 = .ok (.aload_n 0, 1) := by decide +kernel
theorem dX10_heapBegins_1 : decode cX10_heapBegins 1 = .ok (.aload_n 0, 1) := by decide +kernel
theorem dX10_heapBegins_2 : decode cX10_heapBegins 2 = .ok (.getfield 122, 3) := by decide +kernel
theorem dX10_heapBegins_5 : decode cX10_heapBegins 5 = .ok (.iconst 2, 1) := by decide +kernel
theorem dX10_heapBegins_6 : decode cX10_heapBegins 6 = .ok (.idiv, 1) := by decide +kernel
theorem dX10_heapBegins_7 : decode cX10_heapBegins 7 = .ok (.putfield 137, 3) := by decide +kernel
theorem dX10_heapBegins_10 : decode cX10_heapBegins 10 = .ok (.aload_n 0, 1) := by decide +kernel
theorem dX10_heapBegins_11 : decode cX10_heapBegins 11 = .ok (.aload_n 0, 1) := by decide +kernel
theorem dX10_heapBegins_12 : decode cX10_heapBegins 12 = .ok (.getfield 122, 3) := by decide +kernel
theorem dX10_heapBegins_15 : decode cX10_heapBegins 15 = .ok (.putfield 140, 3) := by decide +kernel
theorem dX10_heapBegins_18 : decode cX10_heapBegins 18 = .ok (.aload_n 0, 1) := by decide +kernel
theorem dX10_heapBegins_19 : decode cX10_heapBegins 19 = .ok (.invokevirtual 194, 3) := by decide +kernel
theorem dX10_heapBegins_22 : decode cX10_heapBegins 22 = .ok (.ireturn, 1) := by decide +kernel
theorem dX10_heapNext_0 : decode cX10_heapNext 0 = .ok (.aload_n 0, 1) := by decide +kernel
theorem dX10_heapNext_1 : decode cX10_heapNext 1 = .ok (.getfield 137, 3) := by decide +kernel
theorem dX10_heapNext_4 : decode cX10_heapNext 4 = .ok (.ifCond .le 32, 3) := by decide +kernel
theorem dX10_heapNext_7 : decode cX10_heapNext 7 = .ok (.aload_n 0, 1) := by decide +kernel
theorem dX10_heapNext_8 : decode cX10_heapNext 8 = .ok (.dup, 1) := by decide +kernel
theorem dX10_heapNext_9 : decode cX10_heapNext 9 = .ok (.getfield 137, 3) := by decide +kernel
theorem dX10_heapNext_12 : decode cX10_heapNext 12 = .ok (.iconst 1, 1) := by decide +kernel
theorem dX10_heapNext_13 : decode cX10_heapNext 13 = .ok (.isub, 1) := by decide +kernel
theorem dX10_heapNext_14 : decode cX10_heapNext 14 = .ok (.putfield 137, 3) := by decide +kernel
theorem dX10_heapNext_17 : decode cX10_heapNext 17 = .ok (.aload_n 0, 1) := by decide +kernel
theorem dX10_heapNext_18 : decode cX10_heapNext 18 = .ok (.aload_n 0, 1) := by decide +kernel
theorem dX10_heapNext_19 : decode cX10_heapNext 19 = .ok (.getfield 137, 3) := by decide +kernel
theorem dX10_heapNext_22 : decode cX10_heapNext 22 = .ok (.putfield 125, 3) := by decide +kernel
theorem dX10_heapNext_25 : decode cX10_heapNext 25 = .ok (.aload_n 0, 1) := by decide +kernel
theorem dX10_heapNext_26 : decode cX10_heapNext 26 = .ok (.aload_n 0, 1) := by decide +kernel
theorem dX10_heapNext_27 : decode cX10_heapNext 27 = .ok (.getfield 122, 3) := by decide +kernel
theorem dX10_heapNext_30 : decode cX10_heapNext 30 = .ok (.putfield 128, 3) := by decide +kernel
theorem dX10_heapNext_33 : decode cX10_heapNext 33 = .ok (.goto 45, 3) := by decide +kernel
theorem dX10_heapNext_36 : decode cX10_heapNext 36 = .ok (.aload_n 0, 1) := by decide +kernel
theorem dX10_heapNext_37 : decode cX10_heapNext 37 = .ok (.dup, 1) := by decide +kernel
theorem dX10_heapNext_38 : decode cX10_heapNext 38 = .ok (.getfield 140, 3) := by decide +kernel
theorem dX10_heapNext_41 : decode cX10_heapNext 41 = .ok (.iconst 1, 1) := by decide +kernel
theorem dX10_heapNext_42 : decode cX10_heapNext 42 = .ok (.isub, 1) := by decide +kernel
theorem dX10_heapNext_43 : decode cX10_heapNext 43 = .ok (.putfield 140, 3) := by decide +kernel
theorem dX10_heapNext_46 : decode cX10_heapNext 46 = .ok (.aload_n 0, 1) := by decide +kernel
theorem dX10_heapNext_47 : decode cX10_heapNext 47 = .ok (.getfield 140, 3) := by decide +kernel
theorem dX10_heapNext_50 : decode cX10_heapNext 50 = .ok (.iconst 1, 1) := by decide +kernel
theorem dX10_heapNext_51 : decode cX10_heapNext 51 = .ok (.if_icmp .ge 5, 3) := by decide +kernel
theorem dX10_heapNext_54 : decode cX10_heapNext 54 = .ok (.iconst 0, 1) := by decide +kernel
theorem dX10_heapNext_55 : decode cX10_heapNext 55 = .ok (.ireturn, 1) := by decide +kernel
theorem dX10_heapNext_56 : decode cX10_heapNext 56 = .ok (.aload_n 0, 1) := by decide +kernel
theorem dX10_heapNext_57 : decode cX10_heapNext 57 = .ok (.iconst 0, 1) := by decide +kernel
theorem dX10_heapNext_58 : decode cX10_heapNext 58 = .ok (.aload_n 0, 1) := by decide +kernel
theorem dX10_heapNext_59 : decode cX10_heapNext 59 = .ok (.getfield 140, 3) := by decide +kernel
theorem dX10_heapNext_62 : decode cX10_heapNext 62 = .ok (.invokevirtual 190, 3) := by decide +kernel
theorem dX10_heapNext_65 : decode cX10_heapNext 65 = .ok (.aload_n 0, 1) := by decide +kernel
theorem dX10_heapNext_66 : decode cX10_heapNext 66 = .ok (.iconst 0, 1) := by decide +kernel
theorem dX10_heapNext_67 : decode cX10_heapNext 67 = .ok (.putfield 125, 3) := by decide +kernel
theorem dX10_heapNext_70 : decode cX10_heapNext 70 = .ok (.aload_n 0, 1) := by decide +kernel
theorem dX10_heapNext_71 : decode cX10_heapNext 71 = .ok (.aload_n 0, 1) := by decide +kernel
theorem dX10_heapNext_72 : decode cX10_heapNext 72 = .ok (.getfield 140, 3) := by decide +kernel
theorem dX10_heapNext_75 : decode cX10_heapNext 75 = .ok (.putfield 128, 3) := by decide +kernel
theorem dX10_heapNext_78 : decode cX10_heapNext 78 = .ok (.aload_n 0, 1) := by decide +kernel
theorem dX10_heapNext_79 : decode cX10_heapNext 79 = .ok (.invokevirtual 197, 3) := by decide +kernel
theorem dX10_heapNext_82 : decode cX10_heapNext 82 = .ok (.ifCond .eq (-82), 3) := by decide +kernel
theorem dX10_heapNext_85 : decode cX10_heapNext 85 = .ok (.iconst 1, 1) := by decide +kernel
theorem dX10_heapNext_86 : decode cX10_heapNext 86 = .ok (.ireturn, 1) := by decide +kernel
theorem dX10_heapStands_0 : decode cX10_heapStands 0 = .ok (.aload_n 0, 1) := by decide +kernel
theorem dX10_heapStands_1 : decode cX10_heapStands 1 = .ok (.iconst 2, 1) := by decide +kernel
theorem dX10_heapStands_2 : decode cX10_heapStands 2 = .ok (.aload_n 0, 1) := by decide +kernel
theorem dX10_heapStands_3 : decode cX10_heapStands 3 = .ok (.getfield 125, 3) := by decide +kernel
theorem dX10_heapStands_6 : decode cX10_heapStands 6 = .ok (.imul, 1) := by decide +kernel
theorem dX10_heapStands_7 : decode cX10_heapStands 7 = .ok (.iconst 1, 1) := by decide +kernel
theorem dX10_heapStands_8 : decode cX10_heapStands 8 = .ok (.iadd, 1) := by decide +kernel
theorem dX10_heapStands_9 : decode cX10_heapStands 9 = .ok (.putfield 131, 3) := by decide +kernel
theorem dX10_heapStands_12 : decode cX10_heapStands 12 = .ok (.aload_n 0, 1) := by decide +kernel
theorem dX10_heapStands_13 : decode cX10_heapStands 13 = .ok (.aload_n 0, 1) := by decide +kernel
theorem dX10_heapStands_14 : decode cX10_heapStands 14 = .ok (.getfield 131, 3) := by decide +kernel
theorem dX10_heapStands_17 : decode cX10_heapStands 17 = .ok (.iconst 1, 1) := by decide +kernel
theorem dX10_heapStands_18 : decode cX10_heapStands 18 = .ok (.iadd, 1) := by decide +kernel
theorem dX10_heapStands_19 : decode cX10_heapStands 19 = .ok (.aload_n 0, 1) := by decide +kernel
theorem dX10_heapStands_20 : decode cX10_heapStands 20 = .ok (.getfield 128, 3) := by decide +kernel
theorem dX10_heapStands_23 : decode cX10_heapStands 23 = .ok (.if_icmp .ge 7, 3) := by decide +kernel
theorem dX10_heapStands_26 : decode cX10_heapStands 26 = .ok (.iconst 0, 1) := by decide +kernel
theorem dX10_heapStands_27 : decode cX10_heapStands 27 = .ok (.goto 4, 3) := by decide +kernel
theorem dX10_heapStands_30 : decode cX10_heapStands 30 = .ok (.iconst 1, 1) := by decide +kernel
theorem dX10_heapStands_31 : decode cX10_heapStands 31 = .ok (.putfield 134, 3) := by decide +kernel
theorem dX10_heapStands_34 : decode cX10_heapStands 34 = .ok (.aload_n 0, 1) := by decide +kernel
theorem dX10_heapStands_35 : decode cX10_heapStands 35 = .ok (.getfield 131, 3) := by decide +kernel
theorem dX10_heapStands_38 : decode cX10_heapStands 38 = .ok (.aload_n 0, 1) := by decide +kernel
theorem dX10_heapStands_39 : decode cX10_heapStands 39 = .ok (.getfield 128, 3) := by decide +kernel
theorem dX10_heapStands_42 : decode cX10_heapStands 42 = .ok (.if_icmp .ge 7, 3) := by decide +kernel
theorem dX10_heapStands_45 : decode cX10_heapStands 45 = .ok (.iconst 1, 1) := by decide +kernel
theorem dX10_heapStands_46 : decode cX10_heapStands 46 = .ok (.goto 4, 3) := by decide +kernel
theorem dX10_heapStands_49 : decode cX10_heapStands 49 = .ok (.iconst 0, 1) := by decide +kernel
theorem dX10_heapStands_50 : decode cX10_heapStands 50 = .ok (.ireturn, 1) := by decide +kernel
theorem dX10_heapGoes_0 : decode cX10_heapGoes 0 = .ok (.aload_n 0, 1) := by decide +kernel
theorem dX10_heapGoes_1 : decode cX10_heapGoes 1 = .ok (.getfield 134, 3) := by decide +kernel
theorem dX10_heapGoes_4 : decode cX10_heapGoes 4 = .ok (.ifCond .ne 41, 3) := by decide +kernel
theorem dX10_heapGoes_7 : decode cX10_heapGoes 7 = .ok (.aload_n 0, 1) := by decide +kernel
theorem dX10_heapGoes_8 : decode cX10_heapGoes 8 = .ok (.aload_n 0, 1) := by decide +kernel
theorem dX10_heapGoes_9 : decode cX10_heapGoes 9 = .ok (.getfield 131, 3) := by decide +kernel
theorem dX10_heapGoes_12 : decode cX10_heapGoes 12 = .ok (.invokevirtual 187, 3) := by decide +kernel
theorem dX10_heapGoes_15 : decode cX10_heapGoes 15 = .ok (.aload_n 0, 1) := by decide +kernel
theorem dX10_heapGoes_16 : decode cX10_heapGoes 16 = .ok (.aload_n 0, 1) := by decide +kernel
theorem dX10_heapGoes_17 : decode cX10_heapGoes 17 = .ok (.getfield 131, 3) := by decide +kernel
theorem dX10_heapGoes_20 : decode cX10_heapGoes 20 = .ok (.iconst 1, 1) := by decide +kernel
theorem dX10_heapGoes_21 : decode cX10_heapGoes 21 = .ok (.iadd, 1) := by decide +kernel
theorem dX10_heapGoes_22 : decode cX10_heapGoes 22 = .ok (.invokevirtual 187, 3) := by decide +kernel
theorem dX10_heapGoes_25 : decode cX10_heapGoes 25 = .ok (.if_icmp .ge 13, 3) := by decide +kernel
theorem dX10_heapGoes_28 : decode cX10_heapGoes 28 = .ok (.aload_n 0, 1) := by decide +kernel
theorem dX10_heapGoes_29 : decode cX10_heapGoes 29 = .ok (.dup, 1) := by decide +kernel
theorem dX10_heapGoes_30 : decode cX10_heapGoes 30 = .ok (.getfield 131, 3) := by decide +kernel
theorem dX10_heapGoes_33 : decode cX10_heapGoes 33 = .ok (.iconst 1, 1) := by decide +kernel
theorem dX10_heapGoes_34 : decode cX10_heapGoes 34 = .ok (.iadd, 1) := by decide +kernel
theorem dX10_heapGoes_35 : decode cX10_heapGoes 35 = .ok (.putfield 131, 3) := by decide +kernel
theorem dX10_heapGoes_38 : decode cX10_heapGoes 38 = .ok (.aload_n 0, 1) := by decide +kernel
theorem dX10_heapGoes_39 : decode cX10_heapGoes 39 = .ok (.iconst 1, 1) := by decide +kernel
theorem dX10_heapGoes_40 : decode cX10_heapGoes 40 = .ok (.putfield 134, 3) := by decide +kernel
theorem dX10_heapGoes_43 : decode cX10_heapGoes 43 = .ok (.iconst 1, 1) := by decide +kernel
theorem dX10_heapGoes_44 : decode cX10_heapGoes 44 = .ok (.ireturn, 1) := by decide +kernel
theorem dX10_heapGoes_45 : decode cX10_heapGoes 45 = .ok (.aload_n 0, 1) := by decide +kernel
theorem dX10_heapGoes_46 : decode cX10_heapGoes 46 = .ok (.aload_n 0, 1) := by decide +kernel
theorem dX10_heapGoes_47 : decode cX10_heapGoes 47 = .ok (.getfield 125, 3) := by decide +kernel
theorem dX10_heapGoes_50 : decode cX10_heapGoes 50 = .ok (.invokevirtual 187, 3) := by decide +kernel
theorem dX10_heapGoes_53 : decode cX10_heapGoes 53 = .ok (.aload_n 0, 1) := by decide +kernel
theorem dX10_heapGoes_54 : decode cX10_heapGoes 54 = .ok (.aload_n 0, 1) := by decide +kernel
theorem dX10_heapGoes_55 : decode cX10_heapGoes 55 = .ok (.getfield 131, 3) := by decide +kernel
theorem dX10_heapGoes_58 : decode cX10_heapGoes 58 = .ok (.invokevirtual 187, 3) := by decide +kernel
theorem dX10_heapGoes_61 : decode cX10_heapGoes 61 = .ok (.if_icmp .ge 32, 3) := by decide +kernel
theorem dX10_heapGoes_64 : decode cX10_heapGoes 64 = .ok (.aload_n 0, 1) := by decide +kernel
theorem dX10_heapGoes_65 : decode cX10_heapGoes 65 = .ok (.aload_n 0, 1) := by decide +kernel
theorem dX10_heapGoes_66 : decode cX10_heapGoes 66 = .ok (.getfield 125, 3) := by decide +kernel
theorem dX10_heapGoes_69 : decode cX10_heapGoes 69 = .ok (.aload_n 0, 1) := by decide +kernel
theorem dX10_heapGoes_70 : decode cX10_heapGoes 70 = .ok (.getfield 131, 3) := by decide +kernel
theorem dX10_heapGoes_73 : decode cX10_heapGoes 73 = .ok (.invokevirtual 190, 3) := by decide +kernel
theorem dX10_heapGoes_76 : decode cX10_heapGoes 76 = .ok (.aload_n 0, 1) := by decide +kernel
theorem dX10_heapGoes_77 : decode cX10_heapGoes 77 = .ok (.aload_n 0, 1) := by decide +kernel
theorem dX10_heapGoes_78 : decode cX10_heapGoes 78 = .ok (.getfield 131, 3) := by decide +kernel
theorem dX10_heapGoes_81 : decode cX10_heapGoes 81 = .ok (.putfield 125, 3) := by decide +kernel
theorem dX10_heapGoes_84 : decode cX10_heapGoes 84 = .ok (.aload_n 0, 1) := by decide +kernel
theorem dX10_heapGoes_85 : decode cX10_heapGoes 85 = .ok (.invokevirtual 197, 3) := by decide +kernel
theorem dX10_heapGoes_88 : decode cX10_heapGoes 88 = .ok (.ifCond .eq 5, 3) := by decide +kernel
theorem dX10_heapGoes_91 : decode cX10_heapGoes 91 = .ok (.iconst 1, 1) := by decide +kernel
theorem dX10_heapGoes_92 : decode cX10_heapGoes 92 = .ok (.ireturn, 1) := by decide +kernel
theorem dX10_heapGoes_93 : decode cX10_heapGoes 93 = .ok (.aload_n 0, 1) := by decide +kernel
theorem dX10_heapGoes_94 : decode cX10_heapGoes 94 = .ok (.invokevirtual 194, 3) := by decide +kernel
theorem dX10_heapGoes_97 : decode cX10_heapGoes 97 = .ok (.ireturn, 1) := by decide +kernel
theorem dX10_mergeBegins_0 : decode cX10_mergeBegins 0 = .ok (.aload_n 0, 1) := by decide +kernel
theorem dX10_mergeBegins_1 : decode cX10_mergeBegins 1 = .ok (.iconst 1, 1) := by decide +kernel
theorem dX10_mergeBegins_2 : decode cX10_mergeBegins 2 = .ok (.putfield 152, 3) := by decide +kernel
theorem dX10_mergeBegins_5 : decode cX10_mergeBegins 5 = .ok (.aload_n 0, 1) := by decide +kernel
theorem dX10_mergeBegins_6 : decode cX10_mergeBegins 6 = .ok (.iconst 0, 1) := by decide +kernel
theorem dX10_mergeBegins_7 : decode cX10_mergeBegins 7 = .ok (.putfield 143, 3) := by decide +kernel
theorem dX10_mergeBegins_10 : decode cX10_mergeBegins 10 = .ok (.aload_n 0, 1) := by decide +kernel
theorem dX10_mergeBegins_11 : decode cX10_mergeBegins 11 = .ok (.getfield 122, 3) := by decide +kernel
theorem dX10_mergeBegins_14 : decode cX10_mergeBegins 14 = .ok (.iconst 2, 1) := by decide +kernel
theorem dX10_mergeBegins_15 : decode cX10_mergeBegins 15 = .ok (.if_icmp .ge 5, 3) := by decide +kernel
theorem dX10_mergeBegins_18 : decode cX10_mergeBegins 18 = .ok (.iconst 0, 1) := by decide +kernel
theorem dX10_mergeBegins_19 : decode cX10_mergeBegins 19 = .ok (.ireturn, 1) := by decide +kernel
theorem dX10_mergeBegins_20 : decode cX10_mergeBegins 20 = .ok (.aload_n 0, 1) := by decide +kernel
theorem dX10_mergeBegins_21 : decode cX10_mergeBegins 21 = .ok (.iconst 0, 1) := by decide +kernel
theorem dX10_mergeBegins_22 : decode cX10_mergeBegins 22 = .ok (.invokevirtual 200, 3) := by decide +kernel
theorem dX10_mergeBegins_25 : decode cX10_mergeBegins 25 = .ok (.aload_n 0, 1) := by decide +kernel
theorem dX10_mergeBegins_26 : decode cX10_mergeBegins 26 = .ok (.invokevirtual 203, 3) := by decide +kernel
theorem dX10_mergeBegins_29 : decode cX10_mergeBegins 29 = .ok (.ireturn, 1) := by decide +kernel
theorem dX10_rows_0 : decode cX10_rows 0 = .ok (.aload_n 0, 1) := by decide +kernel
theorem dX10_rows_1 : decode cX10_rows 1 = .ok (.iload_n 1, 1) := by decide +kernel
theorem dX10_rows_2 : decode cX10_rows 2 = .ok (.putfield 125, 3) := by decide +kernel
theorem dX10_rows_5 : decode cX10_rows 5 = .ok (.aload_n 0, 1) := by decide +kernel
theorem dX10_rows_6 : decode cX10_rows 6 = .ok (.iload_n 1, 1) := by decide +kernel
theorem dX10_rows_7 : decode cX10_rows 7 = .ok (.putfield 128, 3) := by decide +kernel
theorem dX10_rows_10 : decode cX10_rows 10 = .ok (.aload_n 0, 1) := by decide +kernel
theorem dX10_rows_11 : decode cX10_rows 11 = .ok (.iload_n 1, 1) := by decide +kernel
theorem dX10_rows_12 : decode cX10_rows 12 = .ok (.aload_n 0, 1) := by decide +kernel
theorem dX10_rows_13 : decode cX10_rows 13 = .ok (.getfield 152, 3) := by decide +kernel
theorem dX10_rows_16 : decode cX10_rows 16 = .ok (.iadd, 1) := by decide +kernel
theorem dX10_rows_17 : decode cX10_rows 17 = .ok (.aload_n 0, 1) := by decide +kernel
theorem dX10_rows_18 : decode cX10_rows 18 = .ok (.getfield 122, 3) := by decide +kernel
theorem dX10_rows_21 : decode cX10_rows 21 = .ok (.invokestatic 50, 3) := by decide +kernel
theorem dX10_rows_24 : decode cX10_rows 24 = .ok (.putfield 134, 3) := by decide +kernel
theorem dX10_rows_27 : decode cX10_rows 27 = .ok (.aload_n 0, 1) := by decide +kernel
theorem dX10_rows_28 : decode cX10_rows 28 = .ok (.aload_n 0, 1) := by decide +kernel
theorem dX10_rows_29 : decode cX10_rows 29 = .ok (.getfield 134, 3) := by decide +kernel
theorem dX10_rows_32 : decode cX10_rows 32 = .ok (.putfield 131, 3) := by decide +kernel
theorem dX10_rows_35 : decode cX10_rows 35 = .ok (.aload_n 0, 1) := by decide +kernel
theorem dX10_rows_36 : decode cX10_rows 36 = .ok (.iload_n 1, 1) := by decide +kernel
theorem dX10_rows_37 : decode cX10_rows 37 = .ok (.iconst 2, 1) := by decide +kernel
theorem dX10_rows_38 : decode cX10_rows 38 = .ok (.aload_n 0, 1) := by decide +kernel
theorem dX10_rows_39 : decode cX10_rows 39 = .ok (.getfield 152, 3) := by decide +kernel
theorem dX10_rows_42 : decode cX10_rows 42 = .ok (.imul, 1) := by decide +kernel
theorem dX10_rows_43 : decode cX10_rows 43 = .ok (.iadd, 1) := by decide +kernel
theorem dX10_rows_44 : decode cX10_rows 44 = .ok (.aload_n 0, 1) := by decide +kernel
theorem dX10_rows_45 : decode cX10_rows 45 = .ok (.getfield 122, 3) := by decide +kernel
theorem dX10_rows_48 : decode cX10_rows 48 = .ok (.invokestatic 50, 3) := by decide +kernel
theorem dX10_rows_51 : decode cX10_rows 51 = .ok (.putfield 137, 3) := by decide +kernel
theorem dX10_rows_54 : decode cX10_rows 54 = .ok (.aload_n 0, 1) := by decide +kernel
theorem dX10_rows_55 : decode cX10_rows 55 = .ok (.iload_n 1, 1) := by decide +kernel
theorem dX10_rows_56 : decode cX10_rows 56 = .ok (.putfield 140, 3) := by decide +kernel
theorem dX10_rows_59 : decode cX10_rows 59 = .ok (.return_, 1) := by decide +kernel
theorem dX10_source_0 : decode cX10_source 0 = .ok (.aload_n 0, 1) := by decide +kernel
theorem dX10_source_1 : decode cX10_source 1 = .ok (.getfield 143, 3) := by decide +kernel
theorem dX10_source_4 : decode cX10_source 4 = .ok (.ifCond .ne 15, 3) := by decide +kernel
theorem dX10_source_7 : decode cX10_source 7 = .ok (.aload_n 0, 1) := by decide +kernel
theorem dX10_source_8 : decode cX10_source 8 = .ok (.getfield 25, 3) := by decide +kernel
theorem dX10_source_11 : decode cX10_source 11 = .ok (.aload_n 0, 1) := by decide +kernel
theorem dX10_source_12 : decode cX10_source 12 = .ok (.getfield 119, 3) := by decide +kernel
theorem dX10_source_15 : decode cX10_source 15 = .ok (.iaload, 1) := by decide +kernel
theorem dX10_source_16 : decode cX10_source 16 = .ok (.goto 12, 3) := by decide +kernel
theorem dX10_source_19 : decode cX10_source 19 = .ok (.aload_n 0, 1) := by decide +kernel
theorem dX10_source_20 : decode cX10_source 20 = .ok (.getfield 28, 3) := by decide +kernel
theorem dX10_source_23 : decode cX10_source 23 = .ok (.aload_n 0, 1) := by decide +kernel
theorem dX10_source_24 : decode cX10_source 24 = .ok (.getfield 119, 3) := by decide +kernel
theorem dX10_source_27 : decode cX10_source 27 = .ok (.iaload, 1) := by decide +kernel
theorem dX10_source_28 : decode cX10_source 28 = .ok (.ireturn, 1) := by decide +kernel
theorem dX10_target_0 : decode cX10_target 0 = .ok (.aload_n 0, 1) := by decide +kernel
theorem dX10_target_1 : decode cX10_target 1 = .ok (.getfield 143, 3) := by decide +kernel
theorem dX10_target_4 : decode cX10_target 4 = .ok (.ifCond .ne 15, 3) := by decide +kernel
theorem dX10_target_7 : decode cX10_target 7 = .ok (.aload_n 0, 1) := by decide +kernel
theorem dX10_target_8 : decode cX10_target 8 = .ok (.getfield 28, 3) := by decide +kernel
theorem dX10_target_11 : decode cX10_target 11 = .ok (.aload_n 0, 1) := by decide +kernel
theorem dX10_target_12 : decode cX10_target 12 = .ok (.getfield 119, 3) := by decide +kernel
theorem dX10_target_15 : decode cX10_target 15 = .ok (.iaload, 1) := by decide +kernel
theorem dX10_target_16 : decode cX10_target 16 = .ok (.goto 12, 3) := by decide +kernel
theorem dX10_target_19 : decode cX10_target 19 = .ok (.aload_n 0, 1) := by decide +kernel
theorem dX10_target_20 : decode cX10_target 20 = .ok (.getfield 25, 3) := by decide +kernel
theorem dX10_target_23 : decode cX10_target 23 = .ok (.aload_n 0, 1) := by decide +kernel
theorem dX10_target_24 : decode cX10_target 24 = .ok (.getfield 119, 3) := by decide +kernel
theorem dX10_target_27 : decode cX10_target 27 = .ok (.iaload, 1) := by decide +kernel
theorem dX10_target_28 : decode cX10_target 28 = .ok (.ireturn, 1) := by decide +kernel
theorem dX10_mergeStands_0 : decode cX10_mergeStands 0 = .ok (.aload_n 0, 1) := by decide +kernel
theorem dX10_mergeStands_1 : decode cX10_mergeStands 1 = .ok (.getfield 128, 3) := by decide +kernel
theorem dX10_mergeStands_4 : decode cX10_mergeStands 4 = .ok (.aload_n 0, 1) := by decide +kernel
theorem dX10_mergeStands_5 : decode cX10_mergeStands 5 = .ok (.getfield 134, 3) := by decide +kernel
theorem dX10_mergeStands_8 : decode cX10_mergeStands 8 = .ok (.if_icmp .ge 16, 3) := by decide +kernel
theorem dX10_mergeStands_11 : decode cX10_mergeStands 11 = .ok (.aload_n 0, 1) := by decide +kernel
theorem dX10_mergeStands_12 : decode cX10_mergeStands 12 = .ok (.getfield 131, 3) := by decide +kernel
theorem dX10_mergeStands_15 : decode cX10_mergeStands 15 = .ok (.aload_n 0, 1) := by decide +kernel
theorem dX10_mergeStands_16 : decode cX10_mergeStands 16 = .ok (.getfield 137, 3) := by decide +kernel
theorem dX10_mergeStands_19 : decode cX10_mergeStands 19 = .ok (.if_icmp .ge 5, 3) := by decide +kernel
theorem dX10_mergeStands_22 : decode cX10_mergeStands 22 = .ok (.iconst 1, 1) := by decide +kernel
theorem dX10_mergeStands_23 : decode cX10_mergeStands 23 = .ok (.ireturn, 1) := by decide +kernel
theorem dX10_mergeStands_24 : decode cX10_mergeStands 24 = .ok (.aload_n 0, 1) := by decide +kernel
theorem dX10_mergeStands_25 : decode cX10_mergeStands 25 = .ok (.getfield 128, 3) := by decide +kernel
theorem dX10_mergeStands_28 : decode cX10_mergeStands 28 = .ok (.aload_n 0, 1) := by decide +kernel
theorem dX10_mergeStands_29 : decode cX10_mergeStands 29 = .ok (.getfield 134, 3) := by decide +kernel
theorem dX10_mergeStands_32 : decode cX10_mergeStands 32 = .ok (.if_icmp .ge 54, 3) := by decide +kernel
theorem dX10_mergeStands_35 : decode cX10_mergeStands 35 = .ok (.aload_n 0, 1) := by decide +kernel
theorem dX10_mergeStands_36 : decode cX10_mergeStands 36 = .ok (.getfield 69, 3) := by decide +kernel
theorem dX10_mergeStands_39 : decode cX10_mergeStands 39 = .ok (.aload_n 0, 1) := by decide +kernel
theorem dX10_mergeStands_40 : decode cX10_mergeStands 40 = .ok (.invokevirtual 206, 3) := by decide +kernel
theorem dX10_mergeStands_43 : decode cX10_mergeStands 43 = .ok (.aload_n 0, 1) := by decide +kernel
theorem dX10_mergeStands_44 : decode cX10_mergeStands 44 = .ok (.getfield 140, 3) := by decide +kernel
theorem dX10_mergeStands_47 : decode cX10_mergeStands 47 = .ok (.iadd, 1) := by decide +kernel
theorem dX10_mergeStands_48 : decode cX10_mergeStands 48 = .ok (.aload_n 0, 1) := by decide +kernel
theorem dX10_mergeStands_49 : decode cX10_mergeStands 49 = .ok (.getfield 69, 3) := by decide +kernel
theorem dX10_mergeStands_52 : decode cX10_mergeStands 52 = .ok (.aload_n 0, 1) := by decide +kernel
theorem dX10_mergeStands_53 : decode cX10_mergeStands 53 = .ok (.invokevirtual 209, 3) := by decide +kernel
theorem dX10_mergeStands_56 : decode cX10_mergeStands 56 = .ok (.aload_n 0, 1) := by decide +kernel
theorem dX10_mergeStands_57 : decode cX10_mergeStands 57 = .ok (.getfield 128, 3) := by decide +kernel
theorem dX10_mergeStands_60 : decode cX10_mergeStands 60 = .ok (.iadd, 1) := by decide +kernel
theorem dX10_mergeStands_61 : decode cX10_mergeStands 61 = .ok (.iaload, 1) := by decide +kernel
theorem dX10_mergeStands_62 : decode cX10_mergeStands 62 = .ok (.iastore, 1) := by decide +kernel
theorem dX10_mergeStands_63 : decode cX10_mergeStands 63 = .ok (.aload_n 0, 1) := by decide +kernel
theorem dX10_mergeStands_64 : decode cX10_mergeStands 64 = .ok (.dup, 1) := by decide +kernel
theorem dX10_mergeStands_65 : decode cX10_mergeStands 65 = .ok (.getfield 140, 3) := by decide +kernel
theorem dX10_mergeStands_68 : decode cX10_mergeStands 68 = .ok (.iconst 1, 1) := by decide +kernel
theorem dX10_mergeStands_69 : decode cX10_mergeStands 69 = .ok (.iadd, 1) := by decide +kernel
theorem dX10_mergeStands_70 : decode cX10_mergeStands 70 = .ok (.putfield 140, 3) := by decide +kernel
theorem dX10_mergeStands_73 : decode cX10_mergeStands 73 = .ok (.aload_n 0, 1) := by decide +kernel
theorem dX10_mergeStands_74 : decode cX10_mergeStands 74 = .ok (.dup, 1) := by decide +kernel
theorem dX10_mergeStands_75 : decode cX10_mergeStands 75 = .ok (.getfield 128, 3) := by decide +kernel
theorem dX10_mergeStands_78 : decode cX10_mergeStands 78 = .ok (.iconst 1, 1) := by decide +kernel
theorem dX10_mergeStands_79 : decode cX10_mergeStands 79 = .ok (.iadd, 1) := by decide +kernel
theorem dX10_mergeStands_80 : decode cX10_mergeStands 80 = .ok (.putfield 128, 3) := by decide +kernel
theorem dX10_mergeStands_83 : decode cX10_mergeStands 83 = .ok (.goto (-59), 3) := by decide +kernel
theorem dX10_mergeStands_86 : decode cX10_mergeStands 86 = .ok (.aload_n 0, 1) := by decide +kernel
theorem dX10_mergeStands_87 : decode cX10_mergeStands 87 = .ok (.getfield 131, 3) := by decide +kernel
theorem dX10_mergeStands_90 : decode cX10_mergeStands 90 = .ok (.aload_n 0, 1) := by decide +kernel
theorem dX10_mergeStands_91 : decode cX10_mergeStands 91 = .ok (.getfield 137, 3) := by decide +kernel
theorem dX10_mergeStands_94 : decode cX10_mergeStands 94 = .ok (.if_icmp .ge 54, 3) := by decide +kernel
theorem dX10_mergeStands_97 : decode cX10_mergeStands 97 = .ok (.aload_n 0, 1) := by decide +kernel
theorem dX10_mergeStands_98 : decode cX10_mergeStands 98 = .ok (.getfield 69, 3) := by decide +kernel
theorem dX10_mergeStands_101 : decode cX10_mergeStands 101 = .ok (.aload_n 0, 1) := by decide +kernel
theorem dX10_mergeStands_102 : decode cX10_mergeStands 102 = .ok (.invokevirtual 206, 3) := by decide +kernel
theorem dX10_mergeStands_105 : decode cX10_mergeStands 105 = .ok (.aload_n 0, 1) := by decide +kernel
theorem dX10_mergeStands_106 : decode cX10_mergeStands 106 = .ok (.getfield 140, 3) := by decide +kernel
theorem dX10_mergeStands_109 : decode cX10_mergeStands 109 = .ok (.iadd, 1) := by decide +kernel
theorem dX10_mergeStands_110 : decode cX10_mergeStands 110 = .ok (.aload_n 0, 1) := by decide +kernel
theorem dX10_mergeStands_111 : decode cX10_mergeStands 111 = .ok (.getfield 69, 3) := by decide +kernel
theorem dX10_mergeStands_114 : decode cX10_mergeStands 114 = .ok (.aload_n 0, 1) := by decide +kernel
theorem dX10_mergeStands_115 : decode cX10_mergeStands 115 = .ok (.invokevirtual 209, 3) := by decide +kernel
theorem dX10_mergeStands_118 : decode cX10_mergeStands 118 = .ok (.aload_n 0, 1) := by decide +kernel
theorem dX10_mergeStands_119 : decode cX10_mergeStands 119 = .ok (.getfield 131, 3) := by decide +kernel
theorem dX10_mergeStands_122 : decode cX10_mergeStands 122 = .ok (.iadd, 1) := by decide +kernel
theorem dX10_mergeStands_123 : decode cX10_mergeStands 123 = .ok (.iaload, 1) := by decide +kernel
theorem dX10_mergeStands_124 : decode cX10_mergeStands 124 = .ok (.iastore, 1) := by decide +kernel
theorem dX10_mergeStands_125 : decode cX10_mergeStands 125 = .ok (.aload_n 0, 1) := by decide +kernel
theorem dX10_mergeStands_126 : decode cX10_mergeStands 126 = .ok (.dup, 1) := by decide +kernel
theorem dX10_mergeStands_127 : decode cX10_mergeStands 127 = .ok (.getfield 140, 3) := by decide +kernel
theorem dX10_mergeStands_130 : decode cX10_mergeStands 130 = .ok (.iconst 1, 1) := by decide +kernel
theorem dX10_mergeStands_131 : decode cX10_mergeStands 131 = .ok (.iadd, 1) := by decide +kernel
theorem dX10_mergeStands_132 : decode cX10_mergeStands 132 = .ok (.putfield 140, 3) := by decide +kernel
theorem dX10_mergeStands_135 : decode cX10_mergeStands 135 = .ok (.aload_n 0, 1) := by decide +kernel
theorem dX10_mergeStands_136 : decode cX10_mergeStands 136 = .ok (.dup, 1) := by decide +kernel
theorem dX10_mergeStands_137 : decode cX10_mergeStands 137 = .ok (.getfield 131, 3) := by decide +kernel
theorem dX10_mergeStands_140 : decode cX10_mergeStands 140 = .ok (.iconst 1, 1) := by decide +kernel
theorem dX10_mergeStands_141 : decode cX10_mergeStands 141 = .ok (.iadd, 1) := by decide +kernel
theorem dX10_mergeStands_142 : decode cX10_mergeStands 142 = .ok (.putfield 131, 3) := by decide +kernel
theorem dX10_mergeStands_145 : decode cX10_mergeStands 145 = .ok (.goto (-59), 3) := by decide +kernel
