theorem dX9_squeezes_18 : decode cX9_squeezes 18 = .ok (.iload_n 1, 1) := by decide +kernel
theorem dX9_squeezes_19 : decode cX9_squeezes 19 = .ok (.invokevirtual 267, 3) := by decide +kernel
theorem dX9_squeezes_22 : decode cX9_squeezes 22 = .ok (.ifCond .eq 11, 3) := by decide +kernel
theorem dX9_squeezes_25 : decode cX9_squeezes 25 = .ok (.aload_n 0, 1) := by decide +kernel
theorem dX9_squeezes_26 : decode cX9_squeezes 26 = .ok (.iload_n 1, 1) := by decide +kernel
theorem dX9_squeezes_27 : decode cX9_squeezes 27 = .ok (.iconst 2, 1) := by decide +kernel
theorem dX9_squeezes_28 : decode cX9_squeezes 28 = .ok (.invokevirtual 270, 3) := by decide +kernel
theorem dX9_squeezes_31 : decode cX9_squeezes 31 = .ok (.iconst 1, 1) := by decide +kernel
theorem dX9_squeezes_32 : decode cX9_squeezes 32 = .ok (.ireturn, 1) := by decide +kernel
theorem dX9_squeezes_33 : decode cX9_squeezes 33 = .ok (.aload_n 0, 1) := by decide +kernel
theorem dX9_squeezes_34 : decode cX9_squeezes 34 = .ok (.getfield 62, 3) := by decide +kernel
theorem dX9_squeezes_37 : decode cX9_squeezes 37 = .ok (.iload_n 2, 1) := by decide +kernel
theorem dX9_squeezes_38 : decode cX9_squeezes 38 = .ok (.iaload, 1) := by decide +kernel
theorem dX9_squeezes_39 : decode cX9_squeezes 39 = .ok (.ifCond .ne 90, 3) := by decide +kernel
theorem dX9_squeezes_42 : decode cX9_squeezes 42 = .ok (.aload_n 0, 1) := by decide +kernel
theorem dX9_squeezes_43 : decode cX9_squeezes 43 = .ok (.getfield 62, 3) := by decide +kernel
theorem dX9_squeezes_46 : decode cX9_squeezes 46 = .ok (.iload_n 2, 1) := by decide +kernel
theorem dX9_squeezes_47 : decode cX9_squeezes 47 = .ok (.bipush 7, 2) := by decide +kernel
theorem dX9_squeezes_49 : decode cX9_squeezes 49 = .ok (.iadd, 1) := by decide +kernel
theorem dX9_squeezes_50 : decode cX9_squeezes 50 = .ok (.iaload, 1) := by decide +kernel
theorem dX9_squeezes_51 : decode cX9_squeezes 51 = .ok (.ifCond .ne 78, 3) := by decide +kernel
theorem dX9_squeezes_54 : decode cX9_squeezes 54 = .ok (.aload_n 0, 1) := by decide +kernel
theorem dX9_squeezes_55 : decode cX9_squeezes 55 = .ok (.getfield 62, 3) := by decide +kernel
theorem dX9_squeezes_58 : decode cX9_squeezes 58 = .ok (.iload_n 2, 1) := by decide +kernel
theorem dX9_squeezes_59 : decode cX9_squeezes 59 = .ok (.iconst 1, 1) := by decide +kernel
theorem dX9_squeezes_60 : decode cX9_squeezes 60 = .ok (.iadd, 1) := by decide +kernel
theorem dX9_squeezes_61 : decode cX9_squeezes 61 = .ok (.iaload, 1) := by decide +kernel
theorem dX9_squeezes_62 : decode cX9_squeezes 62 = .ok (.aload_n 0, 1) := by decide +kernel
theorem dX9_squeezes_63 : decode cX9_squeezes 63 = .ok (.getfield 62, 3) := by decide +kernel
theorem dX9_squeezes_66 : decode cX9_squeezes 66 = .ok (.iload_n 2, 1) := by decide +kernel
theorem dX9_squeezes_67 : decode cX9_squeezes 67 = .ok (.bipush 8, 2) := by decide +kernel
theorem dX9_squeezes_69 : decode cX9_squeezes 69 = .ok (.iadd, 1) := by decide +kernel
theorem dX9_squeezes_70 : decode cX9_squeezes 70 = .ok (.iaload, 1) := by decide +kernel
theorem dX9_squeezes_71 : decode cX9_squeezes 71 = .ok (.if_icmp .eq 6, 3) := by decide +kernel
theorem dX9_squeezes_74 : decode cX9_squeezes 74 = .ok (.goto 55, 3) := by decide +kernel
theorem dX9_squeezes_77 : decode cX9_squeezes 77 = .ok (.aload_n 0, 1) := by decide +kernel
theorem dX9_squeezes_78 : decode cX9_squeezes 78 = .ok (.getfield 62, 3) := by decide +kernel
theorem dX9_squeezes_81 : decode cX9_squeezes 81 = .ok (.iload_n 2, 1) := by decide +kernel
theorem dX9_squeezes_82 : decode cX9_squeezes 82 = .ok (.iconst 3, 1) := by decide +kernel
theorem dX9_squeezes_83 : decode cX9_squeezes 83 = .ok (.iadd, 1) := by decide +kernel
theorem dX9_squeezes_84 : decode cX9_squeezes 84 = .ok (.aload_n 0, 1) := by decide +kernel
theorem dX9_squeezes_85 : decode cX9_squeezes 85 = .ok (.getfield 62, 3) := by decide +kernel
theorem dX9_squeezes_88 : decode cX9_squeezes 88 = .ok (.iload_n 2, 1) := by decide +kernel
theorem dX9_squeezes_89 : decode cX9_squeezes 89 = .ok (.bipush 10, 2) := by decide +kernel
theorem dX9_squeezes_91 : decode cX9_squeezes 91 = .ok (.iadd, 1) := by decide +kernel
theorem dX9_squeezes_92 : decode cX9_squeezes 92 = .ok (.iaload, 1) := by decide +kernel
theorem dX9_squeezes_93 : decode cX9_squeezes 93 = .ok (.iastore, 1) := by decide +kernel
theorem dX9_squeezes_94 : decode cX9_squeezes 94 = .ok (.aload_n 0, 1) := by decide +kernel
theorem dX9_squeezes_95 : decode cX9_squeezes 95 = .ok (.iload_n 1, 1) := by decide +kernel
theorem dX9_squeezes_96 : decode cX9_squeezes 96 = .ok (.iconst 1, 1) := by decide +kernel
theorem dX9_squeezes_97 : decode cX9_squeezes 97 = .ok (.iadd, 1) := by decide +kernel
theorem dX9_squeezes_98 : decode cX9_squeezes 98 = .ok (.iconst 1, 1) := by decide +kernel
theorem dX9_squeezes_99 : decode cX9_squeezes 99 = .ok (.invokevirtual 270, 3) := by decide +kernel
theorem dX9_squeezes_102 : decode cX9_squeezes 102 = .ok (.aload_n 0, 1) := by decide +kernel
theorem dX9_squeezes_103 : decode cX9_squeezes 103 = .ok (.getfield 62, 3) := by decide +kernel
theorem dX9_squeezes_106 : decode cX9_squeezes 106 = .ok (.iload_n 2, 1) := by decide +kernel
theorem dX9_squeezes_107 : decode cX9_squeezes 107 = .ok (.iconst 2, 1) := by decide +kernel
theorem dX9_squeezes_108 : decode cX9_squeezes 108 = .ok (.iadd, 1) := by decide +kernel
theorem dX9_squeezes_109 : decode cX9_squeezes 109 = .ok (.iaload, 1) := by decide +kernel
theorem dX9_squeezes_110 : decode cX9_squeezes 110 = .ok (.aload_n 0, 1) := by decide +kernel
theorem dX9_squeezes_111 : decode cX9_squeezes 111 = .ok (.getfield 62, 3) := by decide +kernel
theorem dX9_squeezes_114 : decode cX9_squeezes 114 = .ok (.iload_n 2, 1) := by decide +kernel
theorem dX9_squeezes_115 : decode cX9_squeezes 115 = .ok (.iconst 3, 1) := by decide +kernel
theorem dX9_squeezes_116 : decode cX9_squeezes 116 = .ok (.iadd, 1) := by decide +kernel
theorem dX9_squeezes_117 : decode cX9_squeezes 117 = .ok (.iaload, 1) := by decide +kernel
theorem dX9_squeezes_118 : decode cX9_squeezes 118 = .ok (.if_icmp .ne 9, 3) := by decide +kernel
theorem dX9_squeezes_121 : decode cX9_squeezes 121 = .ok (.aload_n 0, 1) := by decide +kernel
theorem dX9_squeezes_122 : decode cX9_squeezes 122 = .ok (.iload_n 1, 1) := by decide +kernel
theorem dX9_squeezes_123 : decode cX9_squeezes 123 = .ok (.iconst 1, 1) := by decide +kernel
theorem dX9_squeezes_124 : decode cX9_squeezes 124 = .ok (.invokevirtual 270, 3) := by decide +kernel
theorem dX9_squeezes_127 : decode cX9_squeezes 127 = .ok (.iconst 1, 1) := by decide +kernel
theorem dX9_squeezes_128 : decode cX9_squeezes 128 = .ok (.ireturn, 1) := by decide +kernel
theorem dX9_squeezes_129 : decode cX9_squeezes 129 = .ok (.iinc 1 1, 3) := by decide +kernel
theorem dX9_squeezes_132 : decode cX9_squeezes 132 = .ok (.goto (-130), 3) := by decide +kernel
theorem dX9_squeezes_135 : decode cX9_squeezes 135 = .ok (.iconst 0, 1) := by decide +kernel
theorem dX9_squeezes_136 : decode cX9_squeezes 136 = .ok (.ireturn, 1) := by decide +kernel
theorem dX9_squeeze_0 : decode cX9_squeeze 0 = .ok (.aload_n 0, 1) := by decide +kernel
theorem dX9_squeeze_1 : decode cX9_squeeze 1 = .ok (.iload_n 1, 1) := by decide +kernel
theorem dX9_squeeze_2 : decode cX9_squeeze 2 = .ok (.invokevirtual 120, 3) := by decide +kernel
theorem dX9_squeeze_5 : decode cX9_squeeze 5 = .ok (.ifCond .ne 9, 3) := by decide +kernel
theorem dX9_squeeze_8 : decode cX9_squeeze 8 = .ok (.aload_n 0, 1) := by decide +kernel
theorem dX9_squeeze_9 : decode cX9_squeeze 9 = .ok (.iconst (-1), 1) := by decide +kernel
theorem dX9_squeeze_10 : decode cX9_squeeze 10 = .ok (.invokevirtual 99, 3) := by decide +kernel
theorem dX9_squeeze_13 : decode cX9_squeeze 13 = .ok (.ireturn, 1) := by decide +kernel
theorem dX9_squeeze_14 : decode cX9_squeeze 14 = .ok (.aload_n 0, 1) := by decide +kernel
theorem dX9_squeeze_15 : decode cX9_squeeze 15 = .ok (.iconst 0, 1) := by decide +kernel
theorem dX9_squeeze_16 : decode cX9_squeeze 16 = .ok (.putfield 200, 3) := by decide +kernel
theorem dX9_squeeze_19 : decode cX9_squeeze 19 = .ok (.aload_n 0, 1) := by decide +kernel
theorem dX9_squeeze_20 : decode cX9_squeeze 20 = .ok (.iload_n 1, 1) := by decide +kernel
theorem dX9_squeeze_21 : decode cX9_squeeze 21 = .ok (.invokevirtual 264, 3) := by decide +kernel
theorem dX9_squeeze_24 : decode cX9_squeeze 24 = .ok (.iconst 1, 1) := by decide +kernel
theorem dX9_squeeze_25 : decode cX9_squeeze 25 = .ok (.istore_n 2, 1) := by decide +kernel
theorem dX9_squeeze_26 : decode cX9_squeeze 26 = .ok (.iload_n 2, 1) := by decide +kernel
theorem dX9_squeeze_27 : decode cX9_squeeze 27 = .ok (.ifCond .eq 11, 3) := by decide +kernel
theorem dX9_squeeze_30 : decode cX9_squeeze 30 = .ok (.aload_n 0, 1) := by decide +kernel
theorem dX9_squeeze_31 : decode cX9_squeeze 31 = .ok (.invokevirtual 273, 3) := by decide +kernel
theorem dX9_squeeze_34 : decode cX9_squeeze 34 = .ok (.istore_n 2, 1) := by decide +kernel
theorem dX9_squeeze_35 : decode cX9_squeeze 35 = .ok (.goto (-9), 3) := by decide +kernel
theorem dX9_squeeze_38 : decode cX9_squeeze 38 = .ok (.aload_n 0, 1) := by decide +kernel
theorem dX9_squeeze_39 : decode cX9_squeeze 39 = .ok (.iconst 2, 1) := by decide +kernel
theorem dX9_squeeze_40 : decode cX9_squeeze 40 = .ok (.iload_n 1, 1) := by decide +kernel
theorem dX9_squeeze_41 : decode cX9_squeeze 41 = .ok (.invokevirtual 251, 3) := by decide +kernel
theorem dX9_squeeze_44 : decode cX9_squeeze 44 = .ok (.ireturn, 1) := by decide +kernel
theorem dX9_keeps_0 : decode cX9_keeps 0 = .ok (.aload_n 0, 1) := by decide +kernel
theorem dX9_keeps_1 : decode cX9_keeps 1 = .ok (.getfield 25, 3) := by decide +kernel
theorem dX9_keeps_4 : decode cX9_keeps 4 = .ok (.iload_n 1, 1) := by decide +kernel
theorem dX9_keeps_5 : decode cX9_keeps 5 = .ok (.iconst 1, 1) := by decide +kernel
theorem dX9_keeps_6 : decode cX9_keeps 6 = .ok (.iadd, 1) := by decide +kernel
theorem dX9_keeps_7 : decode cX9_keeps 7 = .ok (.iaload, 1) := by decide +kernel
theorem dX9_keeps_8 : decode cX9_keeps 8 = .ok (.istore_n 2, 1) := by decide +kernel
theorem dX9_keeps_9 : decode cX9_keeps 9 = .ok (.aload_n 0, 1) := by decide +kernel
theorem dX9_keeps_10 : decode cX9_keeps 10 = .ok (.iload_n 2, 1) := by decide +kernel
theorem dX9_keeps_11 : decode cX9_keeps 11 = .ok (.invokevirtual 153, 3) := by decide +kernel
theorem dX9_keeps_14 : decode cX9_keeps 14 = .ok (.istore_n 3, 1) := by decide +kernel
theorem dX9_keeps_15 : decode cX9_keeps 15 = .ok (.aload_n 0, 1) := by decide +kernel
theorem dX9_keeps_16 : decode cX9_keeps 16 = .ok (.getfield 25, 3) := by decide +kernel
theorem dX9_keeps_19 : decode cX9_keeps 19 = .ok (.iload_n 1, 1) := by decide +kernel
theorem dX9_keeps_20 : decode cX9_keeps 20 = .ok (.iaload, 1) := by decide +kernel
theorem dX9_keeps_21 : decode cX9_keeps 21 = .ok (.tableswitch 173 0 2 #[27, 99, 165], 27) := by decide +kernel
theorem dX9_keeps_48 : decode cX9_keeps 48 = .ok (.iload_n 3, 1) := by decide +kernel
theorem dX9_keeps_49 : decode cX9_keeps 49 = .ok (.iconst (-1), 1) := by decide +kernel
theorem dX9_keeps_50 : decode cX9_keeps 50 = .ok (.if_icmp .ne 5, 3) := by decide +kernel
theorem dX9_keeps_53 : decode cX9_keeps 53 = .ok (.iconst 1, 1) := by decide +kernel
theorem dX9_keeps_54 : decode cX9_keeps 54 = .ok (.ireturn, 1) := by decide +kernel
theorem dX9_keeps_55 : decode cX9_keeps 55 = .ok (.aload_n 0, 1) := by decide +kernel
theorem dX9_keeps_56 : decode cX9_keeps 56 = .ok (.getfield 47, 3) := by decide +kernel
theorem dX9_keeps_59 : decode cX9_keeps 59 = .ok (.iload_n 3, 1) := by decide +kernel
theorem dX9_keeps_60 : decode cX9_keeps 60 = .ok (.iaload, 1) := by decide +kernel
theorem dX9_keeps_61 : decode cX9_keeps 61 = .ok (.aload_n 0, 1) := by decide +kernel
theorem dX9_keeps_62 : decode cX9_keeps 62 = .ok (.getfield 25, 3) := by decide +kernel
theorem dX9_keeps_65 : decode cX9_keeps 65 = .ok (.iload_n 1, 1) := by decide +kernel
theorem dX9_keeps_66 : decode cX9_keeps 66 = .ok (.iconst 3, 1) := by decide +kernel
theorem dX9_keeps_67 : decode cX9_keeps 67 = .ok (.iadd, 1) := by decide +kernel
theorem dX9_keeps_68 : decode cX9_keeps 68 = .ok (.iaload, 1) := by decide +kernel
theorem dX9_keeps_69 : decode cX9_keeps 69 = .ok (.if_icmp .ne 5, 3) := by decide +kernel
theorem dX9_keeps_72 : decode cX9_keeps 72 = .ok (.iconst 0, 1) := by decide +kernel
theorem dX9_keeps_73 : decode cX9_keeps 73 = .ok (.ireturn, 1) := by decide +kernel
theorem dX9_keeps_74 : decode cX9_keeps 74 = .ok (.aload_n 0, 1) := by decide +kernel
theorem dX9_keeps_75 : decode cX9_keeps 75 = .ok (.getfield 47, 3) := by decide +kernel
theorem dX9_keeps_78 : decode cX9_keeps 78 = .ok (.iload_n 3, 1) := by decide +kernel
theorem dX9_keeps_79 : decode cX9_keeps 79 = .ok (.iaload, 1) := by decide +kernel
theorem dX9_keeps_80 : decode cX9_keeps 80 = .ok (.aload_n 0, 1) := by decide +kernel
theorem dX9_keeps_81 : decode cX9_keeps 81 = .ok (.getfield 25, 3) := by decide +kernel
theorem dX9_keeps_84 : decode cX9_keeps 84 = .ok (.iload_n 1, 1) := by decide +kernel
theorem dX9_keeps_85 : decode cX9_keeps 85 = .ok (.iconst 2, 1) := by decide +kernel
theorem dX9_keeps_86 : decode cX9_keeps 86 = .ok (.iadd, 1) := by decide +kernel
theorem dX9_keeps_87 : decode cX9_keeps 87 = .ok (.iaload, 1) := by decide +kernel
theorem dX9_keeps_88 : decode cX9_keeps 88 = .ok (.if_icmp .eq 5, 3) := by decide +kernel
theorem dX9_keeps_91 : decode cX9_keeps 91 = .ok (.iconst 2, 1) := by decide +kernel
theorem dX9_keeps_92 : decode cX9_keeps 92 = .ok (.ireturn, 1) := by decide +kernel
theorem dX9_keeps_93 : decode cX9_keeps 93 = .ok (.aload_n 0, 1) := by decide +kernel
theorem dX9_keeps_94 : decode cX9_keeps 94 = .ok (.iconst 0, 1) := by decide +kernel
theorem dX9_keeps_95 : decode cX9_keeps 95 = .ok (.iload_n 2, 1) := by decide +kernel
theorem dX9_keeps_96 : decode cX9_keeps 96 = .ok (.aload_n 0, 1) := by decide +kernel
theorem dX9_keeps_97 : decode cX9_keeps 97 = .ok (.getfield 25, 3) := by decide +kernel
theorem dX9_keeps_100 : decode cX9_keeps 100 = .ok (.iload_n 1, 1) := by decide +kernel
theorem dX9_keeps_101 : decode cX9_keeps 101 = .ok (.iconst 2, 1) := by decide +kernel
theorem dX9_keeps_102 : decode cX9_keeps 102 = .ok (.iadd, 1) := by decide +kernel
theorem dX9_keeps_103 : decode cX9_keeps 103 = .ok (.iaload, 1) := by decide +kernel
theorem dX9_keeps_104 : decode cX9_keeps 104 = .ok (.aload_n 0, 1) := by decide +kernel
theorem dX9_keeps_105 : decode cX9_keeps 105 = .ok (.getfield 25, 3) := by decide +kernel
theorem dX9_keeps_108 : decode cX9_keeps 108 = .ok (.iload_n 1, 1) := by decide +kernel
theorem dX9_keeps_109 : decode cX9_keeps 109 = .ok (.iconst 3, 1) := by decide +kernel
theorem dX9_keeps_110 : decode cX9_keeps 110 = .ok (.iadd, 1) := by decide +kernel
theorem dX9_keeps_111 : decode cX9_keeps 111 = .ok (.iaload, 1) := by decide +kernel
theorem dX9_keeps_112 : decode cX9_keeps 112 = .ok (.iconst 0, 1) := by decide +kernel
theorem dX9_keeps_113 : decode cX9_keeps 113 = .ok (.iconst 0, 1) := by decide +kernel
theorem dX9_keeps_114 : decode cX9_keeps 114 = .ok (.iconst 0, 1) := by decide +kernel
theorem dX9_keeps_115 : decode cX9_keeps 115 = .ok (.invokevirtual 233, 3) := by decide +kernel
theorem dX9_keeps_118 : decode cX9_keeps 118 = .ok (.iconst 0, 1) := by decide +kernel
theorem dX9_keeps_119 : decode cX9_keeps 119 = .ok (.ireturn, 1) := by decide +kernel
theorem dX9_keeps_120 : decode cX9_keeps 120 = .ok (.iload_n 3, 1) := by decide +kernel
theorem dX9_keeps_121 : decode cX9_keeps 121 = .ok (.iconst (-1), 1) := by decide +kernel
theorem dX9_keeps_122 : decode cX9_keeps 122 = .ok (.if_icmp .ne 5, 3) := by decide +kernel
theorem dX9_keeps_125 : decode cX9_keeps 125 = .ok (.iconst 0, 1) := by decide +kernel
theorem dX9_keeps_126 : decode cX9_keeps 126 = .ok (.ireturn, 1) := by decide +kernel
theorem dX9_keeps_127 : decode cX9_keeps 127 = .ok (.iload_n 3, 1) := by decide +kernel
theorem dX9_keeps_128 : decode cX9_keeps 128 = .ok (.ifCond .eq 11, 3) := by decide +kernel
theorem dX9_keeps_131 : decode cX9_keeps 131 = .ok (.aload_n 0, 1) := by decide +kernel
theorem dX9_keeps_132 : decode cX9_keeps 132 = .ok (.iload_n 3, 1) := by decide +kernel
theorem dX9_keeps_133 : decode cX9_keeps 133 = .ok (.invokevirtual 178, 3) := by decide +kernel
theorem dX9_keeps_136 : decode cX9_keeps 136 = .ok (.ifCond .le 5, 3) := by decide +kernel
theorem dX9_keeps_139 : decode cX9_keeps 139 = .ok (.iconst 3, 1) := by decide +kernel
theorem dX9_keeps_140 : decode cX9_keeps 140 = .ok (.ireturn, 1) := by decide +kernel
theorem dX9_keeps_141 : decode cX9_keeps 141 = .ok (.aload_n 0, 1) := by decide +kernel
theorem dX9_keeps_142 : decode cX9_keeps 142 = .ok (.getfield 47, 3) := by decide +kernel
theorem dX9_keeps_145 : decode cX9_keeps 145 = .ok (.iload_n 3, 1) := by decide +kernel
theorem dX9_keeps_146 : decode cX9_keeps 146 = .ok (.iaload, 1) := by decide +kernel
theorem dX9_keeps_147 : decode cX9_keeps 147 = .ok (.aload_n 0, 1) := by decide +kernel
theorem dX9_keeps_148 : decode cX9_keeps 148 = .ok (.getfield 25, 3) := by decide +kernel
theorem dX9_keeps_151 : decode cX9_keeps 151 = .ok (.iload_n 1, 1) := by decide +kernel
theorem dX9_keeps_152 : decode cX9_keeps 152 = .ok (.iconst 2, 1) := by decide +kernel
theorem dX9_keeps_153 : decode cX9_keeps 153 = .ok (.iadd, 1) := by decide +kernel
theorem dX9_keeps_154 : decode cX9_keeps 154 = .ok (.iaload, 1) := by decide +kernel
theorem dX9_keeps_155 : decode cX9_keeps 155 = .ok (.if_icmp .eq 5, 3) := by decide +kernel
theorem dX9_keeps_158 : decode cX9_keeps 158 = .ok (.iconst 2, 1) := by decide +kernel
theorem dX9_keeps_159 : decode cX9_keeps 159 = .ok (.ireturn, 1) := by decide +kernel
theorem dX9_keeps_160 : decode cX9_keeps 160 = .ok (.aload_n 0, 1) := by decide +kernel
theorem dX9_keeps_161 : decode cX9_keeps 161 = .ok (.iconst 1, 1) := by decide +kernel
theorem dX9_keeps_162 : decode cX9_keeps 162 = .ok (.iload_n 2, 1) := by decide +kernel
theorem dX9_keeps_163 : decode cX9_keeps 163 = .ok (.aload_n 0, 1) := by decide +kernel
theorem dX9_keeps_164 : decode cX9_keeps 164 = .ok (.getfield 47, 3) := by decide +kernel
theorem dX9_keeps_167 : decode cX9_keeps 167 = .ok (.iload_n 3, 1) := by decide +kernel
theorem dX9_keeps_168 : decode cX9_keeps 168 = .ok (.iaload, 1) := by decide +kernel
theorem dX9_keeps_169 : decode cX9_keeps 169 = .ok (.aload_n 0, 1) := by decide +kernel
theorem dX9_keeps_170 : decode cX9_keeps 170 = .ok (.iload_n 3, 1) := by decide +kernel
theorem dX9_keeps_171 : decode cX9_keeps 171 = .ok (.invokevirtual 172, 3) := by decide +kernel
theorem dX9_keeps_174 : decode cX9_keeps 174 = .ok (.aload_n 0, 1) := by decide +kernel
theorem dX9_keeps_175 : decode cX9_keeps 175 = .ok (.iload_n 3, 1) := by decide +kernel
theorem dX9_keeps_176 : decode cX9_keeps 176 = .ok (.invokevirtual 175, 3) := by decide +kernel
theorem dX9_keeps_179 : decode cX9_keeps 179 = .ok (.iconst 0, 1) := by decide +kernel
theorem dX9_keeps_180 : decode cX9_keeps 180 = .ok (.iconst 0, 1) := by decide +kernel
theorem dX9_keeps_181 : decode cX9_keeps 181 = .ok (.invokevirtual 233, 3) := by decide +kernel
theorem dX9_keeps_184 : decode cX9_keeps 184 = .ok (.iconst 0, 1) := by decide +kernel
theorem dX9_keeps_185 : decode cX9_keeps 185 = .ok (.ireturn, 1) := by decide +kernel
theorem dX9_keeps_186 : decode cX9_keeps 186 = .ok (.aload_n 0, 1) := by decide +kernel
theorem dX9_keeps_187 : decode cX9_keeps 187 = .ok (.iload_n 1, 1) := by decide +kernel
theorem dX9_keeps_188 : decode cX9_keeps 188 = .ok (.iload_n 2, 1) := by decide +kernel
theorem dX9_keeps_189 : decode cX9_keeps 189 = .ok (.iload_n 3, 1) := by decide +kernel
theorem dX9_keeps_190 : decode cX9_keeps 190 = .ok (.invokevirtual 276, 3) := by decide +kernel
theorem dX9_keeps_193 : decode cX9_keeps 193 = .ok (.ireturn, 1) := by decide +kernel
theorem dX9_keeps_194 : decode cX9_keeps 194 = .ok (.aload_n 0, 1) := by decide +kernel
theorem dX9_keeps_195 : decode cX9_keeps 195 = .ok (.iload_n 1, 1) := by decide +kernel
theorem dX9_keeps_196 : decode cX9_keeps 196 = .ok (.iload_n 2, 1) := by decide +kernel
theorem dX9_keeps_197 : decode cX9_keeps 197 = .ok (.iload_n 3, 1) := by decide +kernel
theorem dX9_keeps_198 : decode cX9_keeps 198 = .ok (.invokevirtual 279, 3) := by decide +kernel
theorem dX9_keeps_201 : decode cX9_keeps 201 = .ok (.ireturn, 1) := by decide +kernel
theorem dX9_gives_0 : decode cX9_gives 0 = .ok (.iload_n 3, 1) := by decide +kernel
theorem dX9_gives_1 : decode cX9_gives 1 = .ok (.iconst (-1), 1) := by decide +kernel
theorem dX9_gives_2 : decode cX9_gives 2 = .ok (.if_icmp .eq 42, 3) := by decide +kernel
theorem dX9_gives_5 : decode cX9_gives 5 = .ok (.aload_n 0, 1) := by decide +kernel
theorem dX9_gives_6 : decode cX9_gives 6 = .ok (.getfield 47, 3) := by decide +kernel
theorem dX9_gives_9 : decode cX9_gives 9 = .ok (.iload_n 3, 1) := by decide +kernel
theorem dX9_gives_10 : decode cX9_gives 10 = .ok (.iaload, 1) := by decide +kernel
theorem dX9_gives_11 : decode cX9_gives 11 = .ok (.aload_n 0, 1) := by decide +kernel
theorem dX9_gives_12 : decode cX9_gives 12 = .ok (.getfield 25, 3) := by decide +kernel
theorem dX9_gives_15 : decode cX9_gives 15 = .ok (.iload_n 1, 1) := by decide +kernel
theorem dX9_gives_16 : decode cX9_gives 16 = .ok (.iconst 2, 1) := by decide +kernel
theorem dX9_gives_17 : decode cX9_gives 17 = .ok (.iadd, 1) := by decide +kernel
theorem dX9_gives_18 : decode cX9_gives 18 = .ok (.iaload, 1) := by decide +kernel
theorem dX9_gives_19 : decode cX9_gives 19 = .ok (.if_icmp .ne 23, 3) := by decide +kernel
theorem dX9_gives_22 : decode cX9_gives 22 = .ok (.aload_n 0, 1) := by decide +kernel
theorem dX9_gives_23 : decode cX9_gives 23 = .ok (.iload_n 3, 1) := by decide +kernel
theorem dX9_gives_24 : decode cX9_gives 24 = .ok (.invokevirtual 172, 3) := by decide +kernel
theorem dX9_gives_27 : decode cX9_gives 27 = .ok (.aload_n 0, 1) := by decide +kernel
theorem dX9_gives_28 : decode cX9_gives 28 = .ok (.getfield 25, 3) := by decide +kernel
theorem dX9_gives_31 : decode cX9_gives 31 = .ok (.iload_n 1, 1) := by decide +kernel
theorem dX9_gives_32 : decode cX9_gives 32 = .ok (.iconst 3, 1) := by decide +kernel
theorem dX9_gives_33 : decode cX9_gives 33 = .ok (.iadd, 1) := by decide +kernel
theorem dX9_gives_34 : decode cX9_gives 34 = .ok (.iaload, 1) := by decide +kernel
theorem dX9_gives_35 : decode cX9_gives 35 = .ok (.if_icmp .ne 7, 3) := by decide +kernel
theorem dX9_gives_38 : decode cX9_gives 38 = .ok (.iconst 0, 1) := by decide +kernel
theorem dX9_gives_39 : decode cX9_gives 39 = .ok (.goto 4, 3) := by decide +kernel
theorem dX9_gives_42 : decode cX9_gives 42 = .ok (.iconst 4, 1) := by decide +kernel
theorem dX9_gives_43 : decode cX9_gives 43 = .ok (.ireturn, 1) := by decide +kernel
theorem dX9_gives_44 : decode cX9_gives 44 = .ok (.aload_n 0, 1) := by decide +kernel
theorem dX9_gives_45 : decode cX9_gives 45 = .ok (.aload_n 0, 1) := by decide +kernel
theorem dX9_gives_46 : decode cX9_gives 46 = .ok (.getfield 25, 3) := by decide +kernel
theorem dX9_gives_49 : decode cX9_gives 49 = .ok (.iload_n 1, 1) := by decide +kernel
theorem dX9_gives_50 : decode cX9_gives 50 = .ok (.iconst 3, 1) := by decide +kernel
theorem dX9_gives_51 : decode cX9_gives 51 = .ok (.iadd, 1) := by decide +kernel
theorem dX9_gives_52 : decode cX9_gives 52 = .ok (.iaload, 1) := by decide +kernel
theorem dX9_gives_53 : decode cX9_gives 53 = .ok (.invokevirtual 153, 3) := by decide +kernel
theorem dX9_gives_56 : decode cX9_gives 56 = .ok (.istore 4, 2) := by decide +kernel
theorem dX9_gives_58 : decode cX9_gives 58 = .ok (.iload 4, 2) := by decide +kernel
theorem dX9_gives_60 : decode cX9_gives 60 = .ok (.iconst (-1), 1) := by decide +kernel
theorem dX9_gives_61 : decode cX9_gives 61 = .ok (.if_icmp .ne 5, 3) := by decide +kernel
theorem dX9_gives_64 : decode cX9_gives 64 = .ok (.iconst 1, 1) := by decide +kernel
theorem dX9_gives_65 : decode cX9_gives 65 = .ok (.ireturn, 1) := by decide +kernel
theorem dX9_gives_66 : decode cX9_gives 66 = .ok (.aload_n 0, 1) := by decide +kernel
theorem dX9_gives_67 : decode cX9_gives 67 = .ok (.iconst 2, 1) := by decide +kernel
theorem dX9_gives_68 : decode cX9_gives 68 = .ok (.iload_n 2, 1) := by decide +kernel
theorem dX9_gives_69 : decode cX9_gives 69 = .ok (.aload_n 0, 1) := by decide +kernel
theorem dX9_gives_70 : decode cX9_gives 70 = .ok (.getfield 25, 3) := by decide +kernel
theorem dX9_gives_73 : decode cX9_gives 73 = .ok (.iload_n 1, 1) := by decide +kernel
theorem dX9_gives_74 : decode cX9_gives 74 = .ok (.iconst 2, 1) := by decide +kernel
theorem dX9_gives_75 : decode cX9_gives 75 = .ok (.iadd, 1) := by decide +kernel
theorem dX9_gives_76 : decode cX9_gives 76 = .ok (.iaload, 1) := by decide +kernel
theorem dX9_gives_77 : decode cX9_gives 77 = .ok (.aload_n 0, 1) := by decide +kernel
theorem dX9_gives_78 : decode cX9_gives 78 = .ok (.getfield 25, 3) := by decide +kernel
theorem dX9_gives_81 : decode cX9_gives 81 = .ok (.iload_n 1, 1) := by decide +kernel
theorem dX9_gives_82 : decode cX9_gives 82 = .ok (.iconst 3, 1) := by decide +kernel
theorem dX9_gives_83 : decode cX9_gives 83 = .ok (.iadd, 1) := by decide +kernel
theorem dX9_gives_84 : decode cX9_gives 84 = .ok (.iaload, 1) := by decide +kernel
theorem dX9_gives_85 : decode cX9_gives 85 = .ok (.aload_n 0, 1) := by decide +kernel
theorem dX9_gives_86 : decode cX9_gives 86 = .ok (.getfield 25, 3) := by decide +kernel
theorem dX9_gives_89 : decode cX9_gives 89 = .ok (.iload_n 1, 1) := by decide +kernel
theorem dX9_gives_90 : decode cX9_gives 90 = .ok (.iconst 4, 1) := by decide +kernel
theorem dX9_gives_91 : decode cX9_gives 91 = .ok (.iadd, 1) := by decide +kernel
theorem dX9_gives_92 : decode cX9_gives 92 = .ok (.iaload, 1) := by decide +kernel
theorem dX9_gives_93 : decode cX9_gives 93 = .ok (.aload_n 0, 1) := by decide +kernel
theorem dX9_gives_94 : decode cX9_gives 94 = .ok (.iload 4, 2) := by decide +kernel
theorem dX9_gives_96 : decode cX9_gives 96 = .ok (.invokevirtual 178, 3) := by decide +kernel
theorem dX9_gives_99 : decode cX9_gives 99 = .ok (.invokestatic 282, 3) := by decide +kernel
theorem dX9_gives_102 : decode cX9_gives 102 = .ok (.iconst 0, 1) := by decide +kernel
theorem dX9_gives_103 : decode cX9_gives 103 = .ok (.iconst 0, 1) := by decide +kernel
theorem dX9_gives_104 : decode cX9_gives 104 = .ok (.invokevirtual 233, 3) := by decide +kernel
theorem dX9_gives_107 : decode cX9_gives 107 = .ok (.iconst 0, 1) := by decide +kernel
theorem dX9_gives_108 : decode cX9_gives 108 = .ok (.ireturn, 1) := by decide +kernel
theorem dX9_keepsMove_0 : decode cX9_keepsMove 0 = .ok (.aload_n 0, 1) := by decide +kernel
theorem dX9_keepsMove_1 : decode cX9_keepsMove 1 = .ok (.aload_n 0, 1) := by decide +kernel
theorem dX9_keepsMove_2 : decode cX9_keepsMove 2 = .ok (.getfield 25, 3) := by decide +kernel
theorem dX9_keepsMove_5 : decode cX9_keepsMove 5 = .ok (.iload_n 1, 1) := by decide +kernel
theorem dX9_keepsMove_6 : decode cX9_keepsMove 6 = .ok (.iconst 5, 1) := by decide +kernel
theorem dX9_keepsMove_7 : decode cX9_keepsMove 7 = .ok (.iadd, 1) := by decide +kernel
theorem dX9_keepsMove_8 : decode cX9_keepsMove 8 = .ok (.iaload, 1) := by decide +kernel
theorem dX9_keepsMove_9 : decode cX9_keepsMove 9 = .ok (.invokevirtual 153, 3) := by decide +kernel
theorem dX9_keepsMove_12 : decode cX9_keepsMove 12 = .ok (.istore 4, 2) := by decide +kernel
theorem dX9_keepsMove_14 : decode cX9_keepsMove 14 = .ok (.iload_n 3, 1) := by decide +kernel
theorem dX9_keepsMove_15 : decode cX9_keepsMove 15 = .ok (.iconst (-1), 1) := by decide +kernel
theorem dX9_keepsMove_16 : decode cX9_keepsMove 16 = .ok (.if_icmp .eq 9, 3) := by decide +kernel
theorem dX9_keepsMove_19 : decode cX9_keepsMove 19 = .ok (.iload 4, 2) := by decide +kernel
theorem dX9_keepsMove_21 : decode cX9_keepsMove 21 = .ok (.iconst (-1), 1) := by decide +kernel
theorem dX9_keepsMove_22 : decode cX9_keepsMove 22 = .ok (.if_icmp .ne 5, 3) := by decide +kernel
theorem dX9_keepsMove_25 : decode cX9_keepsMove 25 = .ok (.iconst 1, 1) := by decide +kernel
theorem dX9_keepsMove_26 : decode cX9_keepsMove 26 = .ok (.ireturn, 1) := by decide +kernel
theorem dX9_keepsMove_27 : decode cX9_keepsMove 27 = .ok (.iload_n 3, 1) := by decide +kernel
theorem dX9_keepsMove_28 : decode cX9_keepsMove 28 = .ok (.ifCond .eq 13, 3) := by decide +kernel
theorem dX9_keepsMove_31 : decode cX9_keepsMove 31 = .ok (.aload_n 0, 1) := by decide +kernel
theorem dX9_keepsMove_32 : decode cX9_keepsMove 32 = .ok (.iload 4, 2) := by decide +kernel
theorem dX9_keepsMove_34 : decode cX9_keepsMove 34 = .ok (.iload_n 3, 1) := by decide +kernel
theorem dX9_keepsMove_35 : decode cX9_keepsMove 35 = .ok (.invokevirtual 184, 3) := by decide +kernel
theorem dX9_keepsMove_38 : decode cX9_keepsMove 38 = .ok (.ifCond .eq 5, 3) := by decide +kernel
theorem dX9_keepsMove_41 : decode cX9_keepsMove 41 = .ok (.iconst 5, 1) := by decide +kernel
theorem dX9_keepsMove_42 : decode cX9_keepsMove 42 = .ok (.ireturn, 1) := by decide +kernel
theorem dX9_keepsMove_43 : decode cX9_keepsMove 43 = .ok (.aload_n 0, 1) := by decide +kernel
theorem dX9_keepsMove_44 : decode cX9_keepsMove 44 = .ok (.iload_n 3, 1) := by decide +kernel
theorem dX9_keepsMove_45 : decode cX9_keepsMove 45 = .ok (.invokevirtual 172, 3) := by decide +kernel
theorem dX9_keepsMove_48 : decode cX9_keepsMove 48 = .ok (.istore 5, 2) := by decide +kernel
theorem dX9_keepsMove_50 : decode cX9_keepsMove 50 = .ok (.iload 5, 2) := by decide +kernel
theorem dX9_keepsMove_52 : decode cX9_keepsMove 52 = .ok (.aload_n 0, 1) := by decide +kernel
theorem dX9_keepsMove_53 : decode cX9_keepsMove 53 = .ok (.getfield 25, 3) := by decide +kernel
theorem dX9_keepsMove_56 : decode cX9_keepsMove 56 = .ok (.iload_n 1, 1) := by decide +kernel
theorem dX9_keepsMove_57 : decode cX9_keepsMove 57 = .ok (.iconst 3, 1) := by decide +kernel
theorem dX9_keepsMove_58 : decode cX9_keepsMove 58 = .ok (.iadd, 1) := by decide +kernel
theorem dX9_keepsMove_59 : decode cX9_keepsMove 59 = .ok (.iaload, 1) := by decide +kernel
theorem dX9_keepsMove_60 : decode cX9_keepsMove 60 = .ok (.if_icmp .eq 23, 3) := by decide +kernel
theorem dX9_keepsMove_63 : decode cX9_keepsMove 63 = .ok (.iload 5, 2) := by decide +kernel
theorem dX9_keepsMove_65 : decode cX9_keepsMove 65 = .ok (.aload_n 0, 1) := by decide +kernel
theorem dX9_keepsMove_66 : decode cX9_keepsMove 66 = .ok (.getfield 25, 3) := by decide +kernel
theorem dX9_keepsMove_69 : decode cX9_keepsMove 69 = .ok (.iload_n 1, 1) := by decide +kernel
theorem dX9_keepsMove_70 : decode cX9_keepsMove 70 = .ok (.iconst 5, 1) := by decide +kernel
theorem dX9_keepsMove_71 : decode cX9_keepsMove 71 = .ok (.iadd, 1) := by decide +kernel
theorem dX9_keepsMove_72 : decode cX9_keepsMove 72 = .ok (.iaload, 1) := by decide +kernel
theorem dX9_keepsMove_73 : decode cX9_keepsMove 73 = .ok (.if_icmp .ne 7, 3) := by decide +kernel
theorem dX9_keepsMove_76 : decode cX9_keepsMove 76 = .ok (.iconst 0, 1) := by decide +kernel
theorem dX9_keepsMove_77 : decode cX9_keepsMove 77 = .ok (.goto 5, 3) := by decide +kernel
theorem dX9_keepsMove_80 : decode cX9_keepsMove 80 = .ok (.bipush 6, 2) := by decide +kernel
theorem dX9_keepsMove_82 : decode cX9_keepsMove 82 = .ok (.ireturn, 1) := by decide +kernel
theorem dX9_keepsMove_83 : decode cX9_keepsMove 83 = .ok (.aload_n 0, 1) := by decide +kernel
theorem dX9_keepsMove_84 : decode cX9_keepsMove 84 = .ok (.iload 4, 2) := by decide +kernel
theorem dX9_keepsMove_86 : decode cX9_keepsMove 86 = .ok (.invokevirtual 178, 3) := by decide +kernel
theorem dX9_keepsMove_89 : decode cX9_keepsMove 89 = .ok (.aload_n 0, 1) := by decide +kernel
theorem dX9_keepsMove_90 : decode cX9_keepsMove 90 = .ok (.iload_n 3, 1) := by decide +kernel
theorem dX9_keepsMove_91 : decode cX9_keepsMove 91 = .ok (.invokevirtual 130, 3) := by decide +kernel
theorem dX9_keepsMove_94 : decode cX9_keepsMove 94 = .ok (.iload 4, 2) := by decide +kernel
theorem dX9_keepsMove_96 : decode cX9_keepsMove 96 = .ok (.if_icmp .ne 7, 3) := by decide +kernel
theorem dX9_keepsMove_99 : decode cX9_keepsMove 99 = .ok (.iconst 1, 1) := by decide +kernel
theorem dX9_keepsMove_100 : decode cX9_keepsMove 100 = .ok (.goto 4, 3) := by decide +kernel
theorem dX9_keepsMove_103 : decode cX9_keepsMove 103 = .ok (.iconst 0, 1) := by decide +kernel
theorem dX9_keepsMove_104 : decode cX9_keepsMove 104 = .ok (.isub, 1) := by decide +kernel
theorem dX9_keepsMove_105 : decode cX9_keepsMove 105 = .ok (.istore 6, 2) := by decide +kernel
theorem dX9_keepsMove_107 : decode cX9_keepsMove 107 = .ok (.aload_n 0, 1) := by decide +kernel
theorem dX9_keepsMove_108 : decode cX9_keepsMove 108 = .ok (.iconst 3, 1) := by decide +kernel
theorem dX9_keepsMove_109 : decode cX9_keepsMove 109 = .ok (.iload_n 2, 1) := by decide +kernel
theorem dX9_keepsMove_110 : decode cX9_keepsMove 110 = .ok (.iconst 0, 1) := by decide +kernel
theorem dX9_keepsMove_111 : decode cX9_keepsMove 111 = .ok (.iload 5, 2) := by decide +kernel
theorem dX9_keepsMove_113 : decode cX9_keepsMove 113 = .ok (.aload_n 0, 1) := by decide +kernel
theorem dX9_keepsMove_114 : decode cX9_keepsMove 114 = .ok (.iload_n 3, 1) := by decide +kernel
theorem dX9_keepsMove_115 : decode cX9_keepsMove 115 = .ok (.invokevirtual 175, 3) := by decide +kernel
theorem dX9_keepsMove_118 : decode cX9_keepsMove 118 = .ok (.aload_n 0, 1) := by decide +kernel
theorem dX9_keepsMove_119 : decode cX9_keepsMove 119 = .ok (.getfield 25, 3) := by decide +kernel
theorem dX9_keepsMove_122 : decode cX9_keepsMove 122 = .ok (.iload_n 1, 1) := by decide +kernel
theorem dX9_keepsMove_123 : decode cX9_keepsMove 123 = .ok (.iconst 5, 1) := by decide +kernel
theorem dX9_keepsMove_124 : decode cX9_keepsMove 124 = .ok (.iadd, 1) := by decide +kernel
theorem dX9_keepsMove_125 : decode cX9_keepsMove 125 = .ok (.iaload, 1) := by decide +kernel
theorem dX9_keepsMove_126 : decode cX9_keepsMove 126 = .ok (.aload_n 0, 1) := by decide +kernel
theorem dX9_keepsMove_127 : decode cX9_keepsMove 127 = .ok (.getfield 25, 3) := by decide +kernel
theorem dX9_keepsMove_130 : decode cX9_keepsMove 130 = .ok (.iload_n 1, 1) := by decide +kernel
theorem dX9_keepsMove_131 : decode cX9_keepsMove 131 = .ok (.bipush 6, 2) := by decide +kernel
theorem dX9_keepsMove_133 : decode cX9_keepsMove 133 = .ok (.iadd, 1) := by decide +kernel
theorem dX9_keepsMove_134 : decode cX9_keepsMove 134 = .ok (.iaload, 1) := by decide +kernel
theorem dX9_keepsMove_135 : decode cX9_keepsMove 135 = .ok (.iload 6, 2) := by decide +kernel
theorem dX9_keepsMove_137 : decode cX9_keepsMove 137 = .ok (.invokestatic 282, 3) := by decide +kernel
theorem dX9_keepsMove_140 : decode cX9_keepsMove 140 = .ok (.invokevirtual 233, 3) := by decide +kernel
theorem dX9_keepsMove_143 : decode cX9_keepsMove 143 = .ok (.iconst 0, 1) := by decide +kernel
theorem dX9_keepsMove_144 : decode cX9_keepsMove 144 = .ok (.ireturn, 1) := by decide +kernel
theorem dX9_rebase_0 : decode cX9_rebase 0 = .ok (.aload_n 0, 1) := by decide +kernel
theorem dX9_rebase_1 : decode cX9_rebase 1 = .ok (.iload_n 1, 1) := by decide +kernel
theorem dX9_rebase_2 : decode cX9_rebase 2 = .ok (.invokevirtual 120, 3) := by decide +kernel
theorem dX9_rebase_5 : decode cX9_rebase 5 = .ok (.ifCond .eq 11, 3) := by decide +kernel
theorem dX9_rebase_8 : decode cX9_rebase 8 = .ok (.aload_n 0, 1) := by decide +kernel
theorem dX9_rebase_9 : decode cX9_rebase 9 = .ok (.iload_n 2, 1) := by decide +kernel
theorem dX9_rebase_10 : decode cX9_rebase 10 = .ok (.invokevirtual 166, 3) := by decide +kernel
theorem dX9_rebase_13 : decode cX9_rebase 13 = .ok (.ifCond .ne 9, 3) := by decide +kernel
theorem dX9_rebase_16 : decode cX9_rebase 16 = .ok (.aload_n 0, 1) := by decide +kernel
theorem dX9_rebase_17 : decode cX9_rebase 17 = .ok (.iconst (-1), 1) := by decide +kernel
theorem dX9_rebase_18 : decode cX9_rebase 18 = .ok (.invokevirtual 99, 3) := by decide +kernel
theorem dX9_rebase_21 : decode cX9_rebase 21 = .ok (.ireturn, 1) := by decide +kernel
theorem dX9_rebase_22 : decode cX9_rebase 22 = .ok (.aload_n 0, 1) := by decide +kernel
theorem dX9_rebase_23 : decode cX9_rebase 23 = .ok (.iload_n 2, 1) := by decide +kernel
theorem dX9_rebase_24 : decode cX9_rebase 24 = .ok (.invokevirtual 169, 3) := by decide +kernel
theorem dX9_rebase_27 : decode cX9_rebase 27 = .ok (.aload_n 0, 1) := by decide +kernel
theorem dX9_rebase_28 : decode cX9_rebase 28 = .ok (.iconst 0, 1) := by decide +kernel
theorem dX9_rebase_29 : decode cX9_rebase 29 = .ok (.putfield 200, 3) := by decide +kernel
theorem dX9_rebase_32 : decode cX9_rebase 32 = .ok (.aload_n 0, 1) := by decide +kernel
theorem dX9_rebase_33 : decode cX9_rebase 33 = .ok (.iconst 0, 1) := by decide +kernel
theorem dX9_rebase_34 : decode cX9_rebase 34 = .ok (.putfield 242, 3) := by decide +kernel
theorem dX9_rebase_37 : decode cX9_rebase 37 = .ok (.iconst 0, 1) := by decide +kernel
theorem dX9_rebase_38 : decode cX9_rebase 38 = .ok (.istore_n 3, 1) := by decide +kernel
theorem dX9_rebase_39 : decode cX9_rebase 39 = .ok (.iload_n 3, 1) := by decide +kernel
theorem dX9_rebase_40 : decode cX9_rebase 40 = .ok (.aload_n 0, 1) := by decide +kernel
theorem dX9_rebase_41 : decode cX9_rebase 41 = .ok (.iconst 0, 1) := by decide +kernel
theorem dX9_rebase_42 : decode cX9_rebase 42 = .ok (.iload_n 1, 1) := by decide +kernel
theorem dX9_rebase_43 : decode cX9_rebase 43 = .ok (.invokevirtual 123, 3) := by decide +kernel
theorem dX9_rebase_46 : decode cX9_rebase 46 = .ok (.if_icmp .ge 70, 3) := by decide +kernel
theorem dX9_rebase_49 : decode cX9_rebase 49 = .ok (.aload_n 0, 1) := by decide +kernel
theorem dX9_rebase_50 : decode cX9_rebase 50 = .ok (.sipush 840, 3) := by decide +kernel
theorem dX9_rebase_53 : decode cX9_rebase 53 = .ok (.iload_n 1, 1) := by decide +kernel
theorem dX9_rebase_54 : decode cX9_rebase 54 = .ok (.imul, 1) := by decide +kernel
theorem dX9_rebase_55 : decode cX9_rebase 55 = .ok (.bipush 7, 2) := by decide +kernel
theorem dX9_rebase_57 : decode cX9_rebase 57 = .ok (.iload_n 3, 1) := by decide +kernel
theorem dX9_rebase_58 : decode cX9_rebase 58 = .ok (.imul, 1) := by decide +kernel
theorem dX9_rebase_59 : decode cX9_rebase 59 = .ok (.iadd, 1) := by decide +kernel
theorem dX9_rebase_60 : decode cX9_rebase 60 = .ok (.invokevirtual 285, 3) := by decide +kernel
theorem dX9_rebase_63 : decode cX9_rebase 63 = .ok (.istore 4, 2) := by decide +kernel
theorem dX9_rebase_65 : decode cX9_rebase 65 = .ok (.iload 4, 2) := by decide +kernel
theorem dX9_rebase_67 : decode cX9_rebase 67 = .ok (.ifCond .ne 6, 3) := by decide +kernel
theorem dX9_rebase_70 : decode cX9_rebase 70 = .ok (.goto 40, 3) := by decide +kernel
theorem dX9_rebase_73 : decode cX9_rebase 73 = .ok (.aload_n 0, 1) := by decide +kernel
theorem dX9_rebase_74 : decode cX9_rebase 74 = .ok (.getfield 65, 3) := by decide +kernel
theorem dX9_rebase_77 : decode cX9_rebase 77 = .ok (.iconst 2, 1) := by decide +kernel
theorem dX9_rebase_78 : decode cX9_rebase 78 = .ok (.aload_n 0, 1) := by decide +kernel
theorem dX9_rebase_79 : decode cX9_rebase 79 = .ok (.getfield 242, 3) := by decide +kernel
theorem dX9_rebase_82 : decode cX9_rebase 82 = .ok (.imul, 1) := by decide +kernel
theorem dX9_rebase_83 : decode cX9_rebase 83 = .ok (.iload_n 3, 1) := by decide +kernel
theorem dX9_rebase_84 : decode cX9_rebase 84 = .ok (.iastore, 1) := by decide +kernel
theorem dX9_rebase_85 : decode cX9_rebase 85 = .ok (.aload_n 0, 1) := by decide +kernel
theorem dX9_rebase_86 : decode cX9_rebase 86 = .ok (.getfield 65, 3) := by decide +kernel
theorem dX9_rebase_89 : decode cX9_rebase 89 = .ok (.iconst 2, 1) := by decide +kernel
theorem dX9_rebase_90 : decode cX9_rebase 90 = .ok (.aload_n 0, 1) := by decide +kernel
theorem dX9_rebase_91 : decode cX9_rebase 91 = .ok (.getfield 242, 3) := by decide +kernel
theorem dX9_rebase_94 : decode cX9_rebase 94 = .ok (.imul, 1) := by decide +kernel
theorem dX9_rebase_95 : decode cX9_rebase 95 = .ok (.iconst 1, 1) := by decide +kernel
theorem dX9_rebase_96 : decode cX9_rebase 96 = .ok (.iadd, 1) := by decide +kernel
theorem dX9_rebase_97 : decode cX9_rebase 97 = .ok (.iload 4, 2) := by decide +kernel
theorem dX9_rebase_99 : decode cX9_rebase 99 = .ok (.iastore, 1) := by decide +kernel
theorem dX9_rebase_100 : decode cX9_rebase 100 = .ok (.aload_n 0, 1) := by decide +kernel
theorem dX9_rebase_101 : decode cX9_rebase 101 = .ok (.dup, 1) := by decide +kernel
theorem dX9_rebase_102 : decode cX9_rebase 102 = .ok (.getfield 242, 3) := by decide +kernel
theorem dX9_rebase_105 : decode cX9_rebase 105 = .ok (.iconst 1, 1) := by decide +kernel
theorem dX9_rebase_106 : decode cX9_rebase 106 = .ok (.iadd, 1) := by decide +kernel
theorem dX9_rebase_107 : decode cX9_rebase 107 = .ok (.putfield 242, 3) := by decide +kernel
theorem dX9_rebase_110 : decode cX9_rebase 110 = .ok (.iinc 3 1, 3) := by decide +kernel
theorem dX9_rebase_113 : decode cX9_rebase 113 = .ok (.goto (-74), 3) := by decide +kernel
theorem dX9_rebase_116 : decode cX9_rebase 116 = .ok (.aload_n 0, 1) := by decide +kernel
theorem dX9_rebase_117 : decode cX9_rebase 117 = .ok (.iconst 3, 1) := by decide +kernel
theorem dX9_rebase_118 : decode cX9_rebase 118 = .ok (.iload_n 1, 1) := by decide +kernel
theorem dX9_rebase_119 : decode cX9_rebase 119 = .ok (.invokevirtual 251, 3) := by decide +kernel
theorem dX9_rebase_122 : decode cX9_rebase 122 = .ok (.ireturn, 1) := by decide +kernel
theorem dX9_conflict_0 : decode cX9_conflict 0 = .ok (.aload_n 0, 1) := by decide +kernel
theorem dX9_conflict_1 : decode cX9_conflict 1 = .ok (.iload_n 1, 1) := by decide +kernel
theorem dX9_conflict_2 : decode cX9_conflict 2 = .ok (.invokevirtual 120, 3) := by decide +kernel
theorem dX9_conflict_5 : decode cX9_conflict 5 = .ok (.ifCond .ne 9, 3) := by decide +kernel
theorem dX9_conflict_8 : decode cX9_conflict 8 = .ok (.aload_n 0, 1) := by decide +kernel
theorem dX9_conflict_9 : decode cX9_conflict 9 = .ok (.iconst (-1), 1) := by decide +kernel
theorem dX9_conflict_10 : decode cX9_conflict 10 = .ok (.invokevirtual 99, 3) := by decide +kernel
theorem dX9_conflict_13 : decode cX9_conflict 13 = .ok (.ireturn, 1) := by decide +kernel
theorem dX9_conflict_14 : decode cX9_conflict 14 = .ok (.iload_n 2, 1) := by decide +kernel
theorem dX9_conflict_15 : decode cX9_conflict 15 = .ok (.iconst 0, 1) := by decide +kernel
theorem dX9_conflict_16 : decode cX9_conflict 16 = .ok (.aload_n 0, 1) := by decide +kernel
theorem dX9_conflict_17 : decode cX9_conflict 17 = .ok (.iconst 4, 1) := by decide +kernel
theorem dX9_conflict_18 : decode cX9_conflict 18 = .ok (.iload_n 1, 1) := by decide +kernel
theorem dX9_conflict_19 : decode cX9_conflict 19 = .ok (.invokevirtual 123, 3) := by decide +kernel
theorem dX9_conflict_22 : decode cX9_conflict 22 = .ok (.iconst 1, 1) := by decide +kernel
theorem dX9_conflict_23 : decode cX9_conflict 23 = .ok (.isub, 1) := by decide +kernel
theorem dX9_conflict_24 : decode cX9_conflict 24 = .ok (.invokestatic 106, 3) := by decide +kernel
theorem dX9_conflict_27 : decode cX9_conflict 27 = .ok (.ifCond .eq 31, 3) := by decide +kernel
theorem dX9_conflict_30 : decode cX9_conflict 30 = .ok (.iload_n 3, 1) := by decide +kernel
theorem dX9_conflict_31 : decode cX9_conflict 31 = .ok (.iconst 0, 1) := by decide +kernel
theorem dX9_conflict_32 : decode cX9_conflict 32 = .ok (.iconst 1, 1) := by decide +kernel
theorem dX9_conflict_33 : decode cX9_conflict 33 = .ok (.invokestatic 106, 3) := by decide +kernel
theorem dX9_conflict_36 : decode cX9_conflict 36 = .ok (.ifCond .eq 22, 3) := by decide +kernel
theorem dX9_conflict_39 : decode cX9_conflict 39 = .ok (.aload_n 0, 1) := by decide +kernel
theorem dX9_conflict_40 : decode cX9_conflict 40 = .ok (.getfield 28, 3) := by decide +kernel
theorem dX9_conflict_43 : decode cX9_conflict 43 = .ok (.sipush 240, 3) := by decide +kernel
theorem dX9_conflict_46 : decode cX9_conflict 46 = .ok (.iload_n 1, 1) := by decide +kernel
theorem dX9_conflict_47 : decode cX9_conflict 47 = .ok (.imul, 1) := by decide +kernel
theorem dX9_conflict_48 : decode cX9_conflict 48 = .ok (.iconst 2, 1) := by decide +kernel
theorem dX9_conflict_49 : decode cX9_conflict 49 = .ok (.iload_n 2, 1) := by decide +kernel
theorem dX9_conflict_50 : decode cX9_conflict 50 = .ok (.imul, 1) := by decide +kernel
theorem dX9_conflict_51 : decode cX9_conflict 51 = .ok (.iadd, 1) := by decide +kernel
theorem dX9_conflict_52 : decode cX9_conflict 52 = .ok (.iload_n 3, 1) := by decide +kernel
theorem dX9_conflict_53 : decode cX9_conflict 53 = .ok (.iadd, 1) := by decide +kernel
theorem dX9_conflict_54 : decode cX9_conflict 54 = .ok (.iaload, 1) := by decide +kernel
theorem dX9_conflict_55 : decode cX9_conflict 55 = .ok (.goto 9, 3) := by decide +kernel
theorem dX9_conflict_58 : decode cX9_conflict 58 = .ok (.aload_n 0, 1) := by decide +kernel
theorem dX9_conflict_59 : decode cX9_conflict 59 = .ok (.bipush (-5), 2) := by decide +kernel
theorem dX9_conflict_61 : decode cX9_conflict 61 = .ok (.invokevirtual 99, 3) := by decide +kernel
theorem dX9_conflict_64 : decode cX9_conflict 64 = .ok (.ireturn, 1) := by decide +kernel
theorem dX9_hand_0 : decode cX9_hand 0 = .ok (.aload_n 0, 1) := by decide +kernel
theorem dX9_hand_1 : decode cX9_hand 1 = .ok (.iload_n 3, 1) := by decide +kernel
theorem dX9_hand_2 : decode cX9_hand 2 = .ok (.invokevirtual 166, 3) := by decide +kernel
theorem dX9_hand_5 : decode cX9_hand 5 = .ok (.ifCond .ne 9, 3) := by decide +kernel
theorem dX9_hand_8 : decode cX9_hand 8 = .ok (.aload_n 0, 1) := by decide +kernel
theorem dX9_hand_9 : decode cX9_hand 9 = .ok (.iconst (-1), 1) := by decide +kernel
theorem dX9_hand_10 : decode cX9_hand 10 = .ok (.invokevirtual 99, 3) := by decide +kernel
theorem dX9_hand_13 : decode cX9_hand 13 = .ok (.ireturn, 1) := by decide +kernel
theorem dX9_hand_14 : decode cX9_hand 14 = .ok (.aload_n 0, 1) := by decide +kernel
theorem dX9_hand_15 : decode cX9_hand 15 = .ok (.iload_n 3, 1) := by decide +kernel
theorem dX9_hand_16 : decode cX9_hand 16 = .ok (.invokevirtual 169, 3) := by decide +kernel
theorem dX9_hand_19 : decode cX9_hand 19 = .ok (.aload_n 0, 1) := by decide +kernel
theorem dX9_hand_20 : decode cX9_hand 20 = .ok (.iload_n 1, 1) := by decide +kernel
theorem dX9_hand_21 : decode cX9_hand 21 = .ok (.invokevirtual 153, 3) := by decide +kernel
theorem dX9_hand_24 : decode cX9_hand 24 = .ok (.istore 4, 2) := by decide +kernel
theorem dX9_hand_26 : decode cX9_hand 26 = .ok (.iload 4, 2) := by decide +kernel
theorem dX9_hand_28 : decode cX9_hand 28 = .ok (.iconst (-1), 1) := by decide +kernel
theorem dX9_hand_29 : decode cX9_hand 29 = .ok (.if_icmp .ne 10, 3) := by decide +kernel
theorem dX9_hand_32 : decode cX9_hand 32 = .ok (.aload_n 0, 1) := by decide +kernel
theorem dX9_hand_33 : decode cX9_hand 33 = .ok (.bipush (-5), 2) := by decide +kernel
theorem dX9_hand_35 : decode cX9_hand 35 = .ok (.invokevirtual 99, 3) := by decide +kernel
theorem dX9_hand_38 : decode cX9_hand 38 = .ok (.ireturn, 1) := by decide +kernel
theorem dX9_hand_39 : decode cX9_hand 39 = .ok (.iload_n 2, 1) := by decide +kernel
theorem dX9_hand_40 : decode cX9_hand 40 = .ok (.bipush 97, 2) := by decide +kernel
theorem dX9_hand_42 : decode cX9_hand 42 = .ok (.bipush 122, 2) := by decide +kernel
theorem dX9_hand_44 : decode cX9_hand 44 = .ok (.invokestatic 106, 3) := by decide +kernel
theorem dX9_hand_47 : decode cX9_hand 47 = .ok (.ifCond .ne 10, 3) := by decide +kernel
theorem dX9_hand_50 : decode cX9_hand 50 = .ok (.aload_n 0, 1) := by decide +kernel
theorem dX9_hand_51 : decode cX9_hand 51 = .ok (.bipush (-6), 2) := by decide +kernel
theorem dX9_hand_53 : decode cX9_hand 53 = .ok (.invokevirtual 99, 3) := by decide +kernel
theorem dX9_hand_56 : decode cX9_hand 56 = .ok (.ireturn, 1) := by decide +kernel
theorem dX9_hand_57 : decode cX9_hand 57 = .ok (.aload_n 0, 1) := by decide +kernel
theorem dX9_hand_58 : decode cX9_hand 58 = .ok (.iconst 0, 1) := by decide +kernel
theorem dX9_hand_59 : decode cX9_hand 59 = .ok (.putfield 200, 3) := by decide +kernel
theorem dX9_hand_62 : decode cX9_hand 62 = .ok (.aload_n 0, 1) := by decide +kernel
theorem dX9_hand_63 : decode cX9_hand 63 = .ok (.iconst 0, 1) := by decide +kernel
theorem dX9_hand_64 : decode cX9_hand 64 = .ok (.iload_n 1, 1) := by decide +kernel
theorem dX9_hand_65 : decode cX9_hand 65 = .ok (.aload_n 0, 1) := by decide +kernel
theorem dX9_hand_66 : decode cX9_hand 66 = .ok (.getfield 47, 3) := by decide +kernel
theorem dX9_hand_69 : decode cX9_hand 69 = .ok (.iload 4, 2) := by decide +kernel
theorem dX9_hand_71 : decode cX9_hand 71 = .ok (.iaload, 1) := by decide +kernel
theorem dX9_hand_72 : decode cX9_hand 72 = .ok (.iload_n 2, 1) := by decide +kernel
theorem dX9_hand_73 : decode cX9_hand 73 = .ok (.iconst 0, 1) := by decide +kernel
theorem dX9_hand_74 : decode cX9_hand 74 = .ok (.iconst 0, 1) := by decide +kernel
theorem dX9_hand_75 : decode cX9_hand 75 = .ok (.iconst 0, 1) := by decide +kernel
theorem dX9_hand_76 : decode cX9_hand 76 = .ok (.invokevirtual 203, 3) := by decide +kernel
theorem dX9_hand_79 : decode cX9_hand 79 = .ok (.aload_n 0, 1) := by decide +kernel
theorem dX9_hand_80 : decode cX9_hand 80 = .ok (.iconst 0, 1) := by decide +kernel
theorem dX9_hand_81 : decode cX9_hand 81 = .ok (.iconst (-1), 1) := by decide +kernel
theorem dX9_hand_82 : decode cX9_hand 82 = .ok (.invokevirtual 251, 3) := by decide +kernel
theorem dX9_hand_85 : decode cX9_hand 85 = .ok (.ireturn, 1) := by decide +kernel
theorem dX9_put_0 : decode cX9_put 0 = .ok (.aload_n 0, 1) := by decide +kernel
theorem dX9_put_1 : decode cX9_put 1 = .ok (.iload_n 1, 1) := by decide +kernel
theorem dX9_put_2 : decode cX9_put 2 = .ok (.invokevirtual 166, 3) := by decide +kernel
theorem dX9_put_5 : decode cX9_put 5 = .ok (.ifCond .ne 9, 3) := by decide +kernel
theorem dX9_put_8 : decode cX9_put 8 = .ok (.aload_n 0, 1) := by decide +kernel
theorem dX9_put_9 : decode cX9_put 9 = .ok (.iconst (-1), 1) := by decide +kernel
theorem dX9_put_10 : decode cX9_put 10 = .ok (.invokevirtual 99, 3) := by decide +kernel
theorem dX9_put_13 : decode cX9_put 13 = .ok (.ireturn, 1) := by decide +kernel
theorem dX9_put_14 : decode cX9_put 14 = .ok (.aload_n 0, 1) := by decide +kernel
theorem dX9_put_15 : decode cX9_put 15 = .ok (.iload_n 1, 1) := by decide +kernel
theorem dX9_put_16 : decode cX9_put 16 = .ok (.invokevirtual 169, 3) := by decide +kernel
theorem dX9_put_19 : decode cX9_put 19 = .ok (.aload_n 0, 1) := by decide +kernel
theorem dX9_put_20 : decode cX9_put 20 = .ok (.iload_n 2, 1) := by decide +kernel
theorem dX9_put_21 : decode cX9_put 21 = .ok (.invokevirtual 153, 3) := by decide +kernel
theorem dX9_put_24 : decode cX9_put 24 = .ok (.istore 5, 2) := by decide +kernel
theorem dX9_put_26 : decode cX9_put 26 = .ok (.iload 5, 2) := by decide +kernel
theorem dX9_put_28 : decode cX9_put 28 = .ok (.iconst (-1), 1) := by decide +kernel
theorem dX9_put_29 : decode cX9_put 29 = .ok (.if_icmp .eq 12, 3) := by decide +kernel
theorem dX9_put_32 : decode cX9_put 32 = .ok (.aload_n 0, 1) := by decide +kernel
theorem dX9_put_33 : decode cX9_put 33 = .ok (.iload_n 3, 1) := by decide +kernel
theorem dX9_put_34 : decode cX9_put 34 = .ok (.invokevirtual 153, 3) := by decide +kernel
theorem dX9_put_37 : decode cX9_put 37 = .ok (.iconst (-1), 1) := by decide +kernel
theorem dX9_put_38 : decode cX9_put 38 = .ok (.if_icmp .ne 10, 3) := by decide +kernel
theorem dX9_put_41 : decode cX9_put 41 = .ok (.aload_n 0, 1) := by decide +kernel
theorem dX9_put_42 : decode cX9_put 42 = .ok (.bipush (-5), 2) := by decide +kernel
theorem dX9_put_44 : decode cX9_put 44 = .ok (.invokevirtual 99, 3) := by decide +kernel
theorem dX9_put_47 : decode cX9_put 47 = .ok (.ireturn, 1) := by decide +kernel
theorem dX9_put_48 : decode cX9_put 48 = .ok (.aload_n 0, 1) := by decide +kernel
theorem dX9_put_49 : decode cX9_put 49 = .ok (.iconst 0, 1) := by decide +kernel
theorem dX9_put_50 : decode cX9_put 50 = .ok (.putfield 200, 3) := by decide +kernel
theorem dX9_put_53 : decode cX9_put 53 = .ok (.aload_n 0, 1) := by decide +kernel
theorem dX9_put_54 : decode cX9_put 54 = .ok (.iconst 3, 1) := by decide +kernel
theorem dX9_put_55 : decode cX9_put 55 = .ok (.iload_n 2, 1) := by decide +kernel
theorem dX9_put_56 : decode cX9_put 56 = .ok (.iconst 0, 1) := by decide +kernel
theorem dX9_put_57 : decode cX9_put 57 = .ok (.aload_n 0, 1) := by decide +kernel
theorem dX9_put_58 : decode cX9_put 58 = .ok (.iload 5, 2) := by decide +kernel
theorem dX9_put_60 : decode cX9_put 60 = .ok (.invokevirtual 172, 3) := by decide +kernel
theorem dX9_put_63 : decode cX9_put 63 = .ok (.iload 5, 2) := by decide +kernel
theorem dX9_put_65 : decode cX9_put 65 = .ok (.ifCond .ne 7, 3) := by decide +kernel
theorem dX9_put_68 : decode cX9_put 68 = .ok (.iconst 0, 1) := by decide +kernel
theorem dX9_put_69 : decode cX9_put 69 = .ok (.goto 9, 3) := by decide +kernel
theorem dX9_put_72 : decode cX9_put 72 = .ok (.aload_n 0, 1) := by decide +kernel
theorem dX9_put_73 : decode cX9_put 73 = .ok (.iload 5, 2) := by decide +kernel
theorem dX9_put_75 : decode cX9_put 75 = .ok (.invokevirtual 175, 3) := by decide +kernel
theorem dX9_put_78 : decode cX9_put 78 = .ok (.iload_n 3, 1) := by decide +kernel
theorem dX9_put_79 : decode cX9_put 79 = .ok (.iload 4, 2) := by decide +kernel
theorem dX9_put_81 : decode cX9_put 81 = .ok (.invokevirtual 203, 3) := by decide +kernel
theorem dX9_put_84 : decode cX9_put 84 = .ok (.aload_n 0, 1) := by decide +kernel
theorem dX9_put_85 : decode cX9_put 85 = .ok (.aload_n 0, 1) := by decide +kernel
theorem dX9_put_86 : decode cX9_put 86 = .ok (.getfield 62, 3) := by decide +kernel
theorem dX9_put_89 : decode cX9_put 89 = .ok (.iconst 0, 1) := by decide +kernel
theorem dX9_put_90 : decode cX9_put 90 = .ok (.invokevirtual 207, 3) := by decide +kernel
theorem dX9_put_93 : decode cX9_put 93 = .ok (.ifCond .ne 10, 3) := by decide +kernel
theorem dX9_put_96 : decode cX9_put 96 = .ok (.aload_n 0, 1) := by decide +kernel
theorem dX9_put_97 : decode cX9_put 97 = .ok (.bipush (-6), 2) := by decide +kernel
theorem dX9_put_99 : decode cX9_put 99 = .ok (.invokevirtual 99, 3) := by decide +kernel
theorem dX9_put_102 : decode cX9_put 102 = .ok (.ireturn, 1) := by decide +kernel
theorem dX9_put_103 : decode cX9_put 103 = .ok (.aload_n 0, 1) := by decide +kernel
theorem dX9_put_104 : decode cX9_put 104 = .ok (.iconst 0, 1) := by decide +kernel
theorem dX9_put_105 : decode cX9_put 105 = .ok (.iconst (-1), 1) := by decide +kernel
theorem dX9_put_106 : decode cX9_put 106 = .ok (.invokevirtual 251, 3) := by decide +kernel
theorem dX9_put_109 : decode cX9_put 109 = .ok (.ireturn, 1) := by decide +kernel
theorem dX9_forget_0 : decode cX9_forget 0 = .ok (.aload_n 0, 1) := by decide +kernel
theorem dX9_forget_1 : decode cX9_forget 1 = .ok (.getfield 110, 3) := by decide +kernel
theorem dX9_forget_4 : decode cX9_forget 4 = .ok (.ifCond .ne 10, 3) := by decide +kernel
theorem dX9_forget_7 : decode cX9_forget 7 = .ok (.aload_n 0, 1) := by decide +kernel
theorem dX9_forget_8 : decode cX9_forget 8 = .ok (.bipush (-6), 2) := by decide +kernel
theorem dX9_forget_10 : decode cX9_forget 10 = .ok (.invokevirtual 99, 3) := by decide +kernel
theorem dX9_forget_13 : decode cX9_forget 13 = .ok (.ireturn, 1) := by decide +kernel
theorem dX9_forget_14 : decode cX9_forget 14 = .ok (.aload_n 0, 1) := by decide +kernel
theorem dX9_forget_15 : decode cX9_forget 15 = .ok (.dup, 1) := by decide +kernel
theorem dX9_forget_16 : decode cX9_forget 16 = .ok (.getfield 110, 3) := by decide +kernel
theorem dX9_forget_19 : decode cX9_forget 19 = .ok (.iconst 1, 1) := by decide +kernel
theorem dX9_forget_20 : decode cX9_forget 20 = .ok (.isub, 1) := by decide +kernel
theorem dX9_forget_21 : decode cX9_forget 21 = .ok (.putfield 110, 3) := by decide +kernel
theorem dX9_forget_24 : decode cX9_forget 24 = .ok (.iconst 0, 1) := by decide +kernel
theorem dX9_forget_25 : decode cX9_forget 25 = .ok (.istore_n 1, 1) := by decide +kernel
theorem dX9_forget_26 : decode cX9_forget 26 = .ok (.iload_n 1, 1) := by decide +kernel
theorem dX9_forget_27 : decode cX9_forget 27 = .ok (.bipush 8, 2) := by decide +kernel
theorem dX9_forget_29 : decode cX9_forget 29 = .ok (.if_icmp .ge 29, 3) := by decide +kernel
theorem dX9_forget_32 : decode cX9_forget 32 = .ok (.aload_n 0, 1) := by decide +kernel
theorem dX9_forget_33 : decode cX9_forget 33 = .ok (.getfield 31, 3) := by decide +kernel
theorem dX9_forget_36 : decode cX9_forget 36 = .ok (.iload_n 1, 1) := by decide +kernel
theorem dX9_forget_37 : decode cX9_forget 37 = .ok (.iaload, 1) := by decide +kernel
theorem dX9_forget_38 : decode cX9_forget 38 = .ok (.aload_n 0, 1) := by decide +kernel
theorem dX9_forget_39 : decode cX9_forget 39 = .ok (.getfield 110, 3) := by decide +kernel
theorem dX9_forget_42 : decode cX9_forget 42 = .ok (.if_icmp .ne 10, 3) := by decide +kernel
theorem dX9_forget_45 : decode cX9_forget 45 = .ok (.aload_n 0, 1) := by decide +kernel
theorem dX9_forget_46 : decode cX9_forget 46 = .ok (.getfield 31, 3) := by decide +kernel
theorem dX9_forget_49 : decode cX9_forget 49 = .ok (.iload_n 1, 1) := by decide +kernel
theorem dX9_forget_50 : decode cX9_forget 50 = .ok (.iconst (-1), 1) := by decide +kernel
theorem dX9_forget_51 : decode cX9_forget 51 = .ok (.iastore, 1) := by decide +kernel
theorem dX9_forget_52 : decode cX9_forget 52 = .ok (.iinc 1 1, 3) := by decide +kernel
theorem dX9_forget_55 : decode cX9_forget 55 = .ok (.goto (-29), 3) := by decide +kernel
theorem dX9_forget_58 : decode cX9_forget 58 = .ok (.aload_n 0, 1) := by decide +kernel
theorem dX9_forget_59 : decode cX9_forget 59 = .ok (.getfield 110, 3) := by decide +kernel
theorem dX9_forget_62 : decode cX9_forget 62 = .ok (.ireturn, 1) := by decide +kernel
theorem dX9_judge_0 : decode cX9_judge 0 = .ok (.aload_n 0, 1) := by decide +kernel
theorem dX9_judge_1 : decode cX9_judge 1 = .ok (.iload_n 1, 1) := by decide +kernel
theorem dX9_judge_2 : decode cX9_judge 2 = .ok (.invokevirtual 117, 3) := by decide +kernel
theorem dX9_judge_5 : decode cX9_judge 5 = .ok (.istore 4, 2) := by decide +kernel
theorem dX9_judge_7 : decode cX9_judge 7 = .ok (.iload 4, 2) := by decide +kernel
theorem dX9_judge_9 : decode cX9_judge 9 = .ok (.iconst (-1), 1) := by decide +kernel
theorem dX9_judge_10 : decode cX9_judge 10 = .ok (.if_icmp .eq 11, 3) := by decide +kernel
theorem dX9_judge_13 : decode cX9_judge 13 = .ok (.aload_n 0, 1) := by decide +kernel
theorem dX9_judge_14 : decode cX9_judge 14 = .ok (.iload_n 2, 1) := by decide +kernel
theorem dX9_judge_15 : decode cX9_judge 15 = .ok (.invokevirtual 166, 3) := by decide +kernel
theorem dX9_judge_18 : decode cX9_judge 18 = .ok (.ifCond .ne 9, 3) := by decide +kernel
theorem dX9_judge_21 : decode cX9_judge 21 = .ok (.aload_n 0, 1) := by decide +kernel
theorem dX9_judge_22 : decode cX9_judge 22 = .ok (.iconst (-1), 1) := by decide +kernel
theorem dX9_judge_23 : decode cX9_judge 23 = .ok (.invokevirtual 181, 3) := by decide +kernel
theorem dX9_judge_26 : decode cX9_judge 26 = .ok (.ireturn, 1) := by decide +kernel
theorem dX9_judge_27 : decode cX9_judge 27 = .ok (.iload 4, 2) := by decide +kernel
theorem dX9_judge_29 : decode cX9_judge 29 = .ok (.ifCond .ge 10, 3) := by decide +kernel
theorem dX9_judge_32 : decode cX9_judge 32 = .ok (.aload_n 0, 1) := by decide +kernel
theorem dX9_judge_33 : decode cX9_judge 33 = .ok (.iload 4, 2) := by decide +kernel
theorem dX9_judge_35 : decode cX9_judge 35 = .ok (.invokevirtual 181, 3) := by decide +kernel
theorem dX9_judge_38 : decode cX9_judge 38 = .ok (.ireturn, 1) := by decide +kernel
theorem dX9_judge_39 : decode cX9_judge 39 = .ok (.iload_n 3, 1) := by decide +kernel
theorem dX9_judge_40 : decode cX9_judge 40 = .ok (.ifCond .ge 10, 3) := by decide +kernel
theorem dX9_judge_43 : decode cX9_judge 43 = .ok (.aload_n 0, 1) := by decide +kernel
theorem dX9_judge_44 : decode cX9_judge 44 = .ok (.bipush (-4), 2) := by decide +kernel
theorem dX9_judge_46 : decode cX9_judge 46 = .ok (.invokevirtual 181, 3) := by decide +kernel
theorem dX9_judge_49 : decode cX9_judge 49 = .ok (.ireturn, 1) := by decide +kernel
theorem dX9_judge_50 : decode cX9_judge 50 = .ok (.iload_n 3, 1) := by decide +kernel
theorem dX9_judge_51 : decode cX9_judge 51 = .ok (.aload_n 0, 1) := by decide +kernel
theorem dX9_judge_52 : decode cX9_judge 52 = .ok (.getfield 34, 3) := by decide +kernel
theorem dX9_judge_55 : decode cX9_judge 55 = .ok (.iload_n 1, 1) := by decide +kernel
theorem dX9_judge_56 : decode cX9_judge 56 = .ok (.iaload, 1) := by decide +kernel
theorem dX9_judge_57 : decode cX9_judge 57 = .ok (.if_icmp .le 10, 3) := by decide +kernel
theorem dX9_judge_60 : decode cX9_judge 60 = .ok (.aload_n 0, 1) := by decide +kernel
theorem dX9_judge_61 : decode cX9_judge 61 = .ok (.bipush (-5), 2) := by decide +kernel
theorem dX9_judge_63 : decode cX9_judge 63 = .ok (.invokevirtual 181, 3) := by decide +kernel
theorem dX9_judge_66 : decode cX9_judge 66 = .ok (.ireturn, 1) := by decide +kernel
theorem dX9_judge_67 : decode cX9_judge 67 = .ok (.iload_n 3, 1) := by decide +kernel
theorem dX9_judge_68 : decode cX9_judge 68 = .ok (.bipush 60, 2) := by decide +kernel
theorem dX9_judge_70 : decode cX9_judge 70 = .ok (.if_icmp .le 10, 3) := by decide +kernel
theorem dX9_judge_73 : decode cX9_judge 73 = .ok (.aload_n 0, 1) := by decide +kernel
theorem dX9_judge_74 : decode cX9_judge 74 = .ok (.bipush (-6), 2) := by decide +kernel
theorem dX9_judge_76 : decode cX9_judge 76 = .ok (.invokevirtual 181, 3) := by decide +kernel
theorem dX9_judge_79 : decode cX9_judge 79 = .ok (.ireturn, 1) := by decide +kernel
theorem dX9_judge_80 : decode cX9_judge 80 = .ok (.iconst 0, 1) := by decide +kernel
theorem dX9_judge_81 : decode cX9_judge 81 = .ok (.istore 5, 2) := by decide +kernel
theorem dX9_judge_83 : decode cX9_judge 83 = .ok (.iload 5, 2) := by decide +kernel
theorem dX9_judge_85 : decode cX9_judge 85 = .ok (.iload_n 3, 1) := by decide +kernel
theorem dX9_judge_86 : decode cX9_judge 86 = .ok (.if_icmp .ge 47, 3) := by decide +kernel
theorem dX9_judge_89 : decode cX9_judge 89 = .ok (.iload 5, 2) := by decide +kernel
theorem dX9_judge_91 : decode cX9_judge 91 = .ok (.aload_n 0, 1) := by decide +kernel
theorem dX9_judge_92 : decode cX9_judge 92 = .ok (.getfield 7, 3) := by decide +kernel
theorem dX9_judge_95 : decode cX9_judge 95 = .ok (.iload_n 2, 1) := by decide +kernel
theorem dX9_judge_96 : decode cX9_judge 96 = .ok (.iaload, 1) := by decide +kernel
theorem dX9_judge_97 : decode cX9_judge 97 = .ok (.if_icmp .ge 27, 3) := by decide +kernel
theorem dX9_judge_100 : decode cX9_judge 100 = .ok (.aload_n 0, 1) := by decide +kernel
theorem dX9_judge_101 : decode cX9_judge 101 = .ok (.getfield 37, 3) := by decide +kernel
theorem dX9_judge_104 : decode cX9_judge 104 = .ok (.sipush 160, 3) := by decide +kernel
theorem dX9_judge_107 : decode cX9_judge 107 = .ok (.iload_n 1, 1) := by decide +kernel
theorem dX9_judge_108 : decode cX9_judge 108 = .ok (.imul, 1) := by decide +kernel
theorem dX9_judge_109 : decode cX9_judge 109 = .ok (.iload 5, 2) := by decide +kernel
theorem dX9_judge_111 : decode cX9_judge 111 = .ok (.iadd, 1) := by decide +kernel
theorem dX9_judge_112 : decode cX9_judge 112 = .ok (.laload, 1) := by decide +kernel
theorem dX9_judge_113 : decode cX9_judge 113 = .ok (.l2i, 1) := by decide +kernel
theorem dX9_judge_114 : decode cX9_judge 114 = .ok (.aload_n 0, 1) := by decide +kernel
theorem dX9_judge_115 : decode cX9_judge 115 = .ok (.iload_n 2, 1) := by decide +kernel
theorem dX9_judge_116 : decode cX9_judge 116 = .ok (.iload 5, 2) := by decide +kernel
theorem dX9_judge_118 : decode cX9_judge 118 = .ok (.invokevirtual 211, 3) := by decide +kernel
theorem dX9_judge_121 : decode cX9_judge 121 = .ok (.if_icmp .eq 6, 3) := by decide +kernel
theorem dX9_judge_124 : decode cX9_judge 124 = .ok (.iload 5, 2) := by decide +kernel
theorem dX9_judge_126 : decode cX9_judge 126 = .ok (.ireturn, 1) := by decide +kernel
theorem dX9_judge_127 : decode cX9_judge 127 = .ok (.iinc 5 1, 3) := by decide +kernel
theorem dX9_judge_130 : decode cX9_judge 130 = .ok (.goto (-47), 3) := by decide +kernel
theorem dX9_judge_133 : decode cX9_judge 133 = .ok (.aload_n 0, 1) := by decide +kernel
theorem dX9_judge_134 : decode cX9_judge 134 = .ok (.getfield 7, 3) := by decide +kernel
theorem dX9_judge_137 : decode cX9_judge 137 = .ok (.iload_n 2, 1) := by decide +kernel
theorem dX9_judge_138 : decode cX9_judge 138 = .ok (.iaload, 1) := by decide +kernel
theorem dX9_judge_139 : decode cX9_judge 139 = .ok (.iload_n 3, 1) := by decide +kernel
theorem dX9_judge_140 : decode cX9_judge 140 = .ok (.if_icmp .le 7, 3) := by decide +kernel
theorem dX9_judge_143 : decode cX9_judge 143 = .ok (.iload_n 3, 1) := by decide +kernel
theorem dX9_judge_144 : decode cX9_judge 144 = .ok (.goto 4, 3) := by decide +kernel
theorem dX9_judge_147 : decode cX9_judge 147 = .ok (.iconst (-1), 1) := by decide +kernel
theorem dX9_judge_148 : decode cX9_judge 148 = .ok (.ireturn, 1) := by decide +kernel
theorem dX9_draw_0 : decode cX9_draw 0 = .ok (.aload_n 0, 1) := by decide +kernel
theorem dX9_draw_1 : decode cX9_draw 1 = .ok (.aload_n 0, 1) := by decide +kernel
theorem dX9_draw_2 : decode cX9_draw 2 = .ok (.getfield 92, 3) := by decide +kernel
theorem dX9_draw_5 : decode cX9_draw 5 = .ok (.ldc_w 288, 3) := by decide +kernel
theorem dX9_draw_8 : decode cX9_draw 8 = .ok (.imul, 1) := by decide +kernel
theorem dX9_draw_9 : decode cX9_draw 9 = .ok (.sipush 12345, 3) := by decide +kernel
theorem dX9_draw_12 : decode cX9_draw 12 = .ok (.iadd, 1) := by decide +kernel
theorem dX9_draw_13 : decode cX9_draw 13 = .ok (.putfield 92, 3) := by decide +kernel
theorem dX9_draw_16 : decode cX9_draw 16 = .ok (.aload_n 0, 1) := by decide +kernel
theorem dX9_draw_17 : decode cX9_draw 17 = .ok (.getfield 92, 3) := by decide +kernel
theorem dX9_draw_20 : decode cX9_draw 20 = .ok (.bipush 16, 2) := by decide +kernel
theorem dX9_draw_22 : decode cX9_draw 22 = .ok (.iushr, 1) := by decide +kernel
theorem dX9_draw_23 : decode cX9_draw 23 = .ok (.iload_n 1, 1) := by decide +kernel
theorem dX9_draw_24 : decode cX9_draw 24 = .ok (.irem, 1) := by decide +kernel
theorem dX9_draw_25 : decode cX9_draw 25 = .ok (.ireturn, 1) := by decide +kernel
theorem dX9_day_0 : decode cX9_day 0 = .ok (.aload_n 0, 1) := by decide +kernel
theorem dX9_day_1 : decode cX9_day 1 = .ok (.bipush 60, 2) := by decide +kernel
theorem dX9_day_3 : decode cX9_day 3 = .ok (.invokevirtual 289, 3) := by decide +kernel
theorem dX9_day_6 : decode cX9_day 6 = .ok (.iconst 1, 1) := by decide +kernel
theorem dX9_day_7 : decode cX9_day 7 = .ok (.iadd, 1) := by decide +kernel
theorem dX9_day_8 : decode cX9_day 8 = .ok (.istore_n 1, 1) := by decide +kernel
theorem dX9_day_9 : decode cX9_day 9 = .ok (.aload_n 0, 1) := by decide +kernel
theorem dX9_day_10 : decode cX9_day 10 = .ok (.iload_n 1, 1) := by decide +kernel
theorem dX9_day_11 : decode cX9_day 11 = .ok (.invokevirtual 153, 3) := by decide +kernel
theorem dX9_day_14 : decode cX9_day 14 = .ok (.istore_n 2, 1) := by decide +kernel
theorem dX9_day_15 : decode cX9_day 15 = .ok (.iload_n 2, 1) := by decide +kernel
theorem dX9_day_16 : decode cX9_day 16 = .ok (.iconst (-1), 1) := by decide +kernel
theorem dX9_day_17 : decode cX9_day 17 = .ok (.if_icmp .ne 55, 3) := by decide +kernel
theorem dX9_day_20 : decode cX9_day 20 = .ok (.aload_n 0, 1) := by decide +kernel
theorem dX9_day_21 : decode cX9_day 21 = .ok (.getfield 127, 3) := by decide +kernel
theorem dX9_day_24 : decode cX9_day 24 = .ok (.bipush 40, 2) := by decide +kernel
theorem dX9_day_26 : decode cX9_day 26 = .ok (.if_icmp .ge 46, 3) := by decide +kernel
theorem dX9_day_29 : decode cX9_day 29 = .ok (.aload_n 0, 1) := by decide +kernel
theorem dX9_day_30 : decode cX9_day 30 = .ok (.getfield 53, 3) := by decide +kernel
theorem dX9_day_33 : decode cX9_day 33 = .ok (.iconst 0, 1) := by decide +kernel
theorem dX9_day_34 : decode cX9_day 34 = .ok (.iload_n 1, 1) := by decide +kernel
theorem dX9_day_35 : decode cX9_day 35 = .ok (.iastore, 1) := by decide +kernel
theorem dX9_day_36 : decode cX9_day 36 = .ok (.aload_n 0, 1) := by decide +kernel
theorem dX9_day_37 : decode cX9_day 37 = .ok (.getfield 56, 3) := by decide +kernel
theorem dX9_day_40 : decode cX9_day 40 = .ok (.iconst 0, 1) := by decide +kernel
theorem dX9_day_41 : decode cX9_day 41 = .ok (.bipush 97, 2) := by decide +kernel
theorem dX9_day_43 : decode cX9_day 43 = .ok (.aload_n 0, 1) := by decide +kernel
theorem dX9_day_44 : decode cX9_day 44 = .ok (.bipush 26, 2) := by decide +kernel
theorem dX9_day_46 : decode cX9_day 46 = .ok (.invokevirtual 289, 3) := by decide +kernel
theorem dX9_day_49 : decode cX9_day 49 = .ok (.iadd, 1) := by decide +kernel
theorem dX9_day_50 : decode cX9_day 50 = .ok (.iastore, 1) := by decide +kernel
theorem dX9_day_51 : decode cX9_day 51 = .ok (.aload_n 0, 1) := by decide +kernel
theorem dX9_day_52 : decode cX9_day 52 = .ok (.getfield 59, 3) := by decide +kernel
theorem dX9_day_55 : decode cX9_day 55 = .ok (.iconst 0, 1) := by decide +kernel
theorem dX9_day_56 : decode cX9_day 56 = .ok (.iconst 0, 1) := by decide +kernel
theorem dX9_day_57 : decode cX9_day 57 = .ok (.iastore, 1) := by decide +kernel
theorem dX9_day_58 : decode cX9_day 58 = .ok (.aload_n 0, 1) := by decide +kernel
theorem dX9_day_59 : decode cX9_day 59 = .ok (.iconst 1, 1) := by decide +kernel
theorem dX9_day_60 : decode cX9_day 60 = .ok (.aload_n 0, 1) := by decide +kernel
theorem dX9_day_61 : decode cX9_day 61 = .ok (.aload_n 0, 1) := by decide +kernel
theorem dX9_day_62 : decode cX9_day 62 = .ok (.getfield 127, 3) := by decide +kernel
theorem dX9_day_65 : decode cX9_day 65 = .ok (.invokevirtual 289, 3) := by decide +kernel
theorem dX9_day_68 : decode cX9_day 68 = .ok (.iconst 0, 1) := by decide +kernel
theorem dX9_day_69 : decode cX9_day 69 = .ok (.invokevirtual 192, 3) := by decide +kernel
theorem dX9_day_72 : decode cX9_day 72 = .ok (.iload_n 2, 1) := by decide +kernel
theorem dX9_day_73 : decode cX9_day 73 = .ok (.iconst (-1), 1) := by decide +kernel
theorem dX9_day_74 : decode cX9_day 74 = .ok (.if_icmp .ne 4, 3) := by decide +kernel
theorem dX9_day_77 : decode cX9_day 77 = .ok (.return_, 1) := by decide +kernel
theorem dX9_day_78 : decode cX9_day 78 = .ok (.iload_n 2, 1) := by decide +kernel
theorem dX9_day_79 : decode cX9_day 79 = .ok (.ifCond .le 28, 3) := by decide +kernel
theorem dX9_day_82 : decode cX9_day 82 = .ok (.aload_n 0, 1) := by decide +kernel
theorem dX9_day_83 : decode cX9_day 83 = .ok (.iload_n 2, 1) := by decide +kernel
theorem dX9_day_84 : decode cX9_day 84 = .ok (.invokevirtual 178, 3) := by decide +kernel
theorem dX9_day_87 : decode cX9_day 87 = .ok (.ifCond .ne 20, 3) := by decide +kernel
theorem dX9_day_90 : decode cX9_day 90 = .ok (.aload_n 0, 1) := by decide +kernel
theorem dX9_day_91 : decode cX9_day 91 = .ok (.iconst 2, 1) := by decide +kernel
theorem dX9_day_92 : decode cX9_day 92 = .ok (.invokevirtual 289, 3) := by decide +kernel
theorem dX9_day_95 : decode cX9_day 95 = .ok (.ifCond .ne 12, 3) := by decide +kernel
theorem dX9_day_98 : decode cX9_day 98 = .ok (.aload_n 0, 1) := by decide +kernel
theorem dX9_day_99 : decode cX9_day 99 = .ok (.iload_n 2, 1) := by decide +kernel
theorem dX9_day_100 : decode cX9_day 100 = .ok (.iconst 1, 1) := by decide +kernel
theorem dX9_day_101 : decode cX9_day 101 = .ok (.invokevirtual 188, 3) := by decide +kernel
theorem dX9_day_104 : decode cX9_day 104 = .ok (.goto 18, 3) := by decide +kernel
theorem dX9_day_107 : decode cX9_day 107 = .ok (.aload_n 0, 1) := by decide +kernel
theorem dX9_day_108 : decode cX9_day 108 = .ok (.getfield 47, 3) := by decide +kernel
theorem dX9_day_111 : decode cX9_day 111 = .ok (.iload_n 2, 1) := by decide +kernel
theorem dX9_day_112 : decode cX9_day 112 = .ok (.bipush 97, 2) := by decide +kernel
theorem dX9_day_114 : decode cX9_day 114 = .ok (.aload_n 0, 1) := by decide +kernel
theorem dX9_day_115 : decode cX9_day 115 = .ok (.bipush 26, 2) := by decide +kernel
theorem dX9_day_117 : decode cX9_day 117 = .ok (.invokevirtual 289, 3) := by decide +kernel
theorem dX9_day_120 : decode cX9_day 120 = .ok (.iadd, 1) := by decide +kernel
theorem dX9_day_121 : decode cX9_day 121 = .ok (.iastore, 1) := by decide +kernel
theorem dX9_day_122 : decode cX9_day 122 = .ok (.return_, 1) := by decide +kernel
theorem dX9_days_0 : decode cX9_days 0 = .ok (.aload_n 0, 1) := by decide +kernel
theorem dX9_days_1 : decode cX9_days 1 = .ok (.iload_n 1, 1) := by decide +kernel
theorem dX9_days_2 : decode cX9_days 2 = .ok (.invokevirtual 166, 3) := by decide +kernel
theorem dX9_days_5 : decode cX9_days 5 = .ok (.ifCond .ne 9, 3) := by decide +kernel
theorem dX9_days_8 : decode cX9_days 8 = .ok (.aload_n 0, 1) := by decide +kernel
theorem dX9_days_9 : decode cX9_days 9 = .ok (.iconst (-1), 1) := by decide +kernel
theorem dX9_days_10 : decode cX9_days 10 = .ok (.invokevirtual 99, 3) := by decide +kernel
theorem dX9_days_13 : decode cX9_days 13 = .ok (.ireturn, 1) := by decide +kernel
theorem dX9_days_14 : decode cX9_days 14 = .ok (.iload_n 2, 1) := by decide +kernel
theorem dX9_days_15 : decode cX9_days 15 = .ok (.iconst 1, 1) := by decide +kernel
theorem dX9_days_16 : decode cX9_days 16 = .ok (.bipush 60, 2) := by decide +kernel
theorem dX9_days_18 : decode cX9_days 18 = .ok (.invokestatic 106, 3) := by decide +kernel
theorem dX9_days_21 : decode cX9_days 21 = .ok (.ifCond .ne 10, 3) := by decide +kernel
theorem dX9_days_24 : decode cX9_days 24 = .ok (.aload_n 0, 1) := by decide +kernel
theorem dX9_days_25 : decode cX9_days 25 = .ok (.bipush (-6), 2) := by decide +kernel
theorem dX9_days_27 : decode cX9_days 27 = .ok (.invokevirtual 99, 3) := by decide +kernel
theorem dX9_days_30 : decode cX9_days 30 = .ok (.ireturn, 1) := by decide +kernel
theorem dX9_days_31 : decode cX9_days 31 = .ok (.aload_n 0, 1) := by decide +kernel
theorem dX9_days_32 : decode cX9_days 32 = .ok (.iload_n 1, 1) := by decide +kernel
theorem dX9_days_33 : decode cX9_days 33 = .ok (.invokevirtual 169, 3) := by decide +kernel
theorem dX9_days_36 : decode cX9_days 36 = .ok (.iconst 0, 1) := by decide +kernel
theorem dX9_days_37 : decode cX9_days 37 = .ok (.istore_n 3, 1) := by decide +kernel
theorem dX9_days_38 : decode cX9_days 38 = .ok (.iload_n 3, 1) := by decide +kernel
theorem dX9_days_39 : decode cX9_days 39 = .ok (.iload_n 2, 1) := by decide +kernel
theorem dX9_days_40 : decode cX9_days 40 = .ok (.if_icmp .ge 13, 3) := by decide +kernel
theorem dX9_days_43 : decode cX9_days 43 = .ok (.aload_n 0, 1) := by decide +kernel
theorem dX9_days_44 : decode cX9_days 44 = .ok (.invokevirtual 292, 3) := by decide +kernel
theorem dX9_days_47 : decode cX9_days 47 = .ok (.iinc 3 1, 3) := by decide +kernel
theorem dX9_days_50 : decode cX9_days 50 = .ok (.goto (-12), 3) := by decide +kernel
theorem dX9_days_53 : decode cX9_days 53 = .ok (.aload_n 0, 1) := by decide +kernel
theorem dX9_days_54 : decode cX9_days 54 = .ok (.iload_n 1, 1) := by decide +kernel
theorem dX9_days_55 : decode cX9_days 55 = .ok (.invokevirtual 162, 3) := by decide +kernel
theorem dX9_days_58 : decode cX9_days 58 = .ok (.aload_n 0, 1) := by decide +kernel
theorem dX9_days_59 : decode cX9_days 59 = .ok (.getfield 7, 3) := by decide +kernel
theorem dX9_days_62 : decode cX9_days 62 = .ok (.iload_n 1, 1) := by decide +kernel
theorem dX9_days_63 : decode cX9_days 63 = .ok (.iaload, 1) := by decide +kernel
theorem dX9_days_64 : decode cX9_days 64 = .ok (.ireturn, 1) := by decide +kernel
theorem dX9_seed_0 : decode cX9_seed 0 = .ok (.aload_n 0, 1) := by decide +kernel
theorem dX9_seed_1 : decode cX9_seed 1 = .ok (.getfield 92, 3) := by decide +kernel
theorem dX9_seed_4 : decode cX9_seed 4 = .ok (.istore_n 2, 1) := by decide +kernel
theorem dX9_seed_5 : decode cX9_seed 5 = .ok (.aload_n 0, 1) := by decide +kernel
theorem dX9_seed_6 : decode cX9_seed 6 = .ok (.iload_n 1, 1) := by decide +kernel
theorem dX9_seed_7 : decode cX9_seed 7 = .ok (.putfield 92, 3) := by decide +kernel
theorem dX9_seed_10 : decode cX9_seed 10 = .ok (.iload_n 2, 1) := by decide +kernel
theorem dX9_seed_11 : decode cX9_seed 11 = .ok (.ireturn, 1) := by decide +kernel
theorem dX9_image_0 : decode cX9_image 0 = .ok (.aload_n 0, 1) := by decide +kernel
theorem dX9_image_1 : decode cX9_image 1 = .ok (.iconst 1, 1) := by decide +kernel
theorem dX9_image_2 : decode cX9_image 2 = .ok (.putfield 295, 3) := by decide +kernel
theorem dX9_image_5 : decode cX9_image 5 = .ok (.aload_n 0, 1) := by decide +kernel
theorem dX9_image_6 : decode cX9_image 6 = .ok (.aload_n 0, 1) := by decide +kernel
theorem dX9_image_7 : decode cX9_image 7 = .ok (.getfield 103, 3) := by decide +kernel
theorem dX9_image_10 : decode cX9_image 10 = .ok (.putfield 299, 3) := by decide +kernel
theorem dX9_image_13 : decode cX9_image 13 = .ok (.aload_n 0, 1) := by decide +kernel
theorem dX9_image_14 : decode cX9_image 14 = .ok (.aload_n 0, 1) := by decide +kernel
theorem dX9_image_15 : decode cX9_image 15 = .ok (.getfield 110, 3) := by decide +kernel
theorem dX9_image_18 : decode cX9_image 18 = .ok (.putfield 302, 3) := by decide +kernel
theorem dX9_image_21 : decode cX9_image 21 = .ok (.aload_n 0, 1) := by decide +kernel
theorem dX9_image_22 : decode cX9_image 22 = .ok (.aload_n 0, 1) := by decide +kernel
theorem dX9_image_23 : decode cX9_image 23 = .ok (.getfield 92, 3) := by decide +kernel
theorem dX9_image_26 : decode cX9_image 26 = .ok (.putfield 305, 3) := by decide +kernel
theorem dX9_image_29 : decode cX9_image 29 = .ok (.iconst 0, 1) := by decide +kernel
theorem dX9_image_30 : decode cX9_image 30 = .ok (.istore_n 1, 1) := by decide +kernel
theorem dX9_image_31 : decode cX9_image 31 = .ok (.iload_n 1, 1) := by decide +kernel
theorem dX9_image_32 : decode cX9_image 32 = .ok (.bipush 16, 2) := by decide +kernel
theorem dX9_image_34 : decode cX9_image 34 = .ok (.if_icmp .ge 21, 3) := by decide +kernel
theorem dX9_image_37 : decode cX9_image 37 = .ok (.aload_n 0, 1) := by decide +kernel
theorem dX9_image_38 : decode cX9_image 38 = .ok (.getfield 71, 3) := by decide +kernel
theorem dX9_image_41 : decode cX9_image 41 = .ok (.iload_n 1, 1) := by decide +kernel
theorem dX9_image_42 : decode cX9_image 42 = .ok (.aload_n 0, 1) := by decide +kernel
theorem dX9_image_43 : decode cX9_image 43 = .ok (.getfield 7, 3) := by decide +kernel
theorem dX9_image_46 : decode cX9_image 46 = .ok (.iload_n 1, 1) := by decide +kernel
theorem dX9_image_47 : decode cX9_image 47 = .ok (.iaload, 1) := by decide +kernel
theorem dX9_image_48 : decode cX9_image 48 = .ok (.iastore, 1) := by decide +kernel
theorem dX9_image_49 : decode cX9_image 49 = .ok (.iinc 1 1, 3) := by decide +kernel
theorem dX9_image_52 : decode cX9_image 52 = .ok (.goto (-21), 3) := by decide +kernel
theorem dX9_image_55 : decode cX9_image 55 = .ok (.iconst 0, 1) := by decide +kernel
theorem dX9_image_56 : decode cX9_image 56 = .ok (.istore_n 1, 1) := by decide +kernel
theorem dX9_image_57 : decode cX9_image 57 = .ok (.iload_n 1, 1) := by decide +kernel
theorem dX9_image_58 : decode cX9_image 58 = .ok (.sipush 1024, 3) := by decide +kernel
theorem dX9_image_61 : decode cX9_image 61 = .ok (.if_icmp .ge 45, 3) := by decide +kernel
theorem dX9_image_64 : decode cX9_image 64 = .ok (.aload_n 0, 1) := by decide +kernel
theorem dX9_image_65 : decode cX9_image 65 = .ok (.getfield 74, 3) := by decide +kernel
theorem dX9_image_68 : decode cX9_image 68 = .ok (.iload_n 1, 1) := by decide +kernel
theorem dX9_image_69 : decode cX9_image 69 = .ok (.aload_n 0, 1) := by decide +kernel
theorem dX9_image_70 : decode cX9_image 70 = .ok (.getfield 13, 3) := by decide +kernel
theorem dX9_image_73 : decode cX9_image 73 = .ok (.iload_n 1, 1) := by decide +kernel
theorem dX9_image_74 : decode cX9_image 74 = .ok (.iaload, 1) := by decide +kernel
theorem dX9_image_75 : decode cX9_image 75 = .ok (.iastore, 1) := by decide +kernel
theorem dX9_image_76 : decode cX9_image 76 = .ok (.aload_n 0, 1) := by decide +kernel
theorem dX9_image_77 : decode cX9_image 77 = .ok (.getfield 77, 3) := by decide +kernel
theorem dX9_image_80 : decode cX9_image 80 = .ok (.iload_n 1, 1) := by decide +kernel
theorem dX9_image_81 : decode cX9_image 81 = .ok (.aload_n 0, 1) := by decide +kernel
theorem dX9_image_82 : decode cX9_image 82 = .ok (.getfield 16, 3) := by decide +kernel
theorem dX9_image_85 : decode cX9_image 85 = .ok (.iload_n 1, 1) := by decide +kernel
theorem dX9_image_86 : decode cX9_image 86 = .ok (.iaload, 1) := by decide +kernel
theorem dX9_image_87 : decode cX9_image 87 = .ok (.iastore, 1) := by decide +kernel
theorem dX9_image_88 : decode cX9_image 88 = .ok (.aload_n 0, 1) := by decide +kernel
theorem dX9_image_89 : decode cX9_image 89 = .ok (.getfield 80, 3) := by decide +kernel
theorem dX9_image_92 : decode cX9_image 92 = .ok (.iload_n 1, 1) := by decide +kernel
theorem dX9_image_93 : decode cX9_image 93 = .ok (.aload_n 0, 1) := by decide +kernel
theorem dX9_image_94 : decode cX9_image 94 = .ok (.getfield 19, 3) := by decide +kernel
theorem dX9_image_97 : decode cX9_image 97 = .ok (.iload_n 1, 1) := by decide +kernel
theorem dX9_image_98 : decode cX9_image 98 = .ok (.iaload, 1) := by decide +kernel
theorem dX9_image_99 : decode cX9_image 99 = .ok (.iastore, 1) := by decide +kernel
theorem dX9_image_100 : decode cX9_image 100 = .ok (.iinc 1 1, 3) := by decide +kernel
theorem dX9_image_103 : decode cX9_image 103 = .ok (.goto (-46), 3) := by decide +kernel
theorem dX9_image_106 : decode cX9_image 106 = .ok (.iconst 0, 1) := by decide +kernel
theorem dX9_image_107 : decode cX9_image 107 = .ok (.istore_n 1, 1) := by decide +kernel
theorem dX9_image_108 : decode cX9_image 108 = .ok (.iload_n 1, 1) := by decide +kernel
theorem dX9_image_109 : decode cX9_image 109 = .ok (.bipush 80, 2) := by decide +kernel
theorem dX9_image_111 : decode cX9_image 111 = .ok (.if_icmp .ge 21, 3) := by decide +kernel
theorem dX9_image_114 : decode cX9_image 114 = .ok (.aload_n 0, 1) := by decide +kernel
theorem dX9_image_115 : decode cX9_image 115 = .ok (.getfield 83, 3) := by decide +kernel
theorem dX9_image_118 : decode cX9_image 118 = .ok (.iload_n 1, 1) := by decide +kernel
theorem dX9_image_119 : decode cX9_image 119 = .ok (.aload_n 0, 1) := by decide +kernel
theorem dX9_image_120 : decode cX9_image 120 = .ok (.getfield 22, 3) := by decide +kernel
theorem dX9_image_123 : decode cX9_image 123 = .ok (.iload_n 1, 1) := by decide +kernel
theorem dX9_image_124 : decode cX9_image 124 = .ok (.iaload, 1) := by decide +kernel
theorem dX9_image_125 : decode cX9_image 125 = .ok (.iastore, 1) := by decide +kernel
theorem dX9_image_126 : decode cX9_image 126 = .ok (.iinc 1 1, 3) := by decide +kernel
theorem dX9_image_129 : decode cX9_image 129 = .ok (.goto (-21), 3) := by decide +kernel
theorem dX9_image_132 : decode cX9_image 132 = .ok (.iconst 0, 1) := by decide +kernel
theorem dX9_image_133 : decode cX9_image 133 = .ok (.istore_n 1, 1) := by decide +kernel
theorem dX9_image_134 : decode cX9_image 134 = .ok (.iload_n 1, 1) := by decide +kernel
theorem dX9_image_135 : decode cX9_image 135 = .ok (.sipush 13440, 3) := by decide +kernel
theorem dX9_image_138 : decode cX9_image 138 = .ok (.if_icmp .ge 21, 3) := by decide +kernel
theorem dX9_image_141 : decode cX9_image 141 = .ok (.aload_n 0, 1) := by decide +kernel
theorem dX9_image_142 : decode cX9_image 142 = .ok (.getfield 86, 3) := by decide +kernel
theorem dX9_image_145 : decode cX9_image 145 = .ok (.iload_n 1, 1) := by decide +kernel
theorem dX9_image_146 : decode cX9_image 146 = .ok (.aload_n 0, 1) := by decide +kernel
theorem dX9_image_147 : decode cX9_image 147 = .ok (.getfield 25, 3) := by decide +kernel
theorem dX9_image_150 : decode cX9_image 150 = .ok (.iload_n 1, 1) := by decide +kernel
theorem dX9_image_151 : decode cX9_image 151 = .ok (.iaload, 1) := by decide +kernel
theorem dX9_image_152 : decode cX9_image 152 = .ok (.iastore, 1) := by decide +kernel
theorem dX9_image_153 : decode cX9_image 153 = .ok (.iinc 1 1, 3) := by decide +kernel
theorem dX9_image_156 : decode cX9_image 156 = .ok (.goto (-22), 3) := by decide +kernel
theorem dX9_image_159 : decode cX9_image 159 = .ok (.iconst 0, 1) := by decide +kernel
theorem dX9_image_160 : decode cX9_image 160 = .ok (.istore_n 1, 1) := by decide +kernel
theorem dX9_image_161 : decode cX9_image 161 = .ok (.iload_n 1, 1) := by decide +kernel
theorem dX9_image_162 : decode cX9_image 162 = .ok (.sipush 3840, 3) := by decide +kernel
theorem dX9_image_165 : decode cX9_image 165 = .ok (.if_icmp .ge 21, 3) := by decide +kernel
theorem dX9_image_168 : decode cX9_image 168 = .ok (.aload_n 0, 1) := by decide +kernel
theorem dX9_image_169 : decode cX9_image 169 = .ok (.getfield 89, 3) := by decide +kernel
theorem dX9_image_172 : decode cX9_image 172 = .ok (.iload_n 1, 1) := by decide +kernel
theorem dX9_image_173 : decode cX9_image 173 = .ok (.aload_n 0, 1) := by decide +kernel
theorem dX9_image_174 : decode cX9_image 174 = .ok (.getfield 28, 3) := by decide +kernel
theorem dX9_image_177 : decode cX9_image 177 = .ok (.iload_n 1, 1) := by decide +kernel
theorem dX9_image_178 : decode cX9_image 178 = .ok (.iaload, 1) := by decide +kernel
theorem dX9_image_179 : decode cX9_image 179 = .ok (.iastore, 1) := by decide +kernel
theorem dX9_image_180 : decode cX9_image 180 = .ok (.iinc 1 1, 3) := by decide +kernel
theorem dX9_image_183 : decode cX9_image 183 = .ok (.goto (-22), 3) := by decide +kernel
theorem dX9_image_186 : decode cX9_image 186 = .ok (.aload_n 0, 1) := by decide +kernel
theorem dX9_image_187 : decode cX9_image 187 = .ok (.getfield 103, 3) := by decide +kernel
theorem dX9_image_190 : decode cX9_image 190 = .ok (.ireturn, 1) := by decide +kernel
theorem dX9_restore_0 : decode cX9_restore 0 = .ok (.aload_n 0, 1) := by decide +kernel
theorem dX9_restore_1 : decode cX9_restore 1 = .ok (.getfield 295, 3) := by decide +kernel
theorem dX9_restore_4 : decode cX9_restore 4 = .ok (.ifCond .ne 10, 3) := by decide +kernel
theorem dX9_restore_7 : decode cX9_restore 7 = .ok (.aload_n 0, 1) := by decide +kernel
theorem dX9_restore_8 : decode cX9_restore 8 = .ok (.bipush (-6), 2) := by decide +kernel
theorem dX9_restore_10 : decode cX9_restore 10 = .ok (.invokevirtual 99, 3) := by decide +kernel
theorem dX9_restore_13 : decode cX9_restore 13 = .ok (.ireturn, 1) := by decide +kernel
theorem dX9_restore_14 : decode cX9_restore 14 = .ok (.aload_n 0, 1) := by decide +kernel
theorem dX9_restore_15 : decode cX9_restore 15 = .ok (.aload_n 0, 1) := by decide +kernel
theorem dX9_restore_16 : decode cX9_restore 16 = .ok (.getfield 299, 3) := by decide +kernel
theorem dX9_restore_19 : decode cX9_restore 19 = .ok (.putfield 103, 3) := by decide +kernel
theorem dX9_restore_22 : decode cX9_restore 22 = .ok (.aload_n 0, 1) := by decide +kernel
theorem dX9_restore_23 : decode cX9_restore 23 = .ok (.aload_n 0, 1) := by decide +kernel
theorem dX9_restore_24 : decode cX9_restore 24 = .ok (.getfield 302, 3) := by decide +kernel
theorem dX9_restore_27 : decode cX9_restore 27 = .ok (.putfield 110, 3) := by decide +kernel
theorem dX9_restore_30 : decode cX9_restore 30 = .ok (.aload_n 0, 1) := by decide +kernel
theorem dX9_restore_31 : decode cX9_restore 31 = .ok (.aload_n 0, 1) := by decide +kernel
theorem dX9_restore_32 : decode cX9_restore 32 = .ok (.getfield 305, 3) := by decide +kernel
theorem dX9_restore_35 : decode cX9_restore 35 = .ok (.putfield 92, 3) := by decide +kernel
theorem dX9_restore_38 : decode cX9_restore 38 = .ok (.iconst 0, 1) := by decide +kernel
theorem dX9_restore_39 : decode cX9_restore 39 = .ok (.istore_n 1, 1) := by decide +kernel
theorem dX9_restore_40 : decode cX9_restore 40 = .ok (.iload_n 1, 1) := by decide +kernel
theorem dX9_restore_41 : decode cX9_restore 41 = .ok (.bipush 16, 2) := by decide +kernel
theorem dX9_restore_43 : decode cX9_restore 43 = .ok (.if_icmp .ge 21, 3) := by decide +kernel
theorem dX9_restore_46 : decode cX9_restore 46 = .ok (.aload_n 0, 1) := by decide +kernel
theorem dX9_restore_47 : decode cX9_restore 47 = .ok (.getfield 7, 3) := by decide +kernel
theorem dX9_restore_50 : decode cX9_restore 50 = .ok (.iload_n 1, 1) := by decide +kernel
theorem dX9_restore_51 : decode cX9_restore 51 = .ok (.aload_n 0, 1) := by decide +kernel
theorem dX9_restore_52 : decode cX9_restore 52 = .ok (.getfield 71, 3) := by decide +kernel
theorem dX9_restore_55 : decode cX9_restore 55 = .ok (.iload_n 1, 1) := by decide +kernel
theorem dX9_restore_56 : decode cX9_restore 56 = .ok (.iaload, 1) := by decide +kernel
theorem dX9_restore_57 : decode cX9_restore 57 = .ok (.iastore, 1) := by decide +kernel
theorem dX9_restore_58 : decode cX9_restore 58 = .ok (.iinc 1 1, 3) := by decide +kernel
theorem dX9_restore_61 : decode cX9_restore 61 = .ok (.goto (-21), 3) := by decide +kernel
theorem dX9_restore_64 : decode cX9_restore 64 = .ok (.iconst 0, 1) := by decide +kernel
theorem dX9_restore_65 : decode cX9_restore 65 = .ok (.istore_n 1, 1) := by decide +kernel
theorem dX9_restore_66 : decode cX9_restore 66 = .ok (.iload_n 1, 1) := by decide +kernel
theorem dX9_restore_67 : decode cX9_restore 67 = .ok (.sipush 1024, 3) := by decide +kernel
theorem dX9_restore_70 : decode cX9_restore 70 = .ok (.if_icmp .ge 45, 3) := by decide +kernel
theorem dX9_restore_73 : decode cX9_restore 73 = .ok (.aload_n 0, 1) := by decide +kernel
theorem dX9_restore_74 : decode cX9_restore 74 = .ok (.getfield 13, 3) := by decide +kernel
theorem dX9_restore_77 : decode cX9_restore 77 = .ok (.iload_n 1, 1) := by decide +kernel
theorem dX9_restore_78 : decode cX9_restore 78 = .ok (.aload_n 0, 1) := by decide +kernel
theorem dX9_restore_79 : decode cX9_restore 79 = .ok (.getfield 74, 3) := by decide +kernel
theorem dX9_restore_82 : decode cX9_restore 82 = .ok (.iload_n 1, 1) := by decide +kernel
theorem dX9_restore_83 : decode cX9_restore 83 = .ok (.iaload, 1) := by decide +kernel
theorem dX9_restore_84 : decode cX9_restore 84 = .ok (.iastore, 1) := by decide +kernel
theorem dX9_restore_85 : decode cX9_restore 85 = .ok (.aload_n 0, 1) := by decide +kernel
theorem dX9_restore_86 : decode cX9_restore 86 = .ok (.getfield 16, 3) := by decide +kernel
theorem dX9_restore_89 : decode cX9_restore 89 = .ok (.iload_n 1, 1) := by decide +kernel
theorem dX9_restore_90 : decode cX9_restore 90 = .ok (.aload_n 0, 1) := by decide +kernel
theorem dX9_restore_91 : decode cX9_restore 91 = .ok (.getfield 77, 3) := by decide +kernel
theorem dX9_restore_94 : decode cX9_restore 94 = .ok (.iload_n 1, 1) := by decide +kernel
theorem dX9_restore_95 : decode cX9_restore 95 = .ok (.iaload, 1) := by decide +kernel
theorem dX9_restore_96 : decode cX9_restore 96 = .ok (.iastore, 1) := by decide +kernel
theorem dX9_restore_97 : decode cX9_restore 97 = .ok (.aload_n 0, 1) := by decide +kernel
theorem dX9_restore_98 : decode cX9_restore 98 = .ok (.getfield 19, 3) := by decide +kernel
theorem dX9_restore_101 : decode cX9_restore 101 = .ok (.iload_n 1, 1) := by decide +kernel
theorem dX9_restore_102 : decode cX9_restore 102 = .ok (.aload_n 0, 1) := by decide +kernel
theorem dX9_restore_103 : decode cX9_restore 103 = .ok (.getfield 80, 3) := by decide +kernel
theorem dX9_restore_106 : decode cX9_restore 106 = .ok (.iload_n 1, 1) := by decide +kernel
theorem dX9_restore_107 : decode cX9_restore 107 = .ok (.iaload, 1) := by decide +kernel
theorem dX9_restore_108 : decode cX9_restore 108 = .ok (.iastore, 1) := by decide +kernel
theorem dX9_restore_109 : decode cX9_restore 109 = .ok (.iinc 1 1, 3) := by decide +kernel
theorem dX9_restore_112 : decode cX9_restore 112 = .ok (.goto (-46), 3) := by decide +kernel
theorem dX9_restore_115 : decode cX9_restore 115 = .ok (.iconst 0, 1) := by decide +kernel
theorem dX9_restore_116 : decode cX9_restore 116 = .ok (.istore_n 1, 1) := by decide +kernel
theorem dX9_restore_117 : decode cX9_restore 117 = .ok (.iload_n 1, 1) := by decide +kernel
theorem dX9_restore_118 : decode cX9_restore 118 = .ok (.bipush 80, 2) := by decide +kernel
theorem dX9_restore_120 : decode cX9_restore 120 = .ok (.if_icmp .ge 21, 3) := by decide +kernel
theorem dX9_restore_123 : decode cX9_restore 123 = .ok (.aload_n 0, 1) := by decide +kernel
theorem dX9_restore_124 : decode cX9_restore 124 = .ok (.getfield 22, 3) := by decide +kernel
theorem dX9_restore_127 : decode cX9_restore 127 = .ok (.iload_n 1, 1) := by decide +kernel
theorem dX9_restore_128 : decode cX9_restore 128 = .ok (.aload_n 0, 1) := by decide +kernel
theorem dX9_restore_129 : decode cX9_restore 129 = .ok (.getfield 83, 3) := by decide +kernel
theorem dX9_restore_132 : decode cX9_restore 132 = .ok (.iload_n 1, 1) := by decide +kernel
theorem dX9_restore_133 : decode cX9_restore 133 = .ok (.iaload, 1) := by decide +kernel
theorem dX9_restore_134 : decode cX9_restore 134 = .ok (.iastore, 1) := by decide +kernel
theorem dX9_restore_135 : decode cX9_restore 135 = .ok (.iinc 1 1, 3) := by decide +kernel
theorem dX9_restore_138 : decode cX9_restore 138 = .ok (.goto (-21), 3) := by decide +kernel
theorem dX9_restore_141 : decode cX9_restore 141 = .ok (.iconst 0, 1) := by decide +kernel
theorem dX9_restore_142 : decode cX9_restore 142 = .ok (.istore_n 1, 1) := by decide +kernel
theorem dX9_restore_143 : decode cX9_restore 143 = .ok (.iload_n 1, 1) := by decide +kernel
theorem dX9_restore_144 : decode cX9_restore 144 = .ok (.sipush 13440, 3) := by decide +kernel
theorem dX9_restore_147 : decode cX9_restore 147 = .ok (.if_icmp .ge 21, 3) := by decide +kernel
theorem dX9_restore_150 : decode cX9_restore 150 = .ok (.aload_n 0, 1) := by decide +kernel
theorem dX9_restore_151 : decode cX9_restore 151 = .ok (.getfield 25, 3) := by decide +kernel
theorem dX9_restore_154 : decode cX9_restore 154 = .ok (.iload_n 1, 1) := by decide +kernel
theorem dX9_restore_155 : decode cX9_restore 155 = .ok (.aload_n 0, 1) := by decide +kernel
theorem dX9_restore_156 : decode cX9_restore 156 = .ok (.getfield 86, 3) := by decide +kernel
theorem dX9_restore_159 : decode cX9_restore 159 = .ok (.iload_n 1, 1) := by decide +kernel
theorem dX9_restore_160 : decode cX9_restore 160 = .ok (.iaload, 1) := by decide +kernel
theorem dX9_restore_161 : decode cX9_restore 161 = .ok (.iastore, 1) := by decide +kernel
theorem dX9_restore_162 : decode cX9_restore 162 = .ok (.iinc 1 1, 3) := by decide +kernel
theorem dX9_restore_165 : decode cX9_restore 165 = .ok (.goto (-22), 3) := by decide +kernel
theorem dX9_restore_168 : decode cX9_restore 168 = .ok (.iconst 0, 1) := by decide +kernel
theorem dX9_restore_169 : decode cX9_restore 169 = .ok (.istore_n 1, 1) := by decide +kernel
theorem dX9_restore_170 : decode cX9_restore 170 = .ok (.iload_n 1, 1) := by decide +kernel
theorem dX9_restore_171 : decode cX9_restore 171 = .ok (.sipush 3840, 3) := by decide +kernel
theorem dX9_restore_174 : decode cX9_restore 174 = .ok (.if_icmp .ge 21, 3) := by decide +kernel
theorem dX9_restore_177 : decode cX9_restore 177 = .ok (.aload_n 0, 1) := by decide +kernel
theorem dX9_restore_178 : decode cX9_restore 178 = .ok (.getfield 28, 3) := by decide +kernel
theorem dX9_restore_181 : decode cX9_restore 181 = .ok (.iload_n 1, 1) := by decide +kernel
theorem dX9_restore_182 : decode cX9_restore 182 = .ok (.aload_n 0, 1) := by decide +kernel
theorem dX9_restore_183 : decode cX9_restore 183 = .ok (.getfield 89, 3) := by decide +kernel
theorem dX9_restore_186 : decode cX9_restore 186 = .ok (.iload_n 1, 1) := by decide +kernel
theorem dX9_restore_187 : decode cX9_restore 187 = .ok (.iaload, 1) := by decide +kernel
theorem dX9_restore_188 : decode cX9_restore 188 = .ok (.iastore, 1) := by decide +kernel
theorem dX9_restore_189 : decode cX9_restore 189 = .ok (.iinc 1 1, 3) := by decide +kernel
theorem dX9_restore_192 : decode cX9_restore 192 = .ok (.goto (-22), 3) := by decide +kernel
theorem dX9_restore_195 : decode cX9_restore 195 = .ok (.iconst 0, 1) := by decide +kernel
theorem dX9_restore_196 : decode cX9_restore 196 = .ok (.istore_n 1, 1) := by decide +kernel
theorem dX9_restore_197 : decode cX9_restore 197 = .ok (.iload_n 1, 1) := by decide +kernel
theorem dX9_restore_198 : decode cX9_restore 198 = .ok (.bipush 8, 2) := by decide +kernel
theorem dX9_restore_200 : decode cX9_restore 200 = .ok (.if_icmp .ge 37, 3) := by decide +kernel
theorem dX9_restore_203 : decode cX9_restore 203 = .ok (.aload_n 0, 1) := by decide +kernel
theorem dX9_restore_204 : decode cX9_restore 204 = .ok (.iload_n 1, 1) := by decide +kernel
theorem dX9_restore_205 : decode cX9_restore 205 = .ok (.invokevirtual 113, 3) := by decide +kernel
theorem dX9_restore_208 : decode cX9_restore 208 = .ok (.ifCond .ne 23, 3) := by decide +kernel
theorem dX9_restore_211 : decode cX9_restore 211 = .ok (.aload_n 0, 1) := by decide +kernel
theorem dX9_restore_212 : decode cX9_restore 212 = .ok (.getfield 31, 3) := by decide +kernel
theorem dX9_restore_215 : decode cX9_restore 215 = .ok (.iload_n 1, 1) := by decide +kernel
theorem dX9_restore_216 : decode cX9_restore 216 = .ok (.iaload, 1) := by decide +kernel
theorem dX9_restore_217 : decode cX9_restore 217 = .ok (.aload_n 0, 1) := by decide +kernel
theorem dX9_restore_218 : decode cX9_restore 218 = .ok (.getfield 110, 3) := by decide +kernel
theorem dX9_restore_221 : decode cX9_restore 221 = .ok (.if_icmp .lt 10, 3) := by decide +kernel
theorem dX9_restore_224 : decode cX9_restore 224 = .ok (.aload_n 0, 1) := by decide +kernel
theorem dX9_restore_225 : decode cX9_restore 225 = .ok (.getfield 31, 3) := by decide +kernel
theorem dX9_restore_228 : decode cX9_restore 228 = .ok (.iload_n 1, 1) := by decide +kernel
theorem dX9_restore_229 : decode cX9_restore 229 = .ok (.iconst (-1), 1) := by decide +kernel
theorem dX9_restore_230 : decode cX9_restore 230 = .ok (.iastore, 1) := by decide +kernel
theorem dX9_restore_231 : decode cX9_restore 231 = .ok (.iinc 1 1, 3) := by decide +kernel
theorem dX9_restore_234 : decode cX9_restore 234 = .ok (.goto (-37), 3) := by decide +kernel
theorem dX9_restore_237 : decode cX9_restore 237 = .ok (.aload_n 0, 1) := by decide +kernel
theorem dX9_restore_238 : decode cX9_restore 238 = .ok (.getfield 103, 3) := by decide +kernel
theorem dX9_restore_241 : decode cX9_restore 241 = .ok (.ireturn, 1) := by decide +kernel
theorem dX9_status_0 : decode cX9_status 0 = .ok (.iload_n 1, 1) := by decide +kernel
theorem dX9_status_1 : decode cX9_status 1 = .ok (.bipush 11, 2) := by decide +kernel
theorem dX9_status_3 : decode cX9_status 3 = .ok (.bipush 17, 2) := by decide +kernel
theorem dX9_status_5 : decode cX9_status 5 = .ok (.invokestatic 106, 3) := by decide +kernel
theorem dX9_status_8 : decode cX9_status 8 = .ok (.ifCond .eq 13, 3) := by decide +kernel
theorem dX9_status_11 : decode cX9_status 11 = .ok (.aload_n 0, 1) := by decide +kernel
theorem dX9_status_12 : decode cX9_status 12 = .ok (.getfield 41, 3) := by decide +kernel
theorem dX9_status_15 : decode cX9_status 15 = .ok (.iload_n 1, 1) := by decide +kernel
theorem dX9_status_16 : decode cX9_status 16 = .ok (.bipush 10, 2) := by decide +kernel
theorem dX9_status_18 : decode cX9_status 18 = .ok (.isub, 1) := by decide +kernel
theorem dX9_status_19 : decode cX9_status 19 = .ok (.iaload, 1) := by decide +kernel
theorem dX9_status_20 : decode cX9_status 20 = .ok (.ireturn, 1) := by decide +kernel
theorem dX9_status_21 : decode cX9_status 21 = .ok (.iconst 0, 1) := by decide +kernel
theorem dX9_status_22 : decode cX9_status 22 = .ok (.istore_n 2, 1) := by decide +kernel
theorem dX9_status_23 : decode cX9_status 23 = .ok (.iload_n 1, 1) := by decide +kernel
theorem dX9_status_24 : decode cX9_status 24 = .ok (.tableswitch 146 0 6 #[44, 49, 54, 81, 108, 113, 118], 44) := by decide +kernel
theorem dX9_status_68 : decode cX9_status 68 = .ok (.aload_n 0, 1) := by decide +kernel
theorem dX9_status_69 : decode cX9_status 69 = .ok (.getfield 103, 3) := by decide +kernel
theorem dX9_status_72 : decode cX9_status 72 = .ok (.ireturn, 1) := by decide +kernel
theorem dX9_status_73 : decode cX9_status 73 = .ok (.aload_n 0, 1) := by decide +kernel
theorem dX9_status_74 : decode cX9_status 74 = .ok (.getfield 110, 3) := by decide +kernel
theorem dX9_status_77 : decode cX9_status 77 = .ok (.ireturn, 1) := by decide +kernel
theorem dX9_status_78 : decode cX9_status 78 = .ok (.iconst 0, 1) := by decide +kernel
theorem dX9_status_79 : decode cX9_status 79 = .ok (.istore_n 3, 1) := by decide +kernel
theorem dX9_status_80 : decode cX9_status 80 = .ok (.iload_n 3, 1) := by decide +kernel
theorem dX9_status_81 : decode cX9_status 81 = .ok (.aload_n 0, 1) := by decide +kernel
theorem dX9_status_82 : decode cX9_status 82 = .ok (.getfield 103, 3) := by decide +kernel
theorem dX9_status_85 : decode cX9_status 85 = .ok (.if_icmp .ge 18, 3) := by decide +kernel
theorem dX9_status_88 : decode cX9_status 88 = .ok (.iload_n 2, 1) := by decide +kernel
theorem dX9_status_89 : decode cX9_status 89 = .ok (.aload_n 0, 1) := by decide +kernel
theorem dX9_status_90 : decode cX9_status 90 = .ok (.getfield 7, 3) := by decide +kernel
theorem dX9_status_93 : decode cX9_status 93 = .ok (.iload_n 3, 1) := by decide +kernel
theorem dX9_status_94 : decode cX9_status 94 = .ok (.iaload, 1) := by decide +kernel
theorem dX9_status_95 : decode cX9_status 95 = .ok (.iadd, 1) := by decide +kernel
theorem dX9_status_96 : decode cX9_status 96 = .ok (.istore_n 2, 1) := by decide +kernel
theorem dX9_status_97 : decode cX9_status 97 = .ok (.iinc 3 1, 3) := by decide +kernel
theorem dX9_status_100 : decode cX9_status 100 = .ok (.goto (-20), 3) := by decide +kernel
theorem dX9_status_103 : decode cX9_status 103 = .ok (.iload_n 2, 1) := by decide +kernel
theorem dX9_status_104 : decode cX9_status 104 = .ok (.ireturn, 1) := by decide +kernel
theorem dX9_status_105 : decode cX9_status 105 = .ok (.iconst 0, 1) := by decide +kernel
theorem dX9_status_106 : decode cX9_status 106 = .ok (.istore_n 3, 1) := by decide +kernel
theorem dX9_status_107 : decode cX9_status 107 = .ok (.iload_n 3, 1) := by decide +kernel
theorem dX9_status_108 : decode cX9_status 108 = .ok (.aload_n 0, 1) := by decide +kernel
theorem dX9_status_109 : decode cX9_status 109 = .ok (.getfield 110, 3) := by decide +kernel
theorem dX9_status_112 : decode cX9_status 112 = .ok (.if_icmp .ge 18, 3) := by decide +kernel
theorem dX9_status_115 : decode cX9_status 115 = .ok (.iload_n 2, 1) := by decide +kernel
theorem dX9_status_116 : decode cX9_status 116 = .ok (.aload_n 0, 1) := by decide +kernel
theorem dX9_status_117 : decode cX9_status 117 = .ok (.iconst 0, 1) := by decide +kernel
theorem dX9_status_118 : decode cX9_status 118 = .ok (.iload_n 3, 1) := by decide +kernel
theorem dX9_status_119 : decode cX9_status 119 = .ok (.invokevirtual 123, 3) := by decide +kernel
theorem dX9_status_122 : decode cX9_status 122 = .ok (.iadd, 1) := by decide +kernel
theorem dX9_status_123 : decode cX9_status 123 = .ok (.istore_n 2, 1) := by decide +kernel
theorem dX9_status_124 : decode cX9_status 124 = .ok (.iinc 3 1, 3) := by decide +kernel
theorem dX9_status_127 : decode cX9_status 127 = .ok (.goto (-20), 3) := by decide +kernel
theorem dX9_status_130 : decode cX9_status 130 = .ok (.iload_n 2, 1) := by decide +kernel
theorem dX9_status_131 : decode cX9_status 131 = .ok (.ireturn, 1) := by decide +kernel
theorem dX9_status_132 : decode cX9_status 132 = .ok (.aload_n 0, 1) := by decide +kernel
theorem dX9_status_133 : decode cX9_status 133 = .ok (.getfield 239, 3) := by decide +kernel
theorem dX9_status_136 : decode cX9_status 136 = .ok (.ireturn, 1) := by decide +kernel
theorem dX9_status_137 : decode cX9_status 137 = .ok (.aload_n 0, 1) := by decide +kernel
theorem dX9_status_138 : decode cX9_status 138 = .ok (.getfield 92, 3) := by decide +kernel
theorem dX9_status_141 : decode cX9_status 141 = .ok (.ireturn, 1) := by decide +kernel
theorem dX9_status_142 : decode cX9_status 142 = .ok (.iconst 0, 1) := by decide +kernel
theorem dX9_status_143 : decode cX9_status 143 = .ok (.istore_n 3, 1) := by decide +kernel
theorem dX9_status_144 : decode cX9_status 144 = .ok (.iload_n 3, 1) := by decide +kernel
theorem dX9_status_145 : decode cX9_status 145 = .ok (.bipush 8, 2) := by decide +kernel
theorem dX9_status_147 : decode cX9_status 147 = .ok (.if_icmp .ge 21, 3) := by decide +kernel
theorem dX9_status_150 : decode cX9_status 150 = .ok (.aload_n 0, 1) := by decide +kernel
theorem dX9_status_151 : decode cX9_status 151 = .ok (.getfield 31, 3) := by decide +kernel
theorem dX9_status_154 : decode cX9_status 154 = .ok (.iload_n 3, 1) := by decide +kernel
theorem dX9_status_155 : decode cX9_status 155 = .ok (.iaload, 1) := by decide +kernel
theorem dX9_status_156 : decode cX9_status 156 = .ok (.ifCond .lt 6, 3) := by decide +kernel
theorem dX9_status_159 : decode cX9_status 159 = .ok (.iinc 2 1, 3) := by decide +kernel
theorem dX9_status_162 : decode cX9_status 162 = .ok (.iinc 3 1, 3) := by decide +kernel
theorem dX9_status_165 : decode cX9_status 165 = .ok (.goto (-21), 3) := by decide +kernel
theorem dX9_status_168 : decode cX9_status 168 = .ok (.iload_n 2, 1) := by decide +kernel
theorem dX9_status_169 : decode cX9_status 169 = .ok (.ireturn, 1) := by decide +kernel
theorem dX9_status_170 : decode cX9_status 170 = .ok (.iconst (-1), 1) := by decide +kernel
theorem dX9_status_171 : decode cX9_status 171 = .ok (.ireturn, 1) := by decide +kernel
theorem dJ9_max_7cf53_0 : decode cJ9_max_7cf53 0 = .ok (.iload_n 0, 1) := by decide +kernel
theorem dJ9_max_7cf53_1 : decode cJ9_max_7cf53 1 = .ok (.iload_n 1, 1) := by decide +kernel
theorem dJ9_max_7cf53_2 : decode cJ9_max_7cf53 2 = .ok (.if_icmp .lt 7, 3) := by decide +kernel
theorem dJ9_max_7cf53_5 : decode cJ9_max_7cf53 5 = .ok (.iload_n 0, 1) := by decide +kernel
theorem dJ9_max_7cf53_6 : decode cJ9_max_7cf53 6 = .ok (.goto 4, 3) := by decide +kernel
theorem dJ9_max_7cf53_9 : decode cJ9_max_7cf53 9 = .ok (.iload_n 1, 1) := by decide +kernel
theorem dJ9_max_7cf53_10 : decode cJ9_max_7cf53 10 = .ok (.ireturn, 1) := by decide +kernel
theorem dJ9_min_7cf53_0 : decode cJ9_min_7cf53 0 = .ok (.iload_n 0, 1) := by decide +kernel
theorem dJ9_min_7cf53_1 : decode cJ9_min_7cf53 1 = .ok (.iload_n 1, 1) := by decide +kernel
theorem dJ9_min_7cf53_2 : decode cJ9_min_7cf53 2 = .ok (.if_icmp .gt 7, 3) := by decide +kernel
theorem dJ9_min_7cf53_5 : decode cJ9_min_7cf53 5 = .ok (.iload_n 0, 1) := by decide +kernel
theorem dJ9_min_7cf53_6 : decode cJ9_min_7cf53 6 = .ok (.goto 4, 3) := by decide +kernel
theorem dJ9_min_7cf53_9 : decode cJ9_min_7cf53 9 = .ok (.iload_n 1, 1) := by decide +kernel
theorem dJ9_min_7cf53_10 : decode cJ9_min_7cf53 10 = .ok (.ireturn, 1) := by decide +kernel
theorem dL_law_0 : decode cL_law 0 = .ok (.new 7, 3) := by decide +kernel
theorem dL_law_3 : decode cL_law 3 = .ok (.dup, 1) := by decide +kernel
theorem dL_law_4 : decode cL_law 4 = .ok (.invokespecial 9, 3) := by decide +kernel
theorem dL_law_7 : decode cL_law 7 = .ok (.astore_n 1, 1) := by decide +kernel
theorem dL_law_8 : decode cL_law 8 = .ok (.new 10, 3) := by decide +kernel
theorem dL_law_11 : decode cL_law 11 = .ok (.dup, 1) := by decide +kernel
theorem dL_law_12 : decode cL_law 12 = .ok (.invokespecial 12, 3) := by decide +kernel
theorem dL_law_15 : decode cL_law 15 = .ok (.astore_n 2, 1) := by decide +kernel
theorem dL_law_16 : decode cL_law 16 = .ok (.iconst 0, 1) := by decide +kernel
theorem dL_law_17 : decode cL_law 17 = .ok (.istore_n 3, 1) := by decide +kernel
theorem dL_law_18 : decode cL_law 18 = .ok (.iload_n 3, 1) := by decide +kernel
theorem dL_law_19 : decode cL_law 19 = .ok (.aload_n 0, 1) := by decide +kernel
theorem dL_law_20 : decode cL_law 20 = .ok (.arraylength, 1) := by decide +kernel
theorem dL_law_21 : decode cL_law 21 = .ok (.bipush 6, 2) := by decide +kernel
theorem dL_law_23 : decode cL_law 23 = .ok (.isub, 1) := by decide +kernel
theorem dL_law_24 : decode cL_law 24 = .ok (.if_icmp .gt 1447, 3) := by decide +kernel
theorem dL_law_27 : decode cL_law 27 = .ok (.aload_n 0, 1) := by decide +kernel
theorem dL_law_28 : decode cL_law 28 = .ok (.iload_n 3, 1) := by decide +kernel
theorem dL_law_29 : decode cL_law 29 = .ok (.iaload, 1) := by decide +kernel
theorem dL_law_30 : decode cL_law 30 = .ok (.bipush 63, 2) := by decide +kernel
theorem dL_law_32 : decode cL_law 32 = .ok (.iand, 1) := by decide +kernel
theorem dL_law_33 : decode cL_law 33 = .ok (.tableswitch 1432 0 37 #[167, 210, 283, 346, 380, 413, 436, 469, 492, 505, 528, 571, 604, 647, 690, 723, 746, 779, 812, 845, 878, 921, 954, 987, 1020, 1043, 1076, 1099, 1132, 1175, 1218, 1271, 1284, 1327, 1360, 1383, 1396, 1409], 167) := by decide +kernel
theorem dL_law_200 : decode cL_law 200 = .ok (.aload_n 1, 1) := by decide +kernel
theorem dL_law_201 : decode cL_law 201 = .ok (.aload_n 0, 1) := by decide +kernel
theorem dL_law_202 : decode cL_law 202 = .ok (.iload_n 3, 1) := by decide +kernel
theorem dL_law_203 : decode cL_law 203 = .ok (.iconst 1, 1) := by decide +kernel
theorem dL_law_204 : decode cL_law 204 = .ok (.iadd, 1) := by decide +kernel
theorem dL_law_205 : decode cL_law 205 = .ok (.iaload, 1) := by decide +kernel
theorem dL_law_206 : decode cL_law 206 = .ok (.aload_n 0, 1) := by decide +kernel
theorem dL_law_207 : decode cL_law 207 = .ok (.iload_n 3, 1) := by decide +kernel
theorem dL_law_208 : decode cL_law 208 = .ok (.iconst 2, 1) := by decide +kernel
theorem dL_law_209 : decode cL_law 209 = .ok (.iadd, 1) := by decide +kernel
theorem dL_law_210 : decode cL_law 210 = .ok (.iaload, 1) := by decide +kernel
theorem dL_law_211 : decode cL_law 211 = .ok (.aload_n 0, 1) := by decide +kernel
theorem dL_law_212 : decode cL_law 212 = .ok (.iload_n 3, 1) := by decide +kernel
theorem dL_law_213 : decode cL_law 213 = .ok (.iconst 3, 1) := by decide +kernel
theorem dL_law_214 : decode cL_law 214 = .ok (.iadd, 1) := by decide +kernel
theorem dL_law_215 : decode cL_law 215 = .ok (.iaload, 1) := by decide +kernel
theorem dL_law_216 : decode cL_law 216 = .ok (.invokevirtual 13, 3) := by decide +kernel
theorem dL_law_219 : decode cL_law 219 = .ok (.aload_n 2, 1) := by decide +kernel
theorem dL_law_220 : decode cL_law 220 = .ok (.aload_n 0, 1) := by decide +kernel
theorem dL_law_221 : decode cL_law 221 = .ok (.iload_n 3, 1) := by decide +kernel
theorem dL_law_222 : decode cL_law 222 = .ok (.iconst 1, 1) := by decide +kernel
theorem dL_law_223 : decode cL_law 223 = .ok (.iadd, 1) := by decide +kernel
theorem dL_law_224 : decode cL_law 224 = .ok (.iaload, 1) := by decide +kernel
theorem dL_law_225 : decode cL_law 225 = .ok (.aload_n 0, 1) := by decide +kernel
theorem dL_law_226 : decode cL_law 226 = .ok (.iload_n 3, 1) := by decide +kernel
theorem dL_law_227 : decode cL_law 227 = .ok (.iconst 2, 1) := by decide +kernel
theorem dL_law_228 : decode cL_law 228 = .ok (.iadd, 1) := by decide +kernel
theorem dL_law_229 : decode cL_law 229 = .ok (.iaload, 1) := by decide +kernel
theorem dL_law_230 : decode cL_law 230 = .ok (.aload_n 0, 1) := by decide +kernel
theorem dL_law_231 : decode cL_law 231 = .ok (.iload_n 3, 1) := by decide +kernel
theorem dL_law_232 : decode cL_law 232 = .ok (.iconst 3, 1) := by decide +kernel
theorem dL_law_233 : decode cL_law 233 = .ok (.iadd, 1) := by decide +kernel
theorem dL_law_234 : decode cL_law 234 = .ok (.iaload, 1) := by decide +kernel
theorem dL_law_235 : decode cL_law 235 = .ok (.invokevirtual 17, 3) := by decide +kernel
theorem dL_law_238 : decode cL_law 238 = .ok (.if_icmp .eq 1227, 3) := by decide +kernel
theorem dL_law_241 : decode cL_law 241 = .ok (.iconst 0, 1) := by decide +kernel
theorem dL_law_242 : decode cL_law 242 = .ok (.ireturn, 1) := by decide +kernel
theorem dL_law_243 : decode cL_law 243 = .ok (.aload_n 1, 1) := by decide +kernel
theorem dL_law_244 : decode cL_law 244 = .ok (.aload_n 0, 1) := by decide +kernel
theorem dL_law_245 : decode cL_law 245 = .ok (.iload_n 3, 1) := by decide +kernel
theorem dL_law_246 : decode cL_law 246 = .ok (.iconst 1, 1) := by decide +kernel
theorem dL_law_247 : decode cL_law 247 = .ok (.iadd, 1) := by decide +kernel
theorem dL_law_248 : decode cL_law 248 = .ok (.iaload, 1) := by decide +kernel
theorem dL_law_249 : decode cL_law 249 = .ok (.aload_n 0, 1) := by decide +kernel
theorem dL_law_250 : decode cL_law 250 = .ok (.iload_n 3, 1) := by decide +kernel
theorem dL_law_251 : decode cL_law 251 = .ok (.iconst 2, 1) := by decide +kernel
theorem dL_law_252 : decode cL_law 252 = .ok (.iadd, 1) := by decide +kernel
theorem dL_law_253 : decode cL_law 253 = .ok (.iaload, 1) := by decide +kernel
theorem dL_law_254 : decode cL_law 254 = .ok (.aload_n 0, 1) := by decide +kernel
theorem dL_law_255 : decode cL_law 255 = .ok (.iload_n 3, 1) := by decide +kernel
theorem dL_law_256 : decode cL_law 256 = .ok (.iconst 3, 1) := by decide +kernel
theorem dL_law_257 : decode cL_law 257 = .ok (.iadd, 1) := by decide +kernel
theorem dL_law_258 : decode cL_law 258 = .ok (.iaload, 1) := by decide +kernel
theorem dL_law_259 : decode cL_law 259 = .ok (.i2l, 1) := by decide +kernel
theorem dL_law_260 : decode cL_law 260 = .ok (.bipush 32, 2) := by decide +kernel
theorem dL_law_262 : decode cL_law 262 = .ok (.lshl, 1) := by decide +kernel
theorem dL_law_263 : decode cL_law 263 = .ok (.aload_n 0, 1) := by decide +kernel
theorem dL_law_264 : decode cL_law 264 = .ok (.iload_n 3, 1) := by decide +kernel
theorem dL_law_265 : decode cL_law 265 = .ok (.iconst 4, 1) := by decide +kernel
theorem dL_law_266 : decode cL_law 266 = .ok (.iadd, 1) := by decide +kernel
theorem dL_law_267 : decode cL_law 267 = .ok (.iaload, 1) := by decide +kernel
theorem dL_law_268 : decode cL_law 268 = .ok (.i2l, 1) := by decide +kernel
theorem dL_law_269 : decode cL_law 269 = .ok (.ldc2_w 18, 3) := by decide +kernel
theorem dL_law_272 : decode cL_law 272 = .ok (.land, 1) := by decide +kernel
theorem dL_law_273 : decode cL_law 273 = .ok (.lor, 1) := by decide +kernel
theorem dL_law_274 : decode cL_law 274 = .ok (.invokevirtual 20, 3) := by decide +kernel
theorem dL_law_277 : decode cL_law 277 = .ok (.aload_n 2, 1) := by decide +kernel
theorem dL_law_278 : decode cL_law 278 = .ok (.aload_n 0, 1) := by decide +kernel
theorem dL_law_279 : decode cL_law 279 = .ok (.iload_n 3, 1) := by decide +kernel
theorem dL_law_280 : decode cL_law 280 = .ok (.iconst 1, 1) := by decide +kernel
theorem dL_law_281 : decode cL_law 281 = .ok (.iadd, 1) := by decide +kernel
theorem dL_law_282 : decode cL_law 282 = .ok (.iaload, 1) := by decide +kernel
theorem dL_law_283 : decode cL_law 283 = .ok (.aload_n 0, 1) := by decide +kernel
theorem dL_law_284 : decode cL_law 284 = .ok (.iload_n 3, 1) := by decide +kernel
theorem dL_law_285 : decode cL_law 285 = .ok (.iconst 2, 1) := by decide +kernel
theorem dL_law_286 : decode cL_law 286 = .ok (.iadd, 1) := by decide +kernel
theorem dL_law_287 : decode cL_law 287 = .ok (.iaload, 1) := by decide +kernel
theorem dL_law_288 : decode cL_law 288 = .ok (.aload_n 0, 1) := by decide +kernel
theorem dL_law_289 : decode cL_law 289 = .ok (.iload_n 3, 1) := by decide +kernel
theorem dL_law_290 : decode cL_law 290 = .ok (.iconst 3, 1) := by decide +kernel
theorem dL_law_291 : decode cL_law 291 = .ok (.iadd, 1) := by decide +kernel
theorem dL_law_292 : decode cL_law 292 = .ok (.iaload, 1) := by decide +kernel
theorem dL_law_293 : decode cL_law 293 = .ok (.i2l, 1) := by decide +kernel
theorem dL_law_294 : decode cL_law 294 = .ok (.bipush 32, 2) := by decide +kernel
theorem dL_law_296 : decode cL_law 296 = .ok (.lshl, 1) := by decide +kernel
theorem dL_law_297 : decode cL_law 297 = .ok (.aload_n 0, 1) := by decide +kernel
theorem dL_law_298 : decode cL_law 298 = .ok (.iload_n 3, 1) := by decide +kernel
theorem dL_law_299 : decode cL_law 299 = .ok (.iconst 4, 1) := by decide +kernel
theorem dL_law_300 : decode cL_law 300 = .ok (.iadd, 1) := by decide +kernel
theorem dL_law_301 : decode cL_law 301 = .ok (.iaload, 1) := by decide +kernel
theorem dL_law_302 : decode cL_law 302 = .ok (.i2l, 1) := by decide +kernel
theorem dL_law_303 : decode cL_law 303 = .ok (.ldc2_w 18, 3) := by decide +kernel
theorem dL_law_306 : decode cL_law 306 = .ok (.land, 1) := by decide +kernel
theorem dL_law_307 : decode cL_law 307 = .ok (.lor, 1) := by decide +kernel
theorem dL_law_308 : decode cL_law 308 = .ok (.invokevirtual 24, 3) := by decide +kernel
theorem dL_law_311 : decode cL_law 311 = .ok (.if_icmp .eq 1154, 3) := by decide +kernel
theorem dL_law_314 : decode cL_law 314 = .ok (.iconst 0, 1) := by decide +kernel
theorem dL_law_315 : decode cL_law 315 = .ok (.ireturn, 1) := by decide +kernel
theorem dL_law_316 : decode cL_law 316 = .ok (.aload_n 1, 1) := by decide +kernel
theorem dL_law_317 : decode cL_law 317 = .ok (.aload_n 0, 1) := by decide +kernel
theorem dL_law_318 : decode cL_law 318 = .ok (.iload_n 3, 1) := by decide +kernel
theorem dL_law_319 : decode cL_law 319 = .ok (.iconst 1, 1) := by decide +kernel
theorem dL_law_320 : decode cL_law 320 = .ok (.iadd, 1) := by decide +kernel
theorem dL_law_321 : decode cL_law 321 = .ok (.iaload, 1) := by decide +kernel
theorem dL_law_322 : decode cL_law 322 = .ok (.aload_n 0, 1) := by decide +kernel
theorem dL_law_323 : decode cL_law 323 = .ok (.iload_n 3, 1) := by decide +kernel
theorem dL_law_324 : decode cL_law 324 = .ok (.iconst 2, 1) := by decide +kernel
theorem dL_law_325 : decode cL_law 325 = .ok (.iadd, 1) := by decide +kernel
theorem dL_law_326 : decode cL_law 326 = .ok (.iaload, 1) := by decide +kernel
theorem dL_law_327 : decode cL_law 327 = .ok (.aload_n 0, 1) := by decide +kernel
theorem dL_law_328 : decode cL_law 328 = .ok (.iload_n 3, 1) := by decide +kernel
theorem dL_law_329 : decode cL_law 329 = .ok (.iconst 3, 1) := by decide +kernel
theorem dL_law_330 : decode cL_law 330 = .ok (.iadd, 1) := by decide +kernel
theorem dL_law_331 : decode cL_law 331 = .ok (.iaload, 1) := by decide +kernel
theorem dL_law_332 : decode cL_law 332 = .ok (.aload_n 0, 1) := by decide +kernel
theorem dL_law_333 : decode cL_law 333 = .ok (.iload_n 3, 1) := by decide +kernel
theorem dL_law_334 : decode cL_law 334 = .ok (.iconst 4, 1) := by decide +kernel
theorem dL_law_335 : decode cL_law 335 = .ok (.iadd, 1) := by decide +kernel
theorem dL_law_336 : decode cL_law 336 = .ok (.iaload, 1) := by decide +kernel
theorem dL_law_337 : decode cL_law 337 = .ok (.aload_n 0, 1) := by decide +kernel
theorem dL_law_338 : decode cL_law 338 = .ok (.iload_n 3, 1) := by decide +kernel
theorem dL_law_339 : decode cL_law 339 = .ok (.iconst 5, 1) := by decide +kernel
theorem dL_law_340 : decode cL_law 340 = .ok (.iadd, 1) := by decide +kernel
theorem dL_law_341 : decode cL_law 341 = .ok (.iaload, 1) := by decide +kernel
theorem dL_law_342 : decode cL_law 342 = .ok (.invokevirtual 25, 3) := by decide +kernel
theorem dL_law_345 : decode cL_law 345 = .ok (.aload_n 2, 1) := by decide +kernel
theorem dL_law_346 : decode cL_law 346 = .ok (.aload_n 0, 1) := by decide +kernel
theorem dL_law_347 : decode cL_law 347 = .ok (.iload_n 3, 1) := by decide +kernel
theorem dL_law_348 : decode cL_law 348 = .ok (.iconst 1, 1) := by decide +kernel
theorem dL_law_349 : decode cL_law 349 = .ok (.iadd, 1) := by decide +kernel
theorem dL_law_350 : decode cL_law 350 = .ok (.iaload, 1) := by decide +kernel
theorem dL_law_351 : decode cL_law 351 = .ok (.aload_n 0, 1) := by decide +kernel
theorem dL_law_352 : decode cL_law 352 = .ok (.iload_n 3, 1) := by decide +kernel
theorem dL_law_353 : decode cL_law 353 = .ok (.iconst 2, 1) := by decide +kernel
theorem dL_law_354 : decode cL_law 354 = .ok (.iadd, 1) := by decide +kernel
theorem dL_law_355 : decode cL_law 355 = .ok (.iaload, 1) := by decide +kernel
theorem dL_law_356 : decode cL_law 356 = .ok (.aload_n 0, 1) := by decide +kernel
theorem dL_law_357 : decode cL_law 357 = .ok (.iload_n 3, 1) := by decide +kernel
theorem dL_law_358 : decode cL_law 358 = .ok (.iconst 3, 1) := by decide +kernel
theorem dL_law_359 : decode cL_law 359 = .ok (.iadd, 1) := by decide +kernel
theorem dL_law_360 : decode cL_law 360 = .ok (.iaload, 1) := by decide +kernel
theorem dL_law_361 : decode cL_law 361 = .ok (.aload_n 0, 1) := by decide +kernel
theorem dL_law_362 : decode cL_law 362 = .ok (.iload_n 3, 1) := by decide +kernel
theorem dL_law_363 : decode cL_law 363 = .ok (.iconst 4, 1) := by decide +kernel
theorem dL_law_364 : decode cL_law 364 = .ok (.iadd, 1) := by decide +kernel
theorem dL_law_365 : decode cL_law 365 = .ok (.iaload, 1) := by decide +kernel
theorem dL_law_366 : decode cL_law 366 = .ok (.aload_n 0, 1) := by decide +kernel
theorem dL_law_367 : decode cL_law 367 = .ok (.iload_n 3, 1) := by decide +kernel
theorem dL_law_368 : decode cL_law 368 = .ok (.iconst 5, 1) := by decide +kernel
theorem dL_law_369 : decode cL_law 369 = .ok (.iadd, 1) := by decide +kernel
theorem dL_law_370 : decode cL_law 370 = .ok (.iaload, 1) := by decide +kernel
theorem dL_law_371 : decode cL_law 371 = .ok (.invokevirtual 29, 3) := by decide +kernel
theorem dL_law_374 : decode cL_law 374 = .ok (.if_icmp .eq 1091, 3) := by decide +kernel
theorem dL_law_377 : decode cL_law 377 = .ok (.iconst 0, 1) := by decide +kernel
theorem dL_law_378 : decode cL_law 378 = .ok (.ireturn, 1) := by decide +kernel
theorem dL_law_379 : decode cL_law 379 = .ok (.aload_n 1, 1) := by decide +kernel
theorem dL_law_380 : decode cL_law 380 = .ok (.aload_n 0, 1) := by decide +kernel
theorem dL_law_381 : decode cL_law 381 = .ok (.iload_n 3, 1) := by decide +kernel
theorem dL_law_382 : decode cL_law 382 = .ok (.iconst 1, 1) := by decide +kernel
theorem dL_law_383 : decode cL_law 383 = .ok (.iadd, 1) := by decide +kernel
theorem dL_law_384 : decode cL_law 384 = .ok (.iaload, 1) := by decide +kernel
theorem dL_law_385 : decode cL_law 385 = .ok (.aload_n 0, 1) := by decide +kernel
theorem dL_law_386 : decode cL_law 386 = .ok (.iload_n 3, 1) := by decide +kernel
theorem dL_law_387 : decode cL_law 387 = .ok (.iconst 2, 1) := by decide +kernel
theorem dL_law_388 : decode cL_law 388 = .ok (.iadd, 1) := by decide +kernel
theorem dL_law_389 : decode cL_law 389 = .ok (.iaload, 1) := by decide +kernel
theorem dL_law_390 : decode cL_law 390 = .ok (.invokevirtual 30, 3) := by decide +kernel
theorem dL_law_393 : decode cL_law 393 = .ok (.aload_n 2, 1) := by decide +kernel
theorem dL_law_394 : decode cL_law 394 = .ok (.aload_n 0, 1) := by decide +kernel
theorem dL_law_395 : decode cL_law 395 = .ok (.iload_n 3, 1) := by decide +kernel
theorem dL_law_396 : decode cL_law 396 = .ok (.iconst 1, 1) := by decide +kernel
theorem dL_law_397 : decode cL_law 397 = .ok (.iadd, 1) := by decide +kernel
theorem dL_law_398 : decode cL_law 398 = .ok (.iaload, 1) := by decide +kernel
theorem dL_law_399 : decode cL_law 399 = .ok (.aload_n 0, 1) := by decide +kernel
theorem dL_law_400 : decode cL_law 400 = .ok (.iload_n 3, 1) := by decide +kernel
theorem dL_law_401 : decode cL_law 401 = .ok (.iconst 2, 1) := by decide +kernel
theorem dL_law_402 : decode cL_law 402 = .ok (.iadd, 1) := by decide +kernel
theorem dL_law_403 : decode cL_law 403 = .ok (.iaload, 1) := by decide +kernel
theorem dL_law_404 : decode cL_law 404 = .ok (.invokevirtual 34, 3) := by decide +kernel
theorem dL_law_407 : decode cL_law 407 = .ok (.lcmp, 1) := by decide +kernel
theorem dL_law_408 : decode cL_law 408 = .ok (.ifCond .eq 1057, 3) := by decide +kernel
theorem dL_law_411 : decode cL_law 411 = .ok (.iconst 0, 1) := by decide +kernel
theorem dL_law_412 : decode cL_law 412 = .ok (.ireturn, 1) := by decide +kernel
theorem dL_law_413 : decode cL_law 413 = .ok (.aload_n 1, 1) := by decide +kernel
theorem dL_law_414 : decode cL_law 414 = .ok (.aload_n 0, 1) := by decide +kernel
theorem dL_law_415 : decode cL_law 415 = .ok (.iload_n 3, 1) := by decide +kernel
theorem dL_law_416 : decode cL_law 416 = .ok (.iconst 1, 1) := by decide +kernel
theorem dL_law_417 : decode cL_law 417 = .ok (.iadd, 1) := by decide +kernel
theorem dL_law_418 : decode cL_law 418 = .ok (.iaload, 1) := by decide +kernel
theorem dL_law_419 : decode cL_law 419 = .ok (.aload_n 0, 1) := by decide +kernel
theorem dL_law_420 : decode cL_law 420 = .ok (.iload_n 3, 1) := by decide +kernel
theorem dL_law_421 : decode cL_law 421 = .ok (.iconst 2, 1) := by decide +kernel
theorem dL_law_422 : decode cL_law 422 = .ok (.iadd, 1) := by decide +kernel
theorem dL_law_423 : decode cL_law 423 = .ok (.iaload, 1) := by decide +kernel
theorem dL_law_424 : decode cL_law 424 = .ok (.invokevirtual 35, 3) := by decide +kernel
theorem dL_law_427 : decode cL_law 427 = .ok (.aload_n 2, 1) := by decide +kernel
theorem dL_law_428 : decode cL_law 428 = .ok (.aload_n 0, 1) := by decide +kernel
theorem dL_law_429 : decode cL_law 429 = .ok (.iload_n 3, 1) := by decide +kernel
theorem dL_law_430 : decode cL_law 430 = .ok (.iconst 1, 1) := by decide +kernel
theorem dL_law_431 : decode cL_law 431 = .ok (.iadd, 1) := by decide +kernel
theorem dL_law_432 : decode cL_law 432 = .ok (.iaload, 1) := by decide +kernel
theorem dL_law_433 : decode cL_law 433 = .ok (.aload_n 0, 1) := by decide +kernel
theorem dL_law_434 : decode cL_law 434 = .ok (.iload_n 3, 1) := by decide +kernel
theorem dL_law_435 : decode cL_law 435 = .ok (.iconst 2, 1) := by decide +kernel
theorem dL_law_436 : decode cL_law 436 = .ok (.iadd, 1) := by decide +kernel
theorem dL_law_437 : decode cL_law 437 = .ok (.iaload, 1) := by decide +kernel
theorem dL_law_438 : decode cL_law 438 = .ok (.invokevirtual 39, 3) := by decide +kernel
theorem dL_law_441 : decode cL_law 441 = .ok (.if_icmp .eq 1024, 3) := by decide +kernel
theorem dL_law_444 : decode cL_law 444 = .ok (.iconst 0, 1) := by decide +kernel
theorem dL_law_445 : decode cL_law 445 = .ok (.ireturn, 1) := by decide +kernel
theorem dL_law_446 : decode cL_law 446 = .ok (.aload_n 1, 1) := by decide +kernel
theorem dL_law_447 : decode cL_law 447 = .ok (.aload_n 0, 1) := by decide +kernel
theorem dL_law_448 : decode cL_law 448 = .ok (.iload_n 3, 1) := by decide +kernel
theorem dL_law_449 : decode cL_law 449 = .ok (.iconst 1, 1) := by decide +kernel
theorem dL_law_450 : decode cL_law 450 = .ok (.iadd, 1) := by decide +kernel
theorem dL_law_451 : decode cL_law 451 = .ok (.iaload, 1) := by decide +kernel
theorem dL_law_452 : decode cL_law 452 = .ok (.invokevirtual 40, 3) := by decide +kernel
theorem dL_law_455 : decode cL_law 455 = .ok (.aload_n 2, 1) := by decide +kernel
theorem dL_law_456 : decode cL_law 456 = .ok (.aload_n 0, 1) := by decide +kernel
theorem dL_law_457 : decode cL_law 457 = .ok (.iload_n 3, 1) := by decide +kernel
theorem dL_law_458 : decode cL_law 458 = .ok (.iconst 1, 1) := by decide +kernel
theorem dL_law_459 : decode cL_law 459 = .ok (.iadd, 1) := by decide +kernel
theorem dL_law_460 : decode cL_law 460 = .ok (.iaload, 1) := by decide +kernel
theorem dL_law_461 : decode cL_law 461 = .ok (.invokevirtual 44, 3) := by decide +kernel
theorem dL_law_464 : decode cL_law 464 = .ok (.if_icmp .eq 1001, 3) := by decide +kernel
theorem dL_law_467 : decode cL_law 467 = .ok (.iconst 0, 1) := by decide +kernel
theorem dL_law_468 : decode cL_law 468 = .ok (.ireturn, 1) := by decide +kernel
theorem dL_law_469 : decode cL_law 469 = .ok (.aload_n 1, 1) := by decide +kernel
theorem dL_law_470 : decode cL_law 470 = .ok (.aload_n 0, 1) := by decide +kernel
theorem dL_law_471 : decode cL_law 471 = .ok (.iload_n 3, 1) := by decide +kernel
theorem dL_law_472 : decode cL_law 472 = .ok (.iconst 1, 1) := by decide +kernel
theorem dL_law_473 : decode cL_law 473 = .ok (.iadd, 1) := by decide +kernel
theorem dL_law_474 : decode cL_law 474 = .ok (.iaload, 1) := by decide +kernel
theorem dL_law_475 : decode cL_law 475 = .ok (.aload_n 0, 1) := by decide +kernel
theorem dL_law_476 : decode cL_law 476 = .ok (.iload_n 3, 1) := by decide +kernel
theorem dL_law_477 : decode cL_law 477 = .ok (.iconst 2, 1) := by decide +kernel
theorem dL_law_478 : decode cL_law 478 = .ok (.iadd, 1) := by decide +kernel
theorem dL_law_479 : decode cL_law 479 = .ok (.iaload, 1) := by decide +kernel
theorem dL_law_480 : decode cL_law 480 = .ok (.invokevirtual 45, 3) := by decide +kernel
theorem dL_law_483 : decode cL_law 483 = .ok (.aload_n 2, 1) := by decide +kernel
theorem dL_law_484 : decode cL_law 484 = .ok (.aload_n 0, 1) := by decide +kernel
theorem dL_law_485 : decode cL_law 485 = .ok (.iload_n 3, 1) := by decide +kernel
theorem dL_law_486 : decode cL_law 486 = .ok (.iconst 1, 1) := by decide +kernel
theorem dL_law_487 : decode cL_law 487 = .ok (.iadd, 1) := by decide +kernel
theorem dL_law_488 : decode cL_law 488 = .ok (.iaload, 1) := by decide +kernel
theorem dL_law_489 : decode cL_law 489 = .ok (.aload_n 0, 1) := by decide +kernel
theorem dL_law_490 : decode cL_law 490 = .ok (.iload_n 3, 1) := by decide +kernel
theorem dL_law_491 : decode cL_law 491 = .ok (.iconst 2, 1) := by decide +kernel
theorem dL_law_492 : decode cL_law 492 = .ok (.iadd, 1) := by decide +kernel
theorem dL_law_493 : decode cL_law 493 = .ok (.iaload, 1) := by decide +kernel
theorem dL_law_494 : decode cL_law 494 = .ok (.invokevirtual 48, 3) := by decide +kernel
theorem dL_law_497 : decode cL_law 497 = .ok (.if_icmp .eq 968, 3) := by decide +kernel
theorem dL_law_500 : decode cL_law 500 = .ok (.iconst 0, 1) := by decide +kernel
theorem dL_law_501 : decode cL_law 501 = .ok (.ireturn, 1) := by decide +kernel
theorem dL_law_502 : decode cL_law 502 = .ok (.aload_n 1, 1) := by decide +kernel
theorem dL_law_503 : decode cL_law 503 = .ok (.aload_n 0, 1) := by decide +kernel
theorem dL_law_504 : decode cL_law 504 = .ok (.iload_n 3, 1) := by decide +kernel
theorem dL_law_505 : decode cL_law 505 = .ok (.iconst 1, 1) := by decide +kernel
theorem dL_law_506 : decode cL_law 506 = .ok (.iadd, 1) := by decide +kernel
theorem dL_law_507 : decode cL_law 507 = .ok (.iaload, 1) := by decide +kernel
theorem dL_law_508 : decode cL_law 508 = .ok (.invokevirtual 49, 3) := by decide +kernel
theorem dL_law_511 : decode cL_law 511 = .ok (.aload_n 2, 1) := by decide +kernel
theorem dL_law_512 : decode cL_law 512 = .ok (.aload_n 0, 1) := by decide +kernel
theorem dL_law_513 : decode cL_law 513 = .ok (.iload_n 3, 1) := by decide +kernel
theorem dL_law_514 : decode cL_law 514 = .ok (.iconst 1, 1) := by decide +kernel
theorem dL_law_515 : decode cL_law 515 = .ok (.iadd, 1) := by decide +kernel
theorem dL_law_516 : decode cL_law 516 = .ok (.iaload, 1) := by decide +kernel
theorem dL_law_517 : decode cL_law 517 = .ok (.invokevirtual 52, 3) := by decide +kernel
theorem dL_law_520 : decode cL_law 520 = .ok (.if_icmp .eq 945, 3) := by decide +kernel
theorem dL_law_523 : decode cL_law 523 = .ok (.iconst 0, 1) := by decide +kernel
theorem dL_law_524 : decode cL_law 524 = .ok (.ireturn, 1) := by decide +kernel
theorem dL_law_525 : decode cL_law 525 = .ok (.aload_n 1, 1) := by decide +kernel
theorem dL_law_526 : decode cL_law 526 = .ok (.invokevirtual 53, 3) := by decide +kernel
theorem dL_law_529 : decode cL_law 529 = .ok (.aload_n 2, 1) := by decide +kernel
theorem dL_law_530 : decode cL_law 530 = .ok (.invokevirtual 57, 3) := by decide +kernel
theorem dL_law_533 : decode cL_law 533 = .ok (.if_icmp .eq 932, 3) := by decide +kernel
theorem dL_law_536 : decode cL_law 536 = .ok (.iconst 0, 1) := by decide +kernel
theorem dL_law_537 : decode cL_law 537 = .ok (.ireturn, 1) := by decide +kernel
theorem dL_law_538 : decode cL_law 538 = .ok (.aload_n 1, 1) := by decide +kernel
theorem dL_law_539 : decode cL_law 539 = .ok (.aload_n 0, 1) := by decide +kernel
theorem dL_law_540 : decode cL_law 540 = .ok (.iload_n 3, 1) := by decide +kernel
theorem dL_law_541 : decode cL_law 541 = .ok (.iconst 1, 1) := by decide +kernel
theorem dL_law_542 : decode cL_law 542 = .ok (.iadd, 1) := by decide +kernel
theorem dL_law_543 : decode cL_law 543 = .ok (.iaload, 1) := by decide +kernel
theorem dL_law_544 : decode cL_law 544 = .ok (.invokevirtual 58, 3) := by decide +kernel
theorem dL_law_547 : decode cL_law 547 = .ok (.aload_n 2, 1) := by decide +kernel
theorem dL_law_548 : decode cL_law 548 = .ok (.aload_n 0, 1) := by decide +kernel
theorem dL_law_549 : decode cL_law 549 = .ok (.iload_n 3, 1) := by decide +kernel
theorem dL_law_550 : decode cL_law 550 = .ok (.iconst 1, 1) := by decide +kernel
theorem dL_law_551 : decode cL_law 551 = .ok (.iadd, 1) := by decide +kernel
theorem dL_law_552 : decode cL_law 552 = .ok (.iaload, 1) := by decide +kernel
theorem dL_law_553 : decode cL_law 553 = .ok (.invokevirtual 61, 3) := by decide +kernel
theorem dL_law_556 : decode cL_law 556 = .ok (.if_icmp .eq 909, 3) := by decide +kernel
theorem dL_law_559 : decode cL_law 559 = .ok (.iconst 0, 1) := by decide +kernel
theorem dL_law_560 : decode cL_law 560 = .ok (.ireturn, 1) := by decide +kernel
theorem dL_law_561 : decode cL_law 561 = .ok (.aload_n 1, 1) := by decide +kernel
theorem dL_law_562 : decode cL_law 562 = .ok (.aload_n 0, 1) := by decide +kernel
theorem dL_law_563 : decode cL_law 563 = .ok (.iload_n 3, 1) := by decide +kernel
theorem dL_law_564 : decode cL_law 564 = .ok (.iconst 1, 1) := by decide +kernel
theorem dL_law_565 : decode cL_law 565 = .ok (.iadd, 1) := by decide +kernel
theorem dL_law_566 : decode cL_law 566 = .ok (.iaload, 1) := by decide +kernel
theorem dL_law_567 : decode cL_law 567 = .ok (.aload_n 0, 1) := by decide +kernel
theorem dL_law_568 : decode cL_law 568 = .ok (.iload_n 3, 1) := by decide +kernel
theorem dL_law_569 : decode cL_law 569 = .ok (.iconst 2, 1) := by decide +kernel
theorem dL_law_570 : decode cL_law 570 = .ok (.iadd, 1) := by decide +kernel
theorem dL_law_571 : decode cL_law 571 = .ok (.iaload, 1) := by decide +kernel
theorem dL_law_572 : decode cL_law 572 = .ok (.aload_n 0, 1) := by decide +kernel
theorem dL_law_573 : decode cL_law 573 = .ok (.iload_n 3, 1) := by decide +kernel
theorem dL_law_574 : decode cL_law 574 = .ok (.iconst 3, 1) := by decide +kernel
theorem dL_law_575 : decode cL_law 575 = .ok (.iadd, 1) := by decide +kernel
theorem dL_law_576 : decode cL_law 576 = .ok (.iaload, 1) := by decide +kernel
theorem dL_law_577 : decode cL_law 577 = .ok (.invokevirtual 62, 3) := by decide +kernel
theorem dL_law_580 : decode cL_law 580 = .ok (.aload_n 2, 1) := by decide +kernel
theorem dL_law_581 : decode cL_law 581 = .ok (.aload_n 0, 1) := by decide +kernel
theorem dL_law_582 : decode cL_law 582 = .ok (.iload_n 3, 1) := by decide +kernel
theorem dL_law_583 : decode cL_law 583 = .ok (.iconst 1, 1) := by decide +kernel
theorem dL_law_584 : decode cL_law 584 = .ok (.iadd, 1) := by decide +kernel
theorem dL_law_585 : decode cL_law 585 = .ok (.iaload, 1) := by decide +kernel
theorem dL_law_586 : decode cL_law 586 = .ok (.aload_n 0, 1) := by decide +kernel
theorem dL_law_587 : decode cL_law 587 = .ok (.iload_n 3, 1) := by decide +kernel
theorem dL_law_588 : decode cL_law 588 = .ok (.iconst 2, 1) := by decide +kernel
theorem dL_law_589 : decode cL_law 589 = .ok (.iadd, 1) := by decide +kernel
theorem dL_law_590 : decode cL_law 590 = .ok (.iaload, 1) := by decide +kernel
theorem dL_law_591 : decode cL_law 591 = .ok (.aload_n 0, 1) := by decide +kernel
theorem dL_law_592 : decode cL_law 592 = .ok (.iload_n 3, 1) := by decide +kernel
theorem dL_law_593 : decode cL_law 593 = .ok (.iconst 3, 1) := by decide +kernel
theorem dL_law_594 : decode cL_law 594 = .ok (.iadd, 1) := by decide +kernel
theorem dL_law_595 : decode cL_law 595 = .ok (.iaload, 1) := by decide +kernel
theorem dL_law_596 : decode cL_law 596 = .ok (.invokevirtual 65, 3) := by decide +kernel
theorem dL_law_599 : decode cL_law 599 = .ok (.if_icmp .eq 866, 3) := by decide +kernel
theorem dL_law_602 : decode cL_law 602 = .ok (.iconst 0, 1) := by decide +kernel
theorem dL_law_603 : decode cL_law 603 = .ok (.ireturn, 1) := by decide +kernel
theorem dL_law_604 : decode cL_law 604 = .ok (.aload_n 1, 1) := by decide +kernel
theorem dL_law_605 : decode cL_law 605 = .ok (.aload_n 0, 1) := by decide +kernel
theorem dL_law_606 : decode cL_law 606 = .ok (.iload_n 3, 1) := by decide +kernel
theorem dL_law_607 : decode cL_law 607 = .ok (.iconst 1, 1) := by decide +kernel
theorem dL_law_608 : decode cL_law 608 = .ok (.iadd, 1) := by decide +kernel
theorem dL_law_609 : decode cL_law 609 = .ok (.iaload, 1) := by decide +kernel
theorem dL_law_610 : decode cL_law 610 = .ok (.aload_n 0, 1) := by decide +kernel
theorem dL_law_611 : decode cL_law 611 = .ok (.iload_n 3, 1) := by decide +kernel
theorem dL_law_612 : decode cL_law 612 = .ok (.iconst 2, 1) := by decide +kernel
theorem dL_law_613 : decode cL_law 613 = .ok (.iadd, 1) := by decide +kernel
theorem dL_law_614 : decode cL_law 614 = .ok (.iaload, 1) := by decide +kernel
theorem dL_law_615 : decode cL_law 615 = .ok (.invokevirtual 66, 3) := by decide +kernel
theorem dL_law_618 : decode cL_law 618 = .ok (.aload_n 2, 1) := by decide +kernel
theorem dL_law_619 : decode cL_law 619 = .ok (.aload_n 0, 1) := by decide +kernel
theorem dL_law_620 : decode cL_law 620 = .ok (.iload_n 3, 1) := by decide +kernel
theorem dL_law_621 : decode cL_law 621 = .ok (.iconst 1, 1) := by decide +kernel
theorem dL_law_622 : decode cL_law 622 = .ok (.iadd, 1) := by decide +kernel
theorem dL_law_623 : decode cL_law 623 = .ok (.iaload, 1) := by decide +kernel
theorem dL_law_624 : decode cL_law 624 = .ok (.aload_n 0, 1) := by decide +kernel
theorem dL_law_625 : decode cL_law 625 = .ok (.iload_n 3, 1) := by decide +kernel
theorem dL_law_626 : decode cL_law 626 = .ok (.iconst 2, 1) := by decide +kernel
theorem dL_law_627 : decode cL_law 627 = .ok (.iadd, 1) := by decide +kernel
theorem dL_law_628 : decode cL_law 628 = .ok (.iaload, 1) := by decide +kernel
theorem dL_law_629 : decode cL_law 629 = .ok (.invokevirtual 69, 3) := by decide +kernel
theorem dL_law_632 : decode cL_law 632 = .ok (.if_icmp .eq 833, 3) := by decide +kernel
theorem dL_law_635 : decode cL_law 635 = .ok (.iconst 0, 1) := by decide +kernel
theorem dL_law_636 : decode cL_law 636 = .ok (.ireturn, 1) := by decide +kernel
theorem dL_law_637 : decode cL_law 637 = .ok (.aload_n 1, 1) := by decide +kernel
theorem dL_law_638 : decode cL_law 638 = .ok (.aload_n 0, 1) := by decide +kernel
theorem dL_law_639 : decode cL_law 639 = .ok (.iload_n 3, 1) := by decide +kernel
theorem dL_law_640 : decode cL_law 640 = .ok (.iconst 1, 1) := by decide +kernel
theorem dL_law_641 : decode cL_law 641 = .ok (.iadd, 1) := by decide +kernel
theorem dL_law_642 : decode cL_law 642 = .ok (.iaload, 1) := by decide +kernel
theorem dL_law_643 : decode cL_law 643 = .ok (.aload_n 0, 1) := by decide +kernel
theorem dL_law_644 : decode cL_law 644 = .ok (.iload_n 3, 1) := by decide +kernel
theorem dL_law_645 : decode cL_law 645 = .ok (.iconst 2, 1) := by decide +kernel
theorem dL_law_646 : decode cL_law 646 = .ok (.iadd, 1) := by decide +kernel
theorem dL_law_647 : decode cL_law 647 = .ok (.iaload, 1) := by decide +kernel
theorem dL_law_648 : decode cL_law 648 = .ok (.aload_n 0, 1) := by decide +kernel
theorem dL_law_649 : decode cL_law 649 = .ok (.iload_n 3, 1) := by decide +kernel
theorem dL_law_650 : decode cL_law 650 = .ok (.iconst 3, 1) := by decide +kernel
theorem dL_law_651 : decode cL_law 651 = .ok (.iadd, 1) := by decide +kernel
theorem dL_law_652 : decode cL_law 652 = .ok (.iaload, 1) := by decide +kernel
theorem dL_law_653 : decode cL_law 653 = .ok (.invokevirtual 70, 3) := by decide +kernel
theorem dL_law_656 : decode cL_law 656 = .ok (.aload_n 2, 1) := by decide +kernel
theorem dL_law_657 : decode cL_law 657 = .ok (.aload_n 0, 1) := by decide +kernel
theorem dL_law_658 : decode cL_law 658 = .ok (.iload_n 3, 1) := by decide +kernel
theorem dL_law_659 : decode cL_law 659 = .ok (.iconst 1, 1) := by decide +kernel
theorem dL_law_660 : decode cL_law 660 = .ok (.iadd, 1) := by decide +kernel
theorem dL_law_661 : decode cL_law 661 = .ok (.iaload, 1) := by decide +kernel
theorem dL_law_662 : decode cL_law 662 = .ok (.aload_n 0, 1) := by decide +kernel
theorem dL_law_663 : decode cL_law 663 = .ok (.iload_n 3, 1) := by decide +kernel
theorem dL_law_664 : decode cL_law 664 = .ok (.iconst 2, 1) := by decide +kernel
theorem dL_law_665 : decode cL_law 665 = .ok (.iadd, 1) := by decide +kernel
theorem dL_law_666 : decode cL_law 666 = .ok (.iaload, 1) := by decide +kernel
theorem dL_law_667 : decode cL_law 667 = .ok (.aload_n 0, 1) := by decide +kernel
theorem dL_law_668 : decode cL_law 668 = .ok (.iload_n 3, 1) := by decide +kernel
theorem dL_law_669 : decode cL_law 669 = .ok (.iconst 3, 1) := by decide +kernel
theorem dL_law_670 : decode cL_law 670 = .ok (.iadd, 1) := by decide +kernel
theorem dL_law_671 : decode cL_law 671 = .ok (.iaload, 1) := by decide +kernel
theorem dL_law_672 : decode cL_law 672 = .ok (.invokevirtual 73, 3) := by decide +kernel
theorem dL_law_675 : decode cL_law 675 = .ok (.if_icmp .eq 790, 3) := by decide +kernel
theorem dL_law_678 : decode cL_law 678 = .ok (.iconst 0, 1) := by decide +kernel
theorem dL_law_679 : decode cL_law 679 = .ok (.ireturn, 1) := by decide +kernel
theorem dL_law_680 : decode cL_law 680 = .ok (.aload_n 1, 1) := by decide +kernel
theorem dL_law_681 : decode cL_law 681 = .ok (.aload_n 0, 1) := by decide +kernel
theorem dL_law_682 : decode cL_law 682 = .ok (.iload_n 3, 1) := by decide +kernel
theorem dL_law_683 : decode cL_law 683 = .ok (.iconst 1, 1) := by decide +kernel
theorem dL_law_684 : decode cL_law 684 = .ok (.iadd, 1) := by decide +kernel
theorem dL_law_685 : decode cL_law 685 = .ok (.iaload, 1) := by decide +kernel
theorem dL_law_686 : decode cL_law 686 = .ok (.aload_n 0, 1) := by decide +kernel
theorem dL_law_687 : decode cL_law 687 = .ok (.iload_n 3, 1) := by decide +kernel
theorem dL_law_688 : decode cL_law 688 = .ok (.iconst 2, 1) := by decide +kernel
theorem dL_law_689 : decode cL_law 689 = .ok (.iadd, 1) := by decide +kernel
theorem dL_law_690 : decode cL_law 690 = .ok (.iaload, 1) := by decide +kernel
theorem dL_law_691 : decode cL_law 691 = .ok (.aload_n 0, 1) := by decide +kernel
theorem dL_law_692 : decode cL_law 692 = .ok (.iload_n 3, 1) := by decide +kernel
theorem dL_law_693 : decode cL_law 693 = .ok (.iconst 3, 1) := by decide +kernel
theorem dL_law_694 : decode cL_law 694 = .ok (.iadd, 1) := by decide +kernel
theorem dL_law_695 : decode cL_law 695 = .ok (.iaload, 1) := by decide +kernel
theorem dL_law_696 : decode cL_law 696 = .ok (.invokevirtual 74, 3) := by decide +kernel
theorem dL_law_699 : decode cL_law 699 = .ok (.aload_n 2, 1) := by decide +kernel
theorem dL_law_700 : decode cL_law 700 = .ok (.aload_n 0, 1) := by decide +kernel
theorem dL_law_701 : decode cL_law 701 = .ok (.iload_n 3, 1) := by decide +kernel
theorem dL_law_702 : decode cL_law 702 = .ok (.iconst 1, 1) := by decide +kernel
theorem dL_law_703 : decode cL_law 703 = .ok (.iadd, 1) := by decide +kernel
theorem dL_law_704 : decode cL_law 704 = .ok (.iaload, 1) := by decide +kernel
theorem dL_law_705 : decode cL_law 705 = .ok (.aload_n 0, 1) := by decide +kernel
theorem dL_law_706 : decode cL_law 706 = .ok (.iload_n 3, 1) := by decide +kernel
theorem dL_law_707 : decode cL_law 707 = .ok (.iconst 2, 1) := by decide +kernel
theorem dL_law_708 : decode cL_law 708 = .ok (.iadd, 1) := by decide +kernel
theorem dL_law_709 : decode cL_law 709 = .ok (.iaload, 1) := by decide +kernel
theorem dL_law_710 : decode cL_law 710 = .ok (.aload_n 0, 1) := by decide +kernel
theorem dL_law_711 : decode cL_law 711 = .ok (.iload_n 3, 1) := by decide +kernel
theorem dL_law_712 : decode cL_law 712 = .ok (.iconst 3, 1) := by decide +kernel
theorem dL_law_713 : decode cL_law 713 = .ok (.iadd, 1) := by decide +kernel
theorem dL_law_714 : decode cL_law 714 = .ok (.iaload, 1) := by decide +kernel
theorem dL_law_715 : decode cL_law 715 = .ok (.invokevirtual 77, 3) := by decide +kernel
theorem dL_law_718 : decode cL_law 718 = .ok (.if_icmp .eq 747, 3) := by decide +kernel
theorem dL_law_721 : decode cL_law 721 = .ok (.iconst 0, 1) := by decide +kernel
theorem dL_law_722 : decode cL_law 722 = .ok (.ireturn, 1) := by decide +kernel
theorem dL_law_723 : decode cL_law 723 = .ok (.aload_n 1, 1) := by decide +kernel
theorem dL_law_724 : decode cL_law 724 = .ok (.aload_n 0, 1) := by decide +kernel
theorem dL_law_725 : decode cL_law 725 = .ok (.iload_n 3, 1) := by decide +kernel
theorem dL_law_726 : decode cL_law 726 = .ok (.iconst 1, 1) := by decide +kernel
theorem dL_law_727 : decode cL_law 727 = .ok (.iadd, 1) := by decide +kernel
theorem dL_law_728 : decode cL_law 728 = .ok (.iaload, 1) := by decide +kernel
theorem dL_law_729 : decode cL_law 729 = .ok (.aload_n 0, 1) := by decide +kernel
theorem dL_law_730 : decode cL_law 730 = .ok (.iload_n 3, 1) := by decide +kernel
theorem dL_law_731 : decode cL_law 731 = .ok (.iconst 2, 1) := by decide +kernel
theorem dL_law_732 : decode cL_law 732 = .ok (.iadd, 1) := by decide +kernel
theorem dL_law_733 : decode cL_law 733 = .ok (.iaload, 1) := by decide +kernel
theorem dL_law_734 : decode cL_law 734 = .ok (.invokevirtual 78, 3) := by decide +kernel
theorem dL_law_737 : decode cL_law 737 = .ok (.aload_n 2, 1) := by decide +kernel
theorem dL_law_738 : decode cL_law 738 = .ok (.aload_n 0, 1) := by decide +kernel
theorem dL_law_739 : decode cL_law 739 = .ok (.iload_n 3, 1) := by decide +kernel
theorem dL_law_740 : decode cL_law 740 = .ok (.iconst 1, 1) := by decide +kernel
theorem dL_law_741 : decode cL_law 741 = .ok (.iadd, 1) := by decide +kernel
theorem dL_law_742 : decode cL_law 742 = .ok (.iaload, 1) := by decide +kernel
theorem dL_law_743 : decode cL_law 743 = .ok (.aload_n 0, 1) := by decide +kernel
theorem dL_law_744 : decode cL_law 744 = .ok (.iload_n 3, 1) := by decide +kernel
theorem dL_law_745 : decode cL_law 745 = .ok (.iconst 2, 1) := by decide +kernel
theorem dL_law_746 : decode cL_law 746 = .ok (.iadd, 1) := by decide +kernel
theorem dL_law_747 : decode cL_law 747 = .ok (.iaload, 1) := by decide +kernel
theorem dL_law_748 : decode cL_law 748 = .ok (.invokevirtual 81, 3) := by decide +kernel
theorem dL_law_751 : decode cL_law 751 = .ok (.if_icmp .eq 714, 3) := by decide +kernel
theorem dL_law_754 : decode cL_law 754 = .ok (.iconst 0, 1) := by decide +kernel
theorem dL_law_755 : decode cL_law 755 = .ok (.ireturn, 1) := by decide +kernel
theorem dL_law_756 : decode cL_law 756 = .ok (.aload_n 1, 1) := by decide +kernel
theorem dL_law_757 : decode cL_law 757 = .ok (.aload_n 0, 1) := by decide +kernel
theorem dL_law_758 : decode cL_law 758 = .ok (.iload_n 3, 1) := by decide +kernel
theorem dL_law_759 : decode cL_law 759 = .ok (.iconst 1, 1) := by decide +kernel
theorem dL_law_760 : decode cL_law 760 = .ok (.iadd, 1) := by decide +kernel
theorem dL_law_761 : decode cL_law 761 = .ok (.iaload, 1) := by decide +kernel
theorem dL_law_762 : decode cL_law 762 = .ok (.invokevirtual 82, 3) := by decide +kernel
theorem dL_law_765 : decode cL_law 765 = .ok (.aload_n 2, 1) := by decide +kernel
theorem dL_law_766 : decode cL_law 766 = .ok (.aload_n 0, 1) := by decide +kernel
theorem dL_law_767 : decode cL_law 767 = .ok (.iload_n 3, 1) := by decide +kernel
theorem dL_law_768 : decode cL_law 768 = .ok (.iconst 1, 1) := by decide +kernel
theorem dL_law_769 : decode cL_law 769 = .ok (.iadd, 1) := by decide +kernel
theorem dL_law_770 : decode cL_law 770 = .ok (.iaload, 1) := by decide +kernel
theorem dL_law_771 : decode cL_law 771 = .ok (.invokevirtual 85, 3) := by decide +kernel
theorem dL_law_774 : decode cL_law 774 = .ok (.if_icmp .eq 691, 3) := by decide +kernel
theorem dL_law_777 : decode cL_law 777 = .ok (.iconst 0, 1) := by decide +kernel
theorem dL_law_778 : decode cL_law 778 = .ok (.ireturn, 1) := by decide +kernel
theorem dL_law_779 : decode cL_law 779 = .ok (.aload_n 1, 1) := by decide +kernel
theorem dL_law_780 : decode cL_law 780 = .ok (.aload_n 0, 1) := by decide +kernel
theorem dL_law_781 : decode cL_law 781 = .ok (.iload_n 3, 1) := by decide +kernel
theorem dL_law_782 : decode cL_law 782 = .ok (.iconst 1, 1) := by decide +kernel
theorem dL_law_783 : decode cL_law 783 = .ok (.iadd, 1) := by decide +kernel
theorem dL_law_784 : decode cL_law 784 = .ok (.iaload, 1) := by decide +kernel
theorem dL_law_785 : decode cL_law 785 = .ok (.aload_n 0, 1) := by decide +kernel
theorem dL_law_786 : decode cL_law 786 = .ok (.iload_n 3, 1) := by decide +kernel
theorem dL_law_787 : decode cL_law 787 = .ok (.iconst 2, 1) := by decide +kernel
theorem dL_law_788 : decode cL_law 788 = .ok (.iadd, 1) := by decide +kernel
theorem dL_law_789 : decode cL_law 789 = .ok (.iaload, 1) := by decide +kernel
theorem dL_law_790 : decode cL_law 790 = .ok (.invokevirtual 86, 3) := by decide +kernel
theorem dL_law_793 : decode cL_law 793 = .ok (.aload_n 2, 1) := by decide +kernel
theorem dL_law_794 : decode cL_law 794 = .ok (.aload_n 0, 1) := by decide +kernel
theorem dL_law_795 : decode cL_law 795 = .ok (.iload_n 3, 1) := by decide +kernel
theorem dL_law_796 : decode cL_law 796 = .ok (.iconst 1, 1) := by decide +kernel
theorem dL_law_797 : decode cL_law 797 = .ok (.iadd, 1) := by decide +kernel
theorem dL_law_798 : decode cL_law 798 = .ok (.iaload, 1) := by decide +kernel
theorem dL_law_799 : decode cL_law 799 = .ok (.aload_n 0, 1) := by decide +kernel
theorem dL_law_800 : decode cL_law 800 = .ok (.iload_n 3, 1) := by decide +kernel
theorem dL_law_801 : decode cL_law 801 = .ok (.iconst 2, 1) := by decide +kernel
theorem dL_law_802 : decode cL_law 802 = .ok (.iadd, 1) := by decide +kernel
theorem dL_law_803 : decode cL_law 803 = .ok (.iaload, 1) := by decide +kernel
theorem dL_law_804 : decode cL_law 804 = .ok (.invokevirtual 89, 3) := by decide +kernel
theorem dL_law_807 : decode cL_law 807 = .ok (.if_icmp .eq 658, 3) := by decide +kernel
theorem dL_law_810 : decode cL_law 810 = .ok (.iconst 0, 1) := by decide +kernel
theorem dL_law_811 : decode cL_law 811 = .ok (.ireturn, 1) := by decide +kernel
theorem dL_law_812 : decode cL_law 812 = .ok (.aload_n 1, 1) := by decide +kernel
theorem dL_law_813 : decode cL_law 813 = .ok (.aload_n 0, 1) := by decide +kernel
theorem dL_law_814 : decode cL_law 814 = .ok (.iload_n 3, 1) := by decide +kernel
theorem dL_law_815 : decode cL_law 815 = .ok (.iconst 1, 1) := by decide +kernel
theorem dL_law_816 : decode cL_law 816 = .ok (.iadd, 1) := by decide +kernel
theorem dL_law_817 : decode cL_law 817 = .ok (.iaload, 1) := by decide +kernel
theorem dL_law_818 : decode cL_law 818 = .ok (.aload_n 0, 1) := by decide +kernel
theorem dL_law_819 : decode cL_law 819 = .ok (.iload_n 3, 1) := by decide +kernel
theorem dL_law_820 : decode cL_law 820 = .ok (.iconst 2, 1) := by decide +kernel
theorem dL_law_821 : decode cL_law 821 = .ok (.iadd, 1) := by decide +kernel
theorem dL_law_822 : decode cL_law 822 = .ok (.iaload, 1) := by decide +kernel
theorem dL_law_823 : decode cL_law 823 = .ok (.invokevirtual 90, 3) := by decide +kernel
theorem dL_law_826 : decode cL_law 826 = .ok (.aload_n 2, 1) := by decide +kernel
theorem dL_law_827 : decode cL_law 827 = .ok (.aload_n 0, 1) := by decide +kernel
theorem dL_law_828 : decode cL_law 828 = .ok (.iload_n 3, 1) := by decide +kernel
theorem dL_law_829 : decode cL_law 829 = .ok (.iconst 1, 1) := by decide +kernel
theorem dL_law_830 : decode cL_law 830 = .ok (.iadd, 1) := by decide +kernel
theorem dL_law_831 : decode cL_law 831 = .ok (.iaload, 1) := by decide +kernel
theorem dL_law_832 : decode cL_law 832 = .ok (.aload_n 0, 1) := by decide +kernel
theorem dL_law_833 : decode cL_law 833 = .ok (.iload_n 3, 1) := by decide +kernel
theorem dL_law_834 : decode cL_law 834 = .ok (.iconst 2, 1) := by decide +kernel
theorem dL_law_835 : decode cL_law 835 = .ok (.iadd, 1) := by decide +kernel
theorem dL_law_836 : decode cL_law 836 = .ok (.iaload, 1) := by decide +kernel
theorem dL_law_837 : decode cL_law 837 = .ok (.invokevirtual 93, 3) := by decide +kernel
theorem dL_law_840 : decode cL_law 840 = .ok (.if_icmp .eq 625, 3) := by decide +kernel
theorem dL_law_843 : decode cL_law 843 = .ok (.iconst 0, 1) := by decide +kernel
theorem dL_law_844 : decode cL_law 844 = .ok (.ireturn, 1) := by decide +kernel
theorem dL_law_845 : decode cL_law 845 = .ok (.aload_n 1, 1) := by decide +kernel
theorem dL_law_846 : decode cL_law 846 = .ok (.aload_n 0, 1) := by decide +kernel
theorem dL_law_847 : decode cL_law 847 = .ok (.iload_n 3, 1) := by decide +kernel
theorem dL_law_848 : decode cL_law 848 = .ok (.iconst 1, 1) := by decide +kernel
theorem dL_law_849 : decode cL_law 849 = .ok (.iadd, 1) := by decide +kernel
theorem dL_law_850 : decode cL_law 850 = .ok (.iaload, 1) := by decide +kernel
theorem dL_law_851 : decode cL_law 851 = .ok (.aload_n 0, 1) := by decide +kernel
theorem dL_law_852 : decode cL_law 852 = .ok (.iload_n 3, 1) := by decide +kernel
theorem dL_law_853 : decode cL_law 853 = .ok (.iconst 2, 1) := by decide +kernel
theorem dL_law_854 : decode cL_law 854 = .ok (.iadd, 1) := by decide +kernel
theorem dL_law_855 : decode cL_law 855 = .ok (.iaload, 1) := by decide +kernel
theorem dL_law_856 : decode cL_law 856 = .ok (.invokevirtual 94, 3) := by decide +kernel
theorem dL_law_859 : decode cL_law 859 = .ok (.aload_n 2, 1) := by decide +kernel
theorem dL_law_860 : decode cL_law 860 = .ok (.aload_n 0, 1) := by decide +kernel
theorem dL_law_861 : decode cL_law 861 = .ok (.iload_n 3, 1) := by decide +kernel
theorem dL_law_862 : decode cL_law 862 = .ok (.iconst 1, 1) := by decide +kernel
theorem dL_law_863 : decode cL_law 863 = .ok (.iadd, 1) := by decide +kernel
theorem dL_law_864 : decode cL_law 864 = .ok (.iaload, 1) := by decide +kernel
theorem dL_law_865 : decode cL_law 865 = .ok (.aload_n 0, 1) := by decide +kernel
theorem dL_law_866 : decode cL_law 866 = .ok (.iload_n 3, 1) := by decide +kernel
theorem dL_law_867 : decode cL_law 867 = .ok (.iconst 2, 1) := by decide +kernel
theorem dL_law_868 : decode cL_law 868 = .ok (.iadd, 1) := by decide +kernel
theorem dL_law_869 : decode cL_law 869 = .ok (.iaload, 1) := by decide +kernel
theorem dL_law_870 : decode cL_law 870 = .ok (.invokevirtual 97, 3) := by decide +kernel
theorem dL_law_873 : decode cL_law 873 = .ok (.if_icmp .eq 592, 3) := by decide +kernel
theorem dL_law_876 : decode cL_law 876 = .ok (.iconst 0, 1) := by decide +kernel
theorem dL_law_877 : decode cL_law 877 = .ok (.ireturn, 1) := by decide +kernel
theorem dL_law_878 : decode cL_law 878 = .ok (.aload_n 1, 1) := by decide +kernel
theorem dL_law_879 : decode cL_law 879 = .ok (.aload_n 0, 1) := by decide +kernel
theorem dL_law_880 : decode cL_law 880 = .ok (.iload_n 3, 1) := by decide +kernel
theorem dL_law_881 : decode cL_law 881 = .ok (.iconst 1, 1) := by decide +kernel
theorem dL_law_882 : decode cL_law 882 = .ok (.iadd, 1) := by decide +kernel
theorem dL_law_883 : decode cL_law 883 = .ok (.iaload, 1) := by decide +kernel
theorem dL_law_884 : decode cL_law 884 = .ok (.aload_n 0, 1) := by decide +kernel
theorem dL_law_885 : decode cL_law 885 = .ok (.iload_n 3, 1) := by decide +kernel
theorem dL_law_886 : decode cL_law 886 = .ok (.iconst 2, 1) := by decide +kernel
theorem dL_law_887 : decode cL_law 887 = .ok (.iadd, 1) := by decide +kernel
theorem dL_law_888 : decode cL_law 888 = .ok (.iaload, 1) := by decide +kernel
theorem dL_law_889 : decode cL_law 889 = .ok (.invokevirtual 98, 3) := by decide +kernel
theorem dL_law_892 : decode cL_law 892 = .ok (.aload_n 2, 1) := by decide +kernel
theorem dL_law_893 : decode cL_law 893 = .ok (.aload_n 0, 1) := by decide +kernel
theorem dL_law_894 : decode cL_law 894 = .ok (.iload_n 3, 1) := by decide +kernel
theorem dL_law_895 : decode cL_law 895 = .ok (.iconst 1, 1) := by decide +kernel
theorem dL_law_896 : decode cL_law 896 = .ok (.iadd, 1) := by decide +kernel
theorem dL_law_897 : decode cL_law 897 = .ok (.iaload, 1) := by decide +kernel
theorem dL_law_898 : decode cL_law 898 = .ok (.aload_n 0, 1) := by decide +kernel
theorem dL_law_899 : decode cL_law 899 = .ok (.iload_n 3, 1) := by decide +kernel
theorem dL_law_900 : decode cL_law 900 = .ok (.iconst 2, 1) := by decide +kernel
theorem dL_law_901 : decode cL_law 901 = .ok (.iadd, 1) := by decide +kernel
theorem dL_law_902 : decode cL_law 902 = .ok (.iaload, 1) := by decide +kernel
theorem dL_law_903 : decode cL_law 903 = .ok (.invokevirtual 101, 3) := by decide +kernel
theorem dL_law_906 : decode cL_law 906 = .ok (.if_icmp .eq 559, 3) := by decide +kernel
theorem dL_law_909 : decode cL_law 909 = .ok (.iconst 0, 1) := by decide +kernel
theorem dL_law_910 : decode cL_law 910 = .ok (.ireturn, 1) := by decide +kernel
theorem dL_law_911 : decode cL_law 911 = .ok (.aload_n 1, 1) := by decide +kernel
theorem dL_law_912 : decode cL_law 912 = .ok (.aload_n 0, 1) := by decide +kernel
theorem dL_law_913 : decode cL_law 913 = .ok (.iload_n 3, 1) := by decide +kernel
theorem dL_law_914 : decode cL_law 914 = .ok (.iconst 1, 1) := by decide +kernel
theorem dL_law_915 : decode cL_law 915 = .ok (.iadd, 1) := by decide +kernel
theorem dL_law_916 : decode cL_law 916 = .ok (.iaload, 1) := by decide +kernel
theorem dL_law_917 : decode cL_law 917 = .ok (.aload_n 0, 1) := by decide +kernel
theorem dL_law_918 : decode cL_law 918 = .ok (.iload_n 3, 1) := by decide +kernel
theorem dL_law_919 : decode cL_law 919 = .ok (.iconst 2, 1) := by decide +kernel
theorem dL_law_920 : decode cL_law 920 = .ok (.iadd, 1) := by decide +kernel
theorem dL_law_921 : decode cL_law 921 = .ok (.iaload, 1) := by decide +kernel
theorem dL_law_922 : decode cL_law 922 = .ok (.aload_n 0, 1) := by decide +kernel
theorem dL_law_923 : decode cL_law 923 = .ok (.iload_n 3, 1) := by decide +kernel
theorem dL_law_924 : decode cL_law 924 = .ok (.iconst 3, 1) := by decide +kernel
theorem dL_law_925 : decode cL_law 925 = .ok (.iadd, 1) := by decide +kernel
theorem dL_law_926 : decode cL_law 926 = .ok (.iaload, 1) := by decide +kernel
theorem dL_law_927 : decode cL_law 927 = .ok (.invokevirtual 102, 3) := by decide +kernel
theorem dL_law_930 : decode cL_law 930 = .ok (.aload_n 2, 1) := by decide +kernel
theorem dL_law_931 : decode cL_law 931 = .ok (.aload_n 0, 1) := by decide +kernel
theorem dL_law_932 : decode cL_law 932 = .ok (.iload_n 3, 1) := by decide +kernel
theorem dL_law_933 : decode cL_law 933 = .ok (.iconst 1, 1) := by decide +kernel
theorem dL_law_934 : decode cL_law 934 = .ok (.iadd, 1) := by decide +kernel
theorem dL_law_935 : decode cL_law 935 = .ok (.iaload, 1) := by decide +kernel
theorem dL_law_936 : decode cL_law 936 = .ok (.aload_n 0, 1) := by decide +kernel
theorem dL_law_937 : decode cL_law 937 = .ok (.iload_n 3, 1) := by decide +kernel
theorem dL_law_938 : decode cL_law 938 = .ok (.iconst 2, 1) := by decide +kernel
theorem dL_law_939 : decode cL_law 939 = .ok (.iadd, 1) := by decide +kernel
theorem dL_law_940 : decode cL_law 940 = .ok (.iaload, 1) := by decide +kernel
theorem dL_law_941 : decode cL_law 941 = .ok (.aload_n 0, 1) := by decide +kernel
theorem dL_law_942 : decode cL_law 942 = .ok (.iload_n 3, 1) := by decide +kernel
theorem dL_law_943 : decode cL_law 943 = .ok (.iconst 3, 1) := by decide +kernel
theorem dL_law_944 : decode cL_law 944 = .ok (.iadd, 1) := by decide +kernel
theorem dL_law_945 : decode cL_law 945 = .ok (.iaload, 1) := by decide +kernel
theorem dL_law_946 : decode cL_law 946 = .ok (.invokevirtual 105, 3) := by decide +kernel
theorem dL_law_949 : decode cL_law 949 = .ok (.if_icmp .eq 516, 3) := by decide +kernel
theorem dL_law_952 : decode cL_law 952 = .ok (.iconst 0, 1) := by decide +kernel
theorem dL_law_953 : decode cL_law 953 = .ok (.ireturn, 1) := by decide +kernel
theorem dL_law_954 : decode cL_law 954 = .ok (.aload_n 1, 1) := by decide +kernel
theorem dL_law_955 : decode cL_law 955 = .ok (.aload_n 0, 1) := by decide +kernel
theorem dL_law_956 : decode cL_law 956 = .ok (.iload_n 3, 1) := by decide +kernel
theorem dL_law_957 : decode cL_law 957 = .ok (.iconst 1, 1) := by decide +kernel
theorem dL_law_958 : decode cL_law 958 = .ok (.iadd, 1) := by decide +kernel
theorem dL_law_959 : decode cL_law 959 = .ok (.iaload, 1) := by decide +kernel
theorem dL_law_960 : decode cL_law 960 = .ok (.aload_n 0, 1) := by decide +kernel
theorem dL_law_961 : decode cL_law 961 = .ok (.iload_n 3, 1) := by decide +kernel
theorem dL_law_962 : decode cL_law 962 = .ok (.iconst 2, 1) := by decide +kernel
theorem dL_law_963 : decode cL_law 963 = .ok (.iadd, 1) := by decide +kernel
theorem dL_law_964 : decode cL_law 964 = .ok (.iaload, 1) := by decide +kernel
theorem dL_law_965 : decode cL_law 965 = .ok (.invokevirtual 106, 3) := by decide +kernel
theorem dL_law_968 : decode cL_law 968 = .ok (.aload_n 2, 1) := by decide +kernel
theorem dL_law_969 : decode cL_law 969 = .ok (.aload_n 0, 1) := by decide +kernel
theorem dL_law_970 : decode cL_law 970 = .ok (.iload_n 3, 1) := by decide +kernel
theorem dL_law_971 : decode cL_law 971 = .ok (.iconst 1, 1) := by decide +kernel
theorem dL_law_972 : decode cL_law 972 = .ok (.iadd, 1) := by decide +kernel
theorem dL_law_973 : decode cL_law 973 = .ok (.iaload, 1) := by decide +kernel
theorem dL_law_974 : decode cL_law 974 = .ok (.aload_n 0, 1) := by decide +kernel
theorem dL_law_975 : decode cL_law 975 = .ok (.iload_n 3, 1) := by decide +kernel
theorem dL_law_976 : decode cL_law 976 = .ok (.iconst 2, 1) := by decide +kernel
theorem dL_law_977 : decode cL_law 977 = .ok (.iadd, 1) := by decide +kernel
theorem dL_law_978 : decode cL_law 978 = .ok (.iaload, 1) := by decide +kernel
theorem dL_law_979 : decode cL_law 979 = .ok (.invokevirtual 109, 3) := by decide +kernel
theorem dL_law_982 : decode cL_law 982 = .ok (.if_icmp .eq 483, 3) := by decide +kernel
theorem dL_law_985 : decode cL_law 985 = .ok (.iconst 0, 1) := by decide +kernel
theorem dL_law_986 : decode cL_law 986 = .ok (.ireturn, 1) := by decide +kernel
theorem dL_law_987 : decode cL_law 987 = .ok (.aload_n 1, 1) := by decide +kernel
theorem dL_law_988 : decode cL_law 988 = .ok (.aload_n 0, 1) := by decide +kernel
theorem dL_law_989 : decode cL_law 989 = .ok (.iload_n 3, 1) := by decide +kernel
theorem dL_law_990 : decode cL_law 990 = .ok (.iconst 1, 1) := by decide +kernel
theorem dL_law_991 : decode cL_law 991 = .ok (.iadd, 1) := by decide +kernel
theorem dL_law_992 : decode cL_law 992 = .ok (.iaload, 1) := by decide +kernel
theorem dL_law_993 : decode cL_law 993 = .ok (.aload_n 0, 1) := by decide +kernel
theorem dL_law_994 : decode cL_law 994 = .ok (.iload_n 3, 1) := by decide +kernel
theorem dL_law_995 : decode cL_law 995 = .ok (.iconst 2, 1) := by decide +kernel
theorem dL_law_996 : decode cL_law 996 = .ok (.iadd, 1) := by decide +kernel
theorem dL_law_997 : decode cL_law 997 = .ok (.iaload, 1) := by decide +kernel
theorem dL_law_998 : decode cL_law 998 = .ok (.invokevirtual 110, 3) := by decide +kernel
theorem dL_law_1001 : decode cL_law 1001 = .ok (.aload_n 2, 1) := by decide +kernel
theorem dL_law_1002 : decode cL_law 1002 = .ok (.aload_n 0, 1) := by decide +kernel
theorem dL_law_1003 : decode cL_law 1003 = .ok (.iload_n 3, 1) := by decide +kernel
theorem dL_law_1004 : decode cL_law 1004 = .ok (.iconst 1, 1) := by decide +kernel
theorem dL_law_1005 : decode cL_law 1005 = .ok (.iadd, 1) := by decide +kernel
theorem dL_law_1006 : decode cL_law 1006 = .ok (.iaload, 1) := by decide +kernel
theorem dL_law_1007 : decode cL_law 1007 = .ok (.aload_n 0, 1) := by decide +kernel
theorem dL_law_1008 : decode cL_law 1008 = .ok (.iload_n 3, 1) := by decide +kernel
theorem dL_law_1009 : decode cL_law 1009 = .ok (.iconst 2, 1) := by decide +kernel
theorem dL_law_1010 : decode cL_law 1010 = .ok (.iadd, 1) := by decide +kernel
theorem dL_law_1011 : decode cL_law 1011 = .ok (.iaload, 1) := by decide +kernel
theorem dL_law_1012 : decode cL_law 1012 = .ok (.invokevirtual 113, 3) := by decide +kernel
theorem dL_law_1015 : decode cL_law 1015 = .ok (.if_icmp .eq 450, 3) := by decide +kernel
theorem dL_law_1018 : decode cL_law 1018 = .ok (.iconst 0, 1) := by decide +kernel
theorem dL_law_1019 : decode cL_law 1019 = .ok (.ireturn, 1) := by decide +kernel
theorem dL_law_1020 : decode cL_law 1020 = .ok (.aload_n 1, 1) := by decide +kernel
theorem dL_law_1021 : decode cL_law 1021 = .ok (.aload_n 0, 1) := by decide +kernel
theorem dL_law_1022 : decode cL_law 1022 = .ok (.iload_n 3, 1) := by decide +kernel
theorem dL_law_1023 : decode cL_law 1023 = .ok (.iconst 1, 1) := by decide +kernel
theorem dL_law_1024 : decode cL_law 1024 = .ok (.iadd, 1) := by decide +kernel
theorem dL_law_1025 : decode cL_law 1025 = .ok (.iaload, 1) := by decide +kernel
theorem dL_law_1026 : decode cL_law 1026 = .ok (.aload_n 0, 1) := by decide +kernel
theorem dL_law_1027 : decode cL_law 1027 = .ok (.iload_n 3, 1) := by decide +kernel
theorem dL_law_1028 : decode cL_law 1028 = .ok (.iconst 2, 1) := by decide +kernel
theorem dL_law_1029 : decode cL_law 1029 = .ok (.iadd, 1) := by decide +kernel
theorem dL_law_1030 : decode cL_law 1030 = .ok (.iaload, 1) := by decide +kernel
theorem dL_law_1031 : decode cL_law 1031 = .ok (.invokevirtual 114, 3) := by decide +kernel
theorem dL_law_1034 : decode cL_law 1034 = .ok (.aload_n 2, 1) := by decide +kernel
theorem dL_law_1035 : decode cL_law 1035 = .ok (.aload_n 0, 1) := by decide +kernel
theorem dL_law_1036 : decode cL_law 1036 = .ok (.iload_n 3, 1) := by decide +kernel
theorem dL_law_1037 : decode cL_law 1037 = .ok (.iconst 1, 1) := by decide +kernel
theorem dL_law_1038 : decode cL_law 1038 = .ok (.iadd, 1) := by decide +kernel
theorem dL_law_1039 : decode cL_law 1039 = .ok (.iaload, 1) := by decide +kernel
theorem dL_law_1040 : decode cL_law 1040 = .ok (.aload_n 0, 1) := by decide +kernel
theorem dL_law_1041 : decode cL_law 1041 = .ok (.iload_n 3, 1) := by decide +kernel
theorem dL_law_1042 : decode cL_law 1042 = .ok (.iconst 2, 1) := by decide +kernel
theorem dL_law_1043 : decode cL_law 1043 = .ok (.iadd, 1) := by decide +kernel
theorem dL_law_1044 : decode cL_law 1044 = .ok (.iaload, 1) := by decide +kernel
theorem dL_law_1045 : decode cL_law 1045 = .ok (.invokevirtual 117, 3) := by decide +kernel
theorem dL_law_1048 : decode cL_law 1048 = .ok (.if_icmp .eq 417, 3) := by decide +kernel
theorem dL_law_1051 : decode cL_law 1051 = .ok (.iconst 0, 1) := by decide +kernel
theorem dL_law_1052 : decode cL_law 1052 = .ok (.ireturn, 1) := by decide +kernel
theorem dL_law_1053 : decode cL_law 1053 = .ok (.aload_n 1, 1) := by decide +kernel
theorem dL_law_1054 : decode cL_law 1054 = .ok (.aload_n 0, 1) := by decide +kernel
theorem dL_law_1055 : decode cL_law 1055 = .ok (.iload_n 3, 1) := by decide +kernel
theorem dL_law_1056 : decode cL_law 1056 = .ok (.iconst 1, 1) := by decide +kernel
theorem dL_law_1057 : decode cL_law 1057 = .ok (.iadd, 1) := by decide +kernel
theorem dL_law_1058 : decode cL_law 1058 = .ok (.iaload, 1) := by decide +kernel
theorem dL_law_1059 : decode cL_law 1059 = .ok (.invokevirtual 118, 3) := by decide +kernel
theorem dL_law_1062 : decode cL_law 1062 = .ok (.aload_n 2, 1) := by decide +kernel
theorem dL_law_1063 : decode cL_law 1063 = .ok (.aload_n 0, 1) := by decide +kernel
theorem dL_law_1064 : decode cL_law 1064 = .ok (.iload_n 3, 1) := by decide +kernel
theorem dL_law_1065 : decode cL_law 1065 = .ok (.iconst 1, 1) := by decide +kernel
theorem dL_law_1066 : decode cL_law 1066 = .ok (.iadd, 1) := by decide +kernel
theorem dL_law_1067 : decode cL_law 1067 = .ok (.iaload, 1) := by decide +kernel
theorem dL_law_1068 : decode cL_law 1068 = .ok (.invokevirtual 121, 3) := by decide +kernel
theorem dL_law_1071 : decode cL_law 1071 = .ok (.if_icmp .eq 394, 3) := by decide +kernel
theorem dL_law_1074 : decode cL_law 1074 = .ok (.iconst 0, 1) := by decide +kernel
theorem dL_law_1075 : decode cL_law 1075 = .ok (.ireturn, 1) := by decide +kernel
theorem dL_law_1076 : decode cL_law 1076 = .ok (.aload_n 1, 1) := by decide +kernel
theorem dL_law_1077 : decode cL_law 1077 = .ok (.aload_n 0, 1) := by decide +kernel
theorem dL_law_1078 : decode cL_law 1078 = .ok (.iload_n 3, 1) := by decide +kernel
theorem dL_law_1079 : decode cL_law 1079 = .ok (.iconst 1, 1) := by decide +kernel
theorem dL_law_1080 : decode cL_law 1080 = .ok (.iadd, 1) := by decide +kernel
theorem dL_law_1081 : decode cL_law 1081 = .ok (.iaload, 1) := by decide +kernel
theorem dL_law_1082 : decode cL_law 1082 = .ok (.aload_n 0, 1) := by decide +kernel
theorem dL_law_1083 : decode cL_law 1083 = .ok (.iload_n 3, 1) := by decide +kernel
theorem dL_law_1084 : decode cL_law 1084 = .ok (.iconst 2, 1) := by decide +kernel
theorem dL_law_1085 : decode cL_law 1085 = .ok (.iadd, 1) := by decide +kernel
theorem dL_law_1086 : decode cL_law 1086 = .ok (.iaload, 1) := by decide +kernel
theorem dL_law_1087 : decode cL_law 1087 = .ok (.invokevirtual 122, 3) := by decide +kernel
theorem dL_law_1090 : decode cL_law 1090 = .ok (.aload_n 2, 1) := by decide +kernel
theorem dL_law_1091 : decode cL_law 1091 = .ok (.aload_n 0, 1) := by decide +kernel
theorem dL_law_1092 : decode cL_law 1092 = .ok (.iload_n 3, 1) := by decide +kernel
theorem dL_law_1093 : decode cL_law 1093 = .ok (.iconst 1, 1) := by decide +kernel
theorem dL_law_1094 : decode cL_law 1094 = .ok (.iadd, 1) := by decide +kernel
theorem dL_law_1095 : decode cL_law 1095 = .ok (.iaload, 1) := by decide +kernel
theorem dL_law_1096 : decode cL_law 1096 = .ok (.aload_n 0, 1) := by decide +kernel
theorem dL_law_1097 : decode cL_law 1097 = .ok (.iload_n 3, 1) := by decide +kernel
theorem dL_law_1098 : decode cL_law 1098 = .ok (.iconst 2, 1) := by decide +kernel
theorem dL_law_1099 : decode cL_law 1099 = .ok (.iadd, 1) := by decide +kernel
theorem dL_law_1100 : decode cL_law 1100 = .ok (.iaload, 1) := by decide +kernel
theorem dL_law_1101 : decode cL_law 1101 = .ok (.invokevirtual 125, 3) := by decide +kernel
theorem dL_law_1104 : decode cL_law 1104 = .ok (.if_icmp .eq 361, 3) := by decide +kernel
theorem dL_law_1107 : decode cL_law 1107 = .ok (.iconst 0, 1) := by decide +kernel
theorem dL_law_1108 : decode cL_law 1108 = .ok (.ireturn, 1) := by decide +kernel
theorem dL_law_1109 : decode cL_law 1109 = .ok (.aload_n 1, 1) := by decide +kernel
theorem dL_law_1110 : decode cL_law 1110 = .ok (.aload_n 0, 1) := by decide +kernel
theorem dL_law_1111 : decode cL_law 1111 = .ok (.iload_n 3, 1) := by decide +kernel
theorem dL_law_1112 : decode cL_law 1112 = .ok (.iconst 1, 1) := by decide +kernel
theorem dL_law_1113 : decode cL_law 1113 = .ok (.iadd, 1) := by decide +kernel
theorem dL_law_1114 : decode cL_law 1114 = .ok (.iaload, 1) := by decide +kernel
theorem dL_law_1115 : decode cL_law 1115 = .ok (.invokevirtual 126, 3) := by decide +kernel
theorem dL_law_1118 : decode cL_law 1118 = .ok (.aload_n 2, 1) := by decide +kernel
theorem dL_law_1119 : decode cL_law 1119 = .ok (.aload_n 0, 1) := by decide +kernel
theorem dL_law_1120 : decode cL_law 1120 = .ok (.iload_n 3, 1) := by decide +kernel
theorem dL_law_1121 : decode cL_law 1121 = .ok (.iconst 1, 1) := by decide +kernel
theorem dL_law_1122 : decode cL_law 1122 = .ok (.iadd, 1) := by decide +kernel
theorem dL_law_1123 : decode cL_law 1123 = .ok (.iaload, 1) := by decide +kernel
theorem dL_law_1124 : decode cL_law 1124 = .ok (.invokevirtual 129, 3) := by decide +kernel
theorem dL_law_1127 : decode cL_law 1127 = .ok (.if_icmp .eq 338, 3) := by decide +kernel
theorem dL_law_1130 : decode cL_law 1130 = .ok (.iconst 0, 1) := by decide +kernel
theorem dL_law_1131 : decode cL_law 1131 = .ok (.ireturn, 1) := by decide +kernel
theorem dL_law_1132 : decode cL_law 1132 = .ok (.aload_n 1, 1) := by decide +kernel
theorem dL_law_1133 : decode cL_law 1133 = .ok (.aload_n 0, 1) := by decide +kernel
theorem dL_law_1134 : decode cL_law 1134 = .ok (.iload_n 3, 1) := by decide +kernel
theorem dL_law_1135 : decode cL_law 1135 = .ok (.iconst 1, 1) := by decide +kernel
theorem dL_law_1136 : decode cL_law 1136 = .ok (.iadd, 1) := by decide +kernel
theorem dL_law_1137 : decode cL_law 1137 = .ok (.iaload, 1) := by decide +kernel
theorem dL_law_1138 : decode cL_law 1138 = .ok (.aload_n 0, 1) := by decide +kernel
theorem dL_law_1139 : decode cL_law 1139 = .ok (.iload_n 3, 1) := by decide +kernel
theorem dL_law_1140 : decode cL_law 1140 = .ok (.iconst 2, 1) := by decide +kernel
theorem dL_law_1141 : decode cL_law 1141 = .ok (.iadd, 1) := by decide +kernel
theorem dL_law_1142 : decode cL_law 1142 = .ok (.iaload, 1) := by decide +kernel
theorem dL_law_1143 : decode cL_law 1143 = .ok (.invokevirtual 130, 3) := by decide +kernel
theorem dL_law_1146 : decode cL_law 1146 = .ok (.aload_n 2, 1) := by decide +kernel
theorem dL_law_1147 : decode cL_law 1147 = .ok (.aload_n 0, 1) := by decide +kernel
theorem dL_law_1148 : decode cL_law 1148 = .ok (.iload_n 3, 1) := by decide +kernel
theorem dL_law_1149 : decode cL_law 1149 = .ok (.iconst 1, 1) := by decide +kernel
theorem dL_law_1150 : decode cL_law 1150 = .ok (.iadd, 1) := by decide +kernel
theorem dL_law_1151 : decode cL_law 1151 = .ok (.iaload, 1) := by decide +kernel
theorem dL_law_1152 : decode cL_law 1152 = .ok (.aload_n 0, 1) := by decide +kernel
theorem dL_law_1153 : decode cL_law 1153 = .ok (.iload_n 3, 1) := by decide +kernel
theorem dL_law_1154 : decode cL_law 1154 = .ok (.iconst 2, 1) := by decide +kernel
theorem dL_law_1155 : decode cL_law 1155 = .ok (.iadd, 1) := by decide +kernel
theorem dL_law_1156 : decode cL_law 1156 = .ok (.iaload, 1) := by decide +kernel
theorem dL_law_1157 : decode cL_law 1157 = .ok (.invokevirtual 133, 3) := by decide +kernel
theorem dL_law_1160 : decode cL_law 1160 = .ok (.if_icmp .eq 305, 3) := by decide +kernel
theorem dL_law_1163 : decode cL_law 1163 = .ok (.iconst 0, 1) := by decide +kernel
theorem dL_law_1164 : decode cL_law 1164 = .ok (.ireturn, 1) := by decide +kernel
theorem dL_law_1165 : decode cL_law 1165 = .ok (.aload_n 1, 1) := by decide +kernel
theorem dL_law_1166 : decode cL_law 1166 = .ok (.aload_n 0, 1) := by decide +kernel
theorem dL_law_1167 : decode cL_law 1167 = .ok (.iload_n 3, 1) := by decide +kernel
theorem dL_law_1168 : decode cL_law 1168 = .ok (.iconst 1, 1) := by decide +kernel
theorem dL_law_1169 : decode cL_law 1169 = .ok (.iadd, 1) := by decide +kernel
theorem dL_law_1170 : decode cL_law 1170 = .ok (.iaload, 1) := by decide +kernel
theorem dL_law_1171 : decode cL_law 1171 = .ok (.aload_n 0, 1) := by decide +kernel
theorem dL_law_1172 : decode cL_law 1172 = .ok (.iload_n 3, 1) := by decide +kernel
theorem dL_law_1173 : decode cL_law 1173 = .ok (.iconst 2, 1) := by decide +kernel
theorem dL_law_1174 : decode cL_law 1174 = .ok (.iadd, 1) := by decide +kernel
theorem dL_law_1175 : decode cL_law 1175 = .ok (.iaload, 1) := by decide +kernel
theorem dL_law_1176 : decode cL_law 1176 = .ok (.aload_n 0, 1) := by decide +kernel
theorem dL_law_1177 : decode cL_law 1177 = .ok (.iload_n 3, 1) := by decide +kernel
theorem dL_law_1178 : decode cL_law 1178 = .ok (.iconst 3, 1) := by decide +kernel
theorem dL_law_1179 : decode cL_law 1179 = .ok (.iadd, 1) := by decide +kernel
theorem dL_law_1180 : decode cL_law 1180 = .ok (.iaload, 1) := by decide +kernel
theorem dL_law_1181 : decode cL_law 1181 = .ok (.invokevirtual 134, 3) := by decide +kernel
theorem dL_law_1184 : decode cL_law 1184 = .ok (.aload_n 2, 1) := by decide +kernel
theorem dL_law_1185 : decode cL_law 1185 = .ok (.aload_n 0, 1) := by decide +kernel
theorem dL_law_1186 : decode cL_law 1186 = .ok (.iload_n 3, 1) := by decide +kernel
theorem dL_law_1187 : decode cL_law 1187 = .ok (.iconst 1, 1) := by decide +kernel
theorem dL_law_1188 : decode cL_law 1188 = .ok (.iadd, 1) := by decide +kernel
theorem dL_law_1189 : decode cL_law 1189 = .ok (.iaload, 1) := by decide +kernel
theorem dL_law_1190 : decode cL_law 1190 = .ok (.aload_n 0, 1) := by decide +kernel
theorem dL_law_1191 : decode cL_law 1191 = .ok (.iload_n 3, 1) := by decide +kernel
theorem dL_law_1192 : decode cL_law 1192 = .ok (.iconst 2, 1) := by decide +kernel
theorem dL_law_1193 : decode cL_law 1193 = .ok (.iadd, 1) := by decide +kernel
theorem dL_law_1194 : decode cL_law 1194 = .ok (.iaload, 1) := by decide +kernel
theorem dL_law_1195 : decode cL_law 1195 = .ok (.aload_n 0, 1) := by decide +kernel
theorem dL_law_1196 : decode cL_law 1196 = .ok (.iload_n 3, 1) := by decide +kernel
theorem dL_law_1197 : decode cL_law 1197 = .ok (.iconst 3, 1) := by decide +kernel
theorem dL_law_1198 : decode cL_law 1198 = .ok (.iadd, 1) := by decide +kernel
theorem dL_law_1199 : decode cL_law 1199 = .ok (.iaload, 1) := by decide +kernel
theorem dL_law_1200 : decode cL_law 1200 = .ok (.invokevirtual 137, 3) := by decide +kernel
theorem dL_law_1203 : decode cL_law 1203 = .ok (.if_icmp .eq 262, 3) := by decide +kernel
theorem dL_law_1206 : decode cL_law 1206 = .ok (.iconst 0, 1) := by decide +kernel
theorem dL_law_1207 : decode cL_law 1207 = .ok (.ireturn, 1) := by decide +kernel
theorem dL_law_1208 : decode cL_law 1208 = .ok (.aload_n 1, 1) := by decide +kernel
theorem dL_law_1209 : decode cL_law 1209 = .ok (.aload_n 0, 1) := by decide +kernel
theorem dL_law_1210 : decode cL_law 1210 = .ok (.iload_n 3, 1) := by decide +kernel
theorem dL_law_1211 : decode cL_law 1211 = .ok (.iconst 1, 1) := by decide +kernel
theorem dL_law_1212 : decode cL_law 1212 = .ok (.iadd, 1) := by decide +kernel
theorem dL_law_1213 : decode cL_law 1213 = .ok (.iaload, 1) := by decide +kernel
theorem dL_law_1214 : decode cL_law 1214 = .ok (.aload_n 0, 1) := by decide +kernel
theorem dL_law_1215 : decode cL_law 1215 = .ok (.iload_n 3, 1) := by decide +kernel
theorem dL_law_1216 : decode cL_law 1216 = .ok (.iconst 2, 1) := by decide +kernel
theorem dL_law_1217 : decode cL_law 1217 = .ok (.iadd, 1) := by decide +kernel
theorem dL_law_1218 : decode cL_law 1218 = .ok (.iaload, 1) := by decide +kernel
theorem dL_law_1219 : decode cL_law 1219 = .ok (.aload_n 0, 1) := by decide +kernel
theorem dL_law_1220 : decode cL_law 1220 = .ok (.iload_n 3, 1) := by decide +kernel
theorem dL_law_1221 : decode cL_law 1221 = .ok (.iconst 3, 1) := by decide +kernel
theorem dL_law_1222 : decode cL_law 1222 = .ok (.iadd, 1) := by decide +kernel
theorem dL_law_1223 : decode cL_law 1223 = .ok (.iaload, 1) := by decide +kernel
theorem dL_law_1224 : decode cL_law 1224 = .ok (.invokevirtual 138, 3) := by decide +kernel
theorem dL_law_1227 : decode cL_law 1227 = .ok (.aload_n 2, 1) := by decide +kernel
theorem dL_law_1228 : decode cL_law 1228 = .ok (.aload_n 0, 1) := by decide +kernel
theorem dL_law_1229 : decode cL_law 1229 = .ok (.iload_n 3, 1) := by decide +kernel
theorem dL_law_1230 : decode cL_law 1230 = .ok (.iconst 1, 1) := by decide +kernel
theorem dL_law_1231 : decode cL_law 1231 = .ok (.iadd, 1) := by decide +kernel
theorem dL_law_1232 : decode cL_law 1232 = .ok (.iaload, 1) := by decide +kernel
theorem dL_law_1233 : decode cL_law 1233 = .ok (.aload_n 0, 1) := by decide +kernel
theorem dL_law_1234 : decode cL_law 1234 = .ok (.iload_n 3, 1) := by decide +kernel
theorem dL_law_1235 : decode cL_law 1235 = .ok (.iconst 2, 1) := by decide +kernel
theorem dL_law_1236 : decode cL_law 1236 = .ok (.iadd, 1) := by decide +kernel
theorem dL_law_1237 : decode cL_law 1237 = .ok (.iaload, 1) := by decide +kernel
theorem dL_law_1238 : decode cL_law 1238 = .ok (.aload_n 0, 1) := by decide +kernel
theorem dL_law_1239 : decode cL_law 1239 = .ok (.iload_n 3, 1) := by decide +kernel
theorem dL_law_1240 : decode cL_law 1240 = .ok (.iconst 3, 1) := by decide +kernel
theorem dL_law_1241 : decode cL_law 1241 = .ok (.iadd, 1) := by decide +kernel
theorem dL_law_1242 : decode cL_law 1242 = .ok (.iaload, 1) := by decide +kernel
theorem dL_law_1243 : decode cL_law 1243 = .ok (.invokevirtual 141, 3) := by decide +kernel
theorem dL_law_1246 : decode cL_law 1246 = .ok (.if_icmp .eq 219, 3) := by decide +kernel
theorem dL_law_1249 : decode cL_law 1249 = .ok (.iconst 0, 1) := by decide +kernel
theorem dL_law_1250 : decode cL_law 1250 = .ok (.ireturn, 1) := by decide +kernel
theorem dL_law_1251 : decode cL_law 1251 = .ok (.aload_n 1, 1) := by decide +kernel
theorem dL_law_1252 : decode cL_law 1252 = .ok (.aload_n 0, 1) := by decide +kernel
theorem dL_law_1253 : decode cL_law 1253 = .ok (.iload_n 3, 1) := by decide +kernel
theorem dL_law_1254 : decode cL_law 1254 = .ok (.iconst 1, 1) := by decide +kernel
theorem dL_law_1255 : decode cL_law 1255 = .ok (.iadd, 1) := by decide +kernel
theorem dL_law_1256 : decode cL_law 1256 = .ok (.iaload, 1) := by decide +kernel
theorem dL_law_1257 : decode cL_law 1257 = .ok (.aload_n 0, 1) := by decide +kernel
theorem dL_law_1258 : decode cL_law 1258 = .ok (.iload_n 3, 1) := by decide +kernel
theorem dL_law_1259 : decode cL_law 1259 = .ok (.iconst 2, 1) := by decide +kernel
theorem dL_law_1260 : decode cL_law 1260 = .ok (.iadd, 1) := by decide +kernel
theorem dL_law_1261 : decode cL_law 1261 = .ok (.iaload, 1) := by decide +kernel
theorem dL_law_1262 : decode cL_law 1262 = .ok (.aload_n 0, 1) := by decide +kernel
theorem dL_law_1263 : decode cL_law 1263 = .ok (.iload_n 3, 1) := by decide +kernel
theorem dL_law_1264 : decode cL_law 1264 = .ok (.iconst 3, 1) := by decide +kernel
theorem dL_law_1265 : decode cL_law 1265 = .ok (.iadd, 1) := by decide +kernel
theorem dL_law_1266 : decode cL_law 1266 = .ok (.iaload, 1) := by decide +kernel
theorem dL_law_1267 : decode cL_law 1267 = .ok (.aload_n 0, 1) := by decide +kernel
theorem dL_law_1268 : decode cL_law 1268 = .ok (.iload_n 3, 1) := by decide +kernel
theorem dL_law_1269 : decode cL_law 1269 = .ok (.iconst 4, 1) := by decide +kernel
theorem dL_law_1270 : decode cL_law 1270 = .ok (.iadd, 1) := by decide +kernel
theorem dL_law_1271 : decode cL_law 1271 = .ok (.iaload, 1) := by decide +kernel
theorem dL_law_1272 : decode cL_law 1272 = .ok (.invokevirtual 142, 3) := by decide +kernel
theorem dL_law_1275 : decode cL_law 1275 = .ok (.aload_n 2, 1) := by decide +kernel
theorem dL_law_1276 : decode cL_law 1276 = .ok (.aload_n 0, 1) := by decide +kernel
theorem dL_law_1277 : decode cL_law 1277 = .ok (.iload_n 3, 1) := by decide +kernel
theorem dL_law_1278 : decode cL_law 1278 = .ok (.iconst 1, 1) := by decide +kernel
theorem dL_law_1279 : decode cL_law 1279 = .ok (.iadd, 1) := by decide +kernel
theorem dL_law_1280 : decode cL_law 1280 = .ok (.iaload, 1) := by decide +kernel
theorem dL_law_1281 : decode cL_law 1281 = .ok (.aload_n 0, 1) := by decide +kernel
theorem dL_law_1282 : decode cL_law 1282 = .ok (.iload_n 3, 1) := by decide +kernel
theorem dL_law_1283 : decode cL_law 1283 = .ok (.iconst 2, 1) := by decide +kernel
theorem dL_law_1284 : decode cL_law 1284 = .ok (.iadd, 1) := by decide +kernel
theorem dL_law_1285 : decode cL_law 1285 = .ok (.iaload, 1) := by decide +kernel
theorem dL_law_1286 : decode cL_law 1286 = .ok (.aload_n 0, 1) := by decide +kernel
theorem dL_law_1287 : decode cL_law 1287 = .ok (.iload_n 3, 1) := by decide +kernel
theorem dL_law_1288 : decode cL_law 1288 = .ok (.iconst 3, 1) := by decide +kernel
theorem dL_law_1289 : decode cL_law 1289 = .ok (.iadd, 1) := by decide +kernel
theorem dL_law_1290 : decode cL_law 1290 = .ok (.iaload, 1) := by decide +kernel
theorem dL_law_1291 : decode cL_law 1291 = .ok (.aload_n 0, 1) := by decide +kernel
theorem dL_law_1292 : decode cL_law 1292 = .ok (.iload_n 3, 1) := by decide +kernel
theorem dL_law_1293 : decode cL_law 1293 = .ok (.iconst 4, 1) := by decide +kernel
theorem dL_law_1294 : decode cL_law 1294 = .ok (.iadd, 1) := by decide +kernel
theorem dL_law_1295 : decode cL_law 1295 = .ok (.iaload, 1) := by decide +kernel
theorem dL_law_1296 : decode cL_law 1296 = .ok (.invokevirtual 146, 3) := by decide +kernel
theorem dL_law_1299 : decode cL_law 1299 = .ok (.if_icmp .eq 166, 3) := by decide +kernel
theorem dL_law_1302 : decode cL_law 1302 = .ok (.iconst 0, 1) := by decide +kernel
theorem dL_law_1303 : decode cL_law 1303 = .ok (.ireturn, 1) := by decide +kernel
theorem dL_law_1304 : decode cL_law 1304 = .ok (.aload_n 1, 1) := by decide +kernel
theorem dL_law_1305 : decode cL_law 1305 = .ok (.invokevirtual 147, 3) := by decide +kernel
theorem dL_law_1308 : decode cL_law 1308 = .ok (.aload_n 2, 1) := by decide +kernel
theorem dL_law_1309 : decode cL_law 1309 = .ok (.invokevirtual 150, 3) := by decide +kernel
theorem dL_law_1312 : decode cL_law 1312 = .ok (.if_icmp .eq 153, 3) := by decide +kernel
theorem dL_law_1315 : decode cL_law 1315 = .ok (.iconst 0, 1) := by decide +kernel
theorem dL_law_1316 : decode cL_law 1316 = .ok (.ireturn, 1) := by decide +kernel
theorem dL_law_1317 : decode cL_law 1317 = .ok (.aload_n 1, 1) := by decide +kernel
theorem dL_law_1318 : decode cL_law 1318 = .ok (.aload_n 0, 1) := by decide +kernel
theorem dL_law_1319 : decode cL_law 1319 = .ok (.iload_n 3, 1) := by decide +kernel
theorem dL_law_1320 : decode cL_law 1320 = .ok (.iconst 1, 1) := by decide +kernel
theorem dL_law_1321 : decode cL_law 1321 = .ok (.iadd, 1) := by decide +kernel
theorem dL_law_1322 : decode cL_law 1322 = .ok (.iaload, 1) := by decide +kernel
theorem dL_law_1323 : decode cL_law 1323 = .ok (.aload_n 0, 1) := by decide +kernel
theorem dL_law_1324 : decode cL_law 1324 = .ok (.iload_n 3, 1) := by decide +kernel
theorem dL_law_1325 : decode cL_law 1325 = .ok (.iconst 2, 1) := by decide +kernel
theorem dL_law_1326 : decode cL_law 1326 = .ok (.iadd, 1) := by decide +kernel
theorem dL_law_1327 : decode cL_law 1327 = .ok (.iaload, 1) := by decide +kernel
theorem dL_law_1328 : decode cL_law 1328 = .ok (.aload_n 0, 1) := by decide +kernel
theorem dL_law_1329 : decode cL_law 1329 = .ok (.iload_n 3, 1) := by decide +kernel
theorem dL_law_1330 : decode cL_law 1330 = .ok (.iconst 3, 1) := by decide +kernel
theorem dL_law_1331 : decode cL_law 1331 = .ok (.iadd, 1) := by decide +kernel
theorem dL_law_1332 : decode cL_law 1332 = .ok (.iaload, 1) := by decide +kernel
theorem dL_law_1333 : decode cL_law 1333 = .ok (.invokevirtual 151, 3) := by decide +kernel
theorem dL_law_1336 : decode cL_law 1336 = .ok (.aload_n 2, 1) := by decide +kernel
theorem dL_law_1337 : decode cL_law 1337 = .ok (.aload_n 0, 1) := by decide +kernel
theorem dL_law_1338 : decode cL_law 1338 = .ok (.iload_n 3, 1) := by decide +kernel
theorem dL_law_1339 : decode cL_law 1339 = .ok (.iconst 1, 1) := by decide +kernel
theorem dL_law_1340 : decode cL_law 1340 = .ok (.iadd, 1) := by decide +kernel
theorem dL_law_1341 : decode cL_law 1341 = .ok (.iaload, 1) := by decide +kernel
theorem dL_law_1342 : decode cL_law 1342 = .ok (.aload_n 0, 1) := by decide +kernel
theorem dL_law_1343 : decode cL_law 1343 = .ok (.iload_n 3, 1) := by decide +kernel
theorem dL_law_1344 : decode cL_law 1344 = .ok (.iconst 2, 1) := by decide +kernel
theorem dL_law_1345 : decode cL_law 1345 = .ok (.iadd, 1) := by decide +kernel
theorem dL_law_1346 : decode cL_law 1346 = .ok (.iaload, 1) := by decide +kernel
theorem dL_law_1347 : decode cL_law 1347 = .ok (.aload_n 0, 1) := by decide +kernel
theorem dL_law_1348 : decode cL_law 1348 = .ok (.iload_n 3, 1) := by decide +kernel
theorem dL_law_1349 : decode cL_law 1349 = .ok (.iconst 3, 1) := by decide +kernel
theorem dL_law_1350 : decode cL_law 1350 = .ok (.iadd, 1) := by decide +kernel
theorem dL_law_1351 : decode cL_law 1351 = .ok (.iaload, 1) := by decide +kernel
theorem dL_law_1352 : decode cL_law 1352 = .ok (.invokevirtual 154, 3) := by decide +kernel
theorem dL_law_1355 : decode cL_law 1355 = .ok (.if_icmp .eq 110, 3) := by decide +kernel
theorem dL_law_1358 : decode cL_law 1358 = .ok (.iconst 0, 1) := by decide +kernel
theorem dL_law_1359 : decode cL_law 1359 = .ok (.ireturn, 1) := by decide +kernel
theorem dL_law_1360 : decode cL_law 1360 = .ok (.aload_n 1, 1) := by decide +kernel
theorem dL_law_1361 : decode cL_law 1361 = .ok (.aload_n 0, 1) := by decide +kernel
theorem dL_law_1362 : decode cL_law 1362 = .ok (.iload_n 3, 1) := by decide +kernel
theorem dL_law_1363 : decode cL_law 1363 = .ok (.iconst 1, 1) := by decide +kernel
theorem dL_law_1364 : decode cL_law 1364 = .ok (.iadd, 1) := by decide +kernel
theorem dL_law_1365 : decode cL_law 1365 = .ok (.iaload, 1) := by decide +kernel
theorem dL_law_1366 : decode cL_law 1366 = .ok (.aload_n 0, 1) := by decide +kernel
theorem dL_law_1367 : decode cL_law 1367 = .ok (.iload_n 3, 1) := by decide +kernel
theorem dL_law_1368 : decode cL_law 1368 = .ok (.iconst 2, 1) := by decide +kernel
theorem dL_law_1369 : decode cL_law 1369 = .ok (.iadd, 1) := by decide +kernel
theorem dL_law_1370 : decode cL_law 1370 = .ok (.iaload, 1) := by decide +kernel
theorem dL_law_1371 : decode cL_law 1371 = .ok (.invokevirtual 155, 3) := by decide +kernel
theorem dL_law_1374 : decode cL_law 1374 = .ok (.aload_n 2, 1) := by decide +kernel
theorem dL_law_1375 : decode cL_law 1375 = .ok (.aload_n 0, 1) := by decide +kernel
theorem dL_law_1376 : decode cL_law 1376 = .ok (.iload_n 3, 1) := by decide +kernel
theorem dL_law_1377 : decode cL_law 1377 = .ok (.iconst 1, 1) := by decide +kernel
theorem dL_law_1378 : decode cL_law 1378 = .ok (.iadd, 1) := by decide +kernel
theorem dL_law_1379 : decode cL_law 1379 = .ok (.iaload, 1) := by decide +kernel
theorem dL_law_1380 : decode cL_law 1380 = .ok (.aload_n 0, 1) := by decide +kernel
theorem dL_law_1381 : decode cL_law 1381 = .ok (.iload_n 3, 1) := by decide +kernel
theorem dL_law_1382 : decode cL_law 1382 = .ok (.iconst 2, 1) := by decide +kernel
theorem dL_law_1383 : decode cL_law 1383 = .ok (.iadd, 1) := by decide +kernel
theorem dL_law_1384 : decode cL_law 1384 = .ok (.iaload, 1) := by decide +kernel
theorem dL_law_1385 : decode cL_law 1385 = .ok (.invokevirtual 158, 3) := by decide +kernel
theorem dL_law_1388 : decode cL_law 1388 = .ok (.if_icmp .eq 77, 3) := by decide +kernel
theorem dL_law_1391 : decode cL_law 1391 = .ok (.iconst 0, 1) := by decide +kernel
theorem dL_law_1392 : decode cL_law 1392 = .ok (.ireturn, 1) := by decide +kernel
theorem dL_law_1393 : decode cL_law 1393 = .ok (.aload_n 1, 1) := by decide +kernel
theorem dL_law_1394 : decode cL_law 1394 = .ok (.aload_n 0, 1) := by decide +kernel
theorem dL_law_1395 : decode cL_law 1395 = .ok (.iload_n 3, 1) := by decide +kernel
theorem dL_law_1396 : decode cL_law 1396 = .ok (.iconst 1, 1) := by decide +kernel
theorem dL_law_1397 : decode cL_law 1397 = .ok (.iadd, 1) := by decide +kernel
theorem dL_law_1398 : decode cL_law 1398 = .ok (.iaload, 1) := by decide +kernel
theorem dL_law_1399 : decode cL_law 1399 = .ok (.invokevirtual 159, 3) := by decide +kernel
theorem dL_law_1402 : decode cL_law 1402 = .ok (.aload_n 2, 1) := by decide +kernel
theorem dL_law_1403 : decode cL_law 1403 = .ok (.aload_n 0, 1) := by decide +kernel
theorem dL_law_1404 : decode cL_law 1404 = .ok (.iload_n 3, 1) := by decide +kernel
theorem dL_law_1405 : decode cL_law 1405 = .ok (.iconst 1, 1) := by decide +kernel
theorem dL_law_1406 : decode cL_law 1406 = .ok (.iadd, 1) := by decide +kernel
theorem dL_law_1407 : decode cL_law 1407 = .ok (.iaload, 1) := by decide +kernel
theorem dL_law_1408 : decode cL_law 1408 = .ok (.invokevirtual 162, 3) := by decide +kernel
theorem dL_law_1411 : decode cL_law 1411 = .ok (.if_icmp .eq 54, 3) := by decide +kernel
theorem dL_law_1414 : decode cL_law 1414 = .ok (.iconst 0, 1) := by decide +kernel
theorem dL_law_1415 : decode cL_law 1415 = .ok (.ireturn, 1) := by decide +kernel
theorem dL_law_1416 : decode cL_law 1416 = .ok (.aload_n 1, 1) := by decide +kernel
theorem dL_law_1417 : decode cL_law 1417 = .ok (.invokevirtual 163, 3) := by decide +kernel
theorem dL_law_1420 : decode cL_law 1420 = .ok (.aload_n 2, 1) := by decide +kernel
theorem dL_law_1421 : decode cL_law 1421 = .ok (.invokevirtual 166, 3) := by decide +kernel
theorem dL_law_1424 : decode cL_law 1424 = .ok (.if_icmp .eq 41, 3) := by decide +kernel
theorem dL_law_1427 : decode cL_law 1427 = .ok (.iconst 0, 1) := by decide +kernel
theorem dL_law_1428 : decode cL_law 1428 = .ok (.ireturn, 1) := by decide +kernel
theorem dL_law_1429 : decode cL_law 1429 = .ok (.aload_n 1, 1) := by decide +kernel
theorem dL_law_1430 : decode cL_law 1430 = .ok (.invokevirtual 167, 3) := by decide +kernel
theorem dL_law_1433 : decode cL_law 1433 = .ok (.aload_n 2, 1) := by decide +kernel
theorem dL_law_1434 : decode cL_law 1434 = .ok (.invokevirtual 170, 3) := by decide +kernel
theorem dL_law_1437 : decode cL_law 1437 = .ok (.if_icmp .eq 28, 3) := by decide +kernel
theorem dL_law_1440 : decode cL_law 1440 = .ok (.iconst 0, 1) := by decide +kernel
theorem dL_law_1441 : decode cL_law 1441 = .ok (.ireturn, 1) := by decide +kernel
theorem dL_law_1442 : decode cL_law 1442 = .ok (.aload_n 1, 1) := by decide +kernel
theorem dL_law_1443 : decode cL_law 1443 = .ok (.aload_n 0, 1) := by decide +kernel
theorem dL_law_1444 : decode cL_law 1444 = .ok (.iload_n 3, 1) := by decide +kernel
theorem dL_law_1445 : decode cL_law 1445 = .ok (.iconst 1, 1) := by decide +kernel
theorem dL_law_1446 : decode cL_law 1446 = .ok (.iadd, 1) := by decide +kernel
theorem dL_law_1447 : decode cL_law 1447 = .ok (.iaload, 1) := by decide +kernel
theorem dL_law_1448 : decode cL_law 1448 = .ok (.invokevirtual 171, 3) := by decide +kernel
theorem dL_law_1451 : decode cL_law 1451 = .ok (.aload_n 2, 1) := by decide +kernel
theorem dL_law_1452 : decode cL_law 1452 = .ok (.aload_n 0, 1) := by decide +kernel
theorem dL_law_1453 : decode cL_law 1453 = .ok (.iload_n 3, 1) := by decide +kernel
theorem dL_law_1454 : decode cL_law 1454 = .ok (.iconst 1, 1) := by decide +kernel
theorem dL_law_1455 : decode cL_law 1455 = .ok (.iadd, 1) := by decide +kernel
theorem dL_law_1456 : decode cL_law 1456 = .ok (.iaload, 1) := by decide +kernel
theorem dL_law_1457 : decode cL_law 1457 = .ok (.invokevirtual 174, 3) := by decide +kernel
theorem dL_law_1460 : decode cL_law 1460 = .ok (.if_icmp .eq 5, 3) := by decide +kernel
theorem dL_law_1463 : decode cL_law 1463 = .ok (.iconst 0, 1) := by decide +kernel
theorem dL_law_1464 : decode cL_law 1464 = .ok (.ireturn, 1) := by decide +kernel
theorem dL_law_1465 : decode cL_law 1465 = .ok (.iinc 3 6, 3) := by decide +kernel
theorem dL_law_1468 : decode cL_law 1468 = .ok (.goto (-1450), 3) := by decide +kernel
theorem dL_law_1471 : decode cL_law 1471 = .ok (.iconst 1, 1) := by decide +kernel
theorem dL_law_1472 : decode cL_law 1472 = .ok (.ireturn, 1) := by decide +kernel
