theorem dX6_meets_85 : decode cX6_meets 85 = .ok (.aload_n 0, 1) := by decide +kernel
theorem dX6_meets_86 : decode cX6_meets 86 = .ok (.iload_n 1, 1) := by decide +kernel
theorem dX6_meets_87 : decode cX6_meets 87 = .ok (.iload_n 2, 1) := by decide +kernel
theorem dX6_meets_88 : decode cX6_meets 88 = .ok (.invokevirtual 193, 3) := by decide +kernel
theorem dX6_meets_91 : decode cX6_meets 91 = .ok (.aload_n 0, 1) := by decide +kernel
theorem dX6_meets_92 : decode cX6_meets 92 = .ok (.iload_n 2, 1) := by decide +kernel
theorem dX6_meets_93 : decode cX6_meets 93 = .ok (.iload_n 1, 1) := by decide +kernel
theorem dX6_meets_94 : decode cX6_meets 94 = .ok (.invokevirtual 193, 3) := by decide +kernel
theorem dX6_meets_97 : decode cX6_meets 97 = .ok (.aload_n 0, 1) := by decide +kernel
theorem dX6_meets_98 : decode cX6_meets 98 = .ok (.getfield 7, 3) := by decide +kernel
theorem dX6_meets_101 : decode cX6_meets 101 = .ok (.sipush 767, 3) := by decide +kernel
theorem dX6_meets_104 : decode cX6_meets 104 = .ok (.bipush 8, 2) := by decide +kernel
theorem dX6_meets_106 : decode cX6_meets 106 = .ok (.iload_n 1, 1) := by decide +kernel
theorem dX6_meets_107 : decode cX6_meets 107 = .ok (.imul, 1) := by decide +kernel
theorem dX6_meets_108 : decode cX6_meets 108 = .ok (.iadd, 1) := by decide +kernel
theorem dX6_meets_109 : decode cX6_meets 109 = .ok (.iload_n 2, 1) := by decide +kernel
theorem dX6_meets_110 : decode cX6_meets 110 = .ok (.iadd, 1) := by decide +kernel
theorem dX6_meets_111 : decode cX6_meets 111 = .ok (.aload_n 0, 1) := by decide +kernel
theorem dX6_meets_112 : decode cX6_meets 112 = .ok (.getfield 7, 3) := by decide +kernel
theorem dX6_meets_115 : decode cX6_meets 115 = .ok (.iconst 3, 1) := by decide +kernel
theorem dX6_meets_116 : decode cX6_meets 116 = .ok (.iaload, 1) := by decide +kernel
theorem dX6_meets_117 : decode cX6_meets 117 = .ok (.iconst 1, 1) := by decide +kernel
theorem dX6_meets_118 : decode cX6_meets 118 = .ok (.iadd, 1) := by decide +kernel
theorem dX6_meets_119 : decode cX6_meets 119 = .ok (.iastore, 1) := by decide +kernel
theorem dX6_meets_120 : decode cX6_meets 120 = .ok (.aload_n 0, 1) := by decide +kernel
theorem dX6_meets_121 : decode cX6_meets 121 = .ok (.getfield 7, 3) := by decide +kernel
theorem dX6_meets_124 : decode cX6_meets 124 = .ok (.sipush 767, 3) := by decide +kernel
theorem dX6_meets_127 : decode cX6_meets 127 = .ok (.bipush 8, 2) := by decide +kernel
theorem dX6_meets_129 : decode cX6_meets 129 = .ok (.iload_n 2, 1) := by decide +kernel
theorem dX6_meets_130 : decode cX6_meets 130 = .ok (.imul, 1) := by decide +kernel
theorem dX6_meets_131 : decode cX6_meets 131 = .ok (.iadd, 1) := by decide +kernel
theorem dX6_meets_132 : decode cX6_meets 132 = .ok (.iload_n 1, 1) := by decide +kernel
theorem dX6_meets_133 : decode cX6_meets 133 = .ok (.iadd, 1) := by decide +kernel
theorem dX6_meets_134 : decode cX6_meets 134 = .ok (.aload_n 0, 1) := by decide +kernel
theorem dX6_meets_135 : decode cX6_meets 135 = .ok (.getfield 7, 3) := by decide +kernel
theorem dX6_meets_138 : decode cX6_meets 138 = .ok (.iconst 3, 1) := by decide +kernel
theorem dX6_meets_139 : decode cX6_meets 139 = .ok (.iaload, 1) := by decide +kernel
theorem dX6_meets_140 : decode cX6_meets 140 = .ok (.iconst 1, 1) := by decide +kernel
theorem dX6_meets_141 : decode cX6_meets 141 = .ok (.iadd, 1) := by decide +kernel
theorem dX6_meets_142 : decode cX6_meets 142 = .ok (.iastore, 1) := by decide +kernel
theorem dX6_meets_143 : decode cX6_meets 143 = .ok (.return_, 1) := by decide +kernel
theorem dX6_ofMeeting_0 : decode cX6_ofMeeting 0 = .ok (.aload_n 0, 1) := by decide +kernel
theorem dX6_ofMeeting_1 : decode cX6_ofMeeting 1 = .ok (.getfield 7, 3) := by decide +kernel
theorem dX6_ofMeeting_4 : decode cX6_ofMeeting 4 = .ok (.bipush 31, 2) := by decide +kernel
theorem dX6_ofMeeting_6 : decode cX6_ofMeeting 6 = .ok (.iconst 4, 1) := by decide +kernel
theorem dX6_ofMeeting_7 : decode cX6_ofMeeting 7 = .ok (.iload_n 1, 1) := by decide +kernel
theorem dX6_ofMeeting_8 : decode cX6_ofMeeting 8 = .ok (.imul, 1) := by decide +kernel
theorem dX6_ofMeeting_9 : decode cX6_ofMeeting 9 = .ok (.iadd, 1) := by decide +kernel
theorem dX6_ofMeeting_10 : decode cX6_ofMeeting 10 = .ok (.iload_n 2, 1) := by decide +kernel
theorem dX6_ofMeeting_11 : decode cX6_ofMeeting 11 = .ok (.iadd, 1) := by decide +kernel
theorem dX6_ofMeeting_12 : decode cX6_ofMeeting 12 = .ok (.iaload, 1) := by decide +kernel
theorem dX6_ofMeeting_13 : decode cX6_ofMeeting 13 = .ok (.ireturn, 1) := by decide +kernel
theorem dX6_isOn_0 : decode cX6_isOn 0 = .ok (.aload_n 0, 1) := by decide +kernel
theorem dX6_isOn_1 : decode cX6_isOn 1 = .ok (.iload_n 1, 1) := by decide +kernel
theorem dX6_isOn_2 : decode cX6_isOn 2 = .ok (.iconst 0, 1) := by decide +kernel
theorem dX6_isOn_3 : decode cX6_isOn 3 = .ok (.invokevirtual 196, 3) := by decide +kernel
theorem dX6_isOn_6 : decode cX6_isOn 6 = .ok (.istore_n 3, 1) := by decide +kernel
theorem dX6_isOn_7 : decode cX6_isOn 7 = .ok (.iload_n 2, 1) := by decide +kernel
theorem dX6_isOn_8 : decode cX6_isOn 8 = .ok (.iload_n 3, 1) := by decide +kernel
theorem dX6_isOn_9 : decode cX6_isOn 9 = .ok (.if_icmp .eq 30, 3) := by decide +kernel
theorem dX6_isOn_12 : decode cX6_isOn 12 = .ok (.aload_n 0, 1) := by decide +kernel
theorem dX6_isOn_13 : decode cX6_isOn 13 = .ok (.getfield 7, 3) := by decide +kernel
theorem dX6_isOn_16 : decode cX6_isOn 16 = .ok (.iconst 4, 1) := by decide +kernel
theorem dX6_isOn_17 : decode cX6_isOn 17 = .ok (.iaload, 1) := by decide +kernel
theorem dX6_isOn_18 : decode cX6_isOn 18 = .ok (.ifCond .le 25, 3) := by decide +kernel
theorem dX6_isOn_21 : decode cX6_isOn 21 = .ok (.iload_n 2, 1) := by decide +kernel
theorem dX6_isOn_22 : decode cX6_isOn 22 = .ok (.iload_n 3, 1) := by decide +kernel
theorem dX6_isOn_23 : decode cX6_isOn 23 = .ok (.if_icmp .le 20, 3) := by decide +kernel
theorem dX6_isOn_26 : decode cX6_isOn 26 = .ok (.iload_n 2, 1) := by decide +kernel
theorem dX6_isOn_27 : decode cX6_isOn 27 = .ok (.iload_n 3, 1) := by decide +kernel
theorem dX6_isOn_28 : decode cX6_isOn 28 = .ok (.isub, 1) := by decide +kernel
theorem dX6_isOn_29 : decode cX6_isOn 29 = .ok (.aload_n 0, 1) := by decide +kernel
theorem dX6_isOn_30 : decode cX6_isOn 30 = .ok (.getfield 7, 3) := by decide +kernel
theorem dX6_isOn_33 : decode cX6_isOn 33 = .ok (.iconst 4, 1) := by decide +kernel
theorem dX6_isOn_34 : decode cX6_isOn 34 = .ok (.iaload, 1) := by decide +kernel
theorem dX6_isOn_35 : decode cX6_isOn 35 = .ok (.irem, 1) := by decide +kernel
theorem dX6_isOn_36 : decode cX6_isOn 36 = .ok (.ifCond .ne 7, 3) := by decide +kernel
theorem dX6_isOn_39 : decode cX6_isOn 39 = .ok (.iconst 1, 1) := by decide +kernel
theorem dX6_isOn_40 : decode cX6_isOn 40 = .ok (.goto 4, 3) := by decide +kernel
theorem dX6_isOn_43 : decode cX6_isOn 43 = .ok (.iconst 0, 1) := by decide +kernel
theorem dX6_isOn_44 : decode cX6_isOn 44 = .ok (.ireturn, 1) := by decide +kernel
theorem dX6_minute_0 : decode cX6_minute 0 = .ok (.aload_n 0, 1) := by decide +kernel
theorem dX6_minute_1 : decode cX6_minute 1 = .ok (.getfield 7, 3) := by decide +kernel
theorem dX6_minute_4 : decode cX6_minute 4 = .ok (.iconst 3, 1) := by decide +kernel
theorem dX6_minute_5 : decode cX6_minute 5 = .ok (.dup2, 1) := by decide +kernel
theorem dX6_minute_6 : decode cX6_minute 6 = .ok (.iaload, 1) := by decide +kernel
theorem dX6_minute_7 : decode cX6_minute 7 = .ok (.iconst 1, 1) := by decide +kernel
theorem dX6_minute_8 : decode cX6_minute 8 = .ok (.iadd, 1) := by decide +kernel
theorem dX6_minute_9 : decode cX6_minute 9 = .ok (.iastore, 1) := by decide +kernel
theorem dX6_minute_10 : decode cX6_minute 10 = .ok (.iconst 0, 1) := by decide +kernel
theorem dX6_minute_11 : decode cX6_minute 11 = .ok (.istore_n 1, 1) := by decide +kernel
theorem dX6_minute_12 : decode cX6_minute 12 = .ok (.iload_n 1, 1) := by decide +kernel
theorem dX6_minute_13 : decode cX6_minute 13 = .ok (.aload_n 0, 1) := by decide +kernel
theorem dX6_minute_14 : decode cX6_minute 14 = .ok (.getfield 7, 3) := by decide +kernel
theorem dX6_minute_17 : decode cX6_minute 17 = .ok (.iconst 2, 1) := by decide +kernel
theorem dX6_minute_18 : decode cX6_minute 18 = .ok (.iaload, 1) := by decide +kernel
theorem dX6_minute_19 : decode cX6_minute 19 = .ok (.if_icmp .ge 67, 3) := by decide +kernel
theorem dX6_minute_22 : decode cX6_minute 22 = .ok (.iconst 0, 1) := by decide +kernel
theorem dX6_minute_23 : decode cX6_minute 23 = .ok (.istore_n 2, 1) := by decide +kernel
theorem dX6_minute_24 : decode cX6_minute 24 = .ok (.iload_n 2, 1) := by decide +kernel
theorem dX6_minute_25 : decode cX6_minute 25 = .ok (.aload_n 0, 1) := by decide +kernel
theorem dX6_minute_26 : decode cX6_minute 26 = .ok (.getfield 7, 3) := by decide +kernel
theorem dX6_minute_29 : decode cX6_minute 29 = .ok (.iconst 0, 1) := by decide +kernel
theorem dX6_minute_30 : decode cX6_minute 30 = .ok (.iaload, 1) := by decide +kernel
theorem dX6_minute_31 : decode cX6_minute 31 = .ok (.if_icmp .ge 49, 3) := by decide +kernel
theorem dX6_minute_34 : decode cX6_minute 34 = .ok (.aload_n 0, 1) := by decide +kernel
theorem dX6_minute_35 : decode cX6_minute 35 = .ok (.iload_n 1, 1) := by decide +kernel
theorem dX6_minute_36 : decode cX6_minute 36 = .ok (.invokevirtual 129, 3) := by decide +kernel
theorem dX6_minute_39 : decode cX6_minute 39 = .ok (.aload_n 0, 1) := by decide +kernel
theorem dX6_minute_40 : decode cX6_minute 40 = .ok (.getfield 7, 3) := by decide +kernel
theorem dX6_minute_43 : decode cX6_minute 43 = .ok (.iconst 3, 1) := by decide +kernel
theorem dX6_minute_44 : decode cX6_minute 44 = .ok (.iaload, 1) := by decide +kernel
theorem dX6_minute_45 : decode cX6_minute 45 = .ok (.if_icmp .ne 29, 3) := by decide +kernel
theorem dX6_minute_48 : decode cX6_minute 48 = .ok (.aload_n 0, 1) := by decide +kernel
theorem dX6_minute_49 : decode cX6_minute 49 = .ok (.iload_n 2, 1) := by decide +kernel
theorem dX6_minute_50 : decode cX6_minute 50 = .ok (.iload_n 1, 1) := by decide +kernel
theorem dX6_minute_51 : decode cX6_minute 51 = .ok (.invokevirtual 115, 3) := by decide +kernel
theorem dX6_minute_54 : decode cX6_minute 54 = .ok (.ifCond .eq 20, 3) := by decide +kernel
theorem dX6_minute_57 : decode cX6_minute 57 = .ok (.aload_n 0, 1) := by decide +kernel
theorem dX6_minute_58 : decode cX6_minute 58 = .ok (.iload_n 2, 1) := by decide +kernel
theorem dX6_minute_59 : decode cX6_minute 59 = .ok (.iload_n 1, 1) := by decide +kernel
theorem dX6_minute_60 : decode cX6_minute 60 = .ok (.invokevirtual 136, 3) := by decide +kernel
theorem dX6_minute_63 : decode cX6_minute 63 = .ok (.aload_n 0, 1) := by decide +kernel
theorem dX6_minute_64 : decode cX6_minute 64 = .ok (.getfield 7, 3) := by decide +kernel
theorem dX6_minute_67 : decode cX6_minute 67 = .ok (.bipush 12, 2) := by decide +kernel
theorem dX6_minute_69 : decode cX6_minute 69 = .ok (.dup2, 1) := by decide +kernel
theorem dX6_minute_70 : decode cX6_minute 70 = .ok (.iaload, 1) := by decide +kernel
theorem dX6_minute_71 : decode cX6_minute 71 = .ok (.iconst 1, 1) := by decide +kernel
theorem dX6_minute_72 : decode cX6_minute 72 = .ok (.iadd, 1) := by decide +kernel
theorem dX6_minute_73 : decode cX6_minute 73 = .ok (.iastore, 1) := by decide +kernel
theorem dX6_minute_74 : decode cX6_minute 74 = .ok (.iinc 2 1, 3) := by decide +kernel
theorem dX6_minute_77 : decode cX6_minute 77 = .ok (.goto (-53), 3) := by decide +kernel
theorem dX6_minute_80 : decode cX6_minute 80 = .ok (.iinc 1 1, 3) := by decide +kernel
theorem dX6_minute_83 : decode cX6_minute 83 = .ok (.goto (-71), 3) := by decide +kernel
theorem dX6_minute_86 : decode cX6_minute 86 = .ok (.iconst 0, 1) := by decide +kernel
theorem dX6_minute_87 : decode cX6_minute 87 = .ok (.istore_n 1, 1) := by decide +kernel
theorem dX6_minute_88 : decode cX6_minute 88 = .ok (.iload_n 1, 1) := by decide +kernel
theorem dX6_minute_89 : decode cX6_minute 89 = .ok (.aload_n 0, 1) := by decide +kernel
theorem dX6_minute_90 : decode cX6_minute 90 = .ok (.getfield 7, 3) := by decide +kernel
theorem dX6_minute_93 : decode cX6_minute 93 = .ok (.iconst 2, 1) := by decide +kernel
theorem dX6_minute_94 : decode cX6_minute 94 = .ok (.iaload, 1) := by decide +kernel
theorem dX6_minute_95 : decode cX6_minute 95 = .ok (.if_icmp .ge 29, 3) := by decide +kernel
theorem dX6_minute_98 : decode cX6_minute 98 = .ok (.aload_n 0, 1) := by decide +kernel
theorem dX6_minute_99 : decode cX6_minute 99 = .ok (.iload_n 1, 1) := by decide +kernel
theorem dX6_minute_100 : decode cX6_minute 100 = .ok (.iconst 0, 1) := by decide +kernel
theorem dX6_minute_101 : decode cX6_minute 101 = .ok (.invokevirtual 119, 3) := by decide +kernel
theorem dX6_minute_104 : decode cX6_minute 104 = .ok (.aload_n 0, 1) := by decide +kernel
theorem dX6_minute_105 : decode cX6_minute 105 = .ok (.getfield 7, 3) := by decide +kernel
theorem dX6_minute_108 : decode cX6_minute 108 = .ok (.iconst 3, 1) := by decide +kernel
theorem dX6_minute_109 : decode cX6_minute 109 = .ok (.iaload, 1) := by decide +kernel
theorem dX6_minute_110 : decode cX6_minute 110 = .ok (.if_icmp .ne 8, 3) := by decide +kernel
theorem dX6_minute_113 : decode cX6_minute 113 = .ok (.aload_n 0, 1) := by decide +kernel
theorem dX6_minute_114 : decode cX6_minute 114 = .ok (.iload_n 1, 1) := by decide +kernel
theorem dX6_minute_115 : decode cX6_minute 115 = .ok (.invokevirtual 199, 3) := by decide +kernel
theorem dX6_minute_118 : decode cX6_minute 118 = .ok (.iinc 1 1, 3) := by decide +kernel
theorem dX6_minute_121 : decode cX6_minute 121 = .ok (.goto (-33), 3) := by decide +kernel
theorem dX6_minute_124 : decode cX6_minute 124 = .ok (.iconst 0, 1) := by decide +kernel
theorem dX6_minute_125 : decode cX6_minute 125 = .ok (.istore_n 1, 1) := by decide +kernel
theorem dX6_minute_126 : decode cX6_minute 126 = .ok (.iload_n 1, 1) := by decide +kernel
theorem dX6_minute_127 : decode cX6_minute 127 = .ok (.aload_n 0, 1) := by decide +kernel
theorem dX6_minute_128 : decode cX6_minute 128 = .ok (.getfield 7, 3) := by decide +kernel
theorem dX6_minute_131 : decode cX6_minute 131 = .ok (.iconst 1, 1) := by decide +kernel
theorem dX6_minute_132 : decode cX6_minute 132 = .ok (.iaload, 1) := by decide +kernel
theorem dX6_minute_133 : decode cX6_minute 133 = .ok (.if_icmp .ge 45, 3) := by decide +kernel
theorem dX6_minute_136 : decode cX6_minute 136 = .ok (.aload_n 0, 1) := by decide +kernel
theorem dX6_minute_137 : decode cX6_minute 137 = .ok (.iload_n 1, 1) := by decide +kernel
theorem dX6_minute_138 : decode cX6_minute 138 = .ok (.aload_n 0, 1) := by decide +kernel
theorem dX6_minute_139 : decode cX6_minute 139 = .ok (.getfield 7, 3) := by decide +kernel
theorem dX6_minute_142 : decode cX6_minute 142 = .ok (.iconst 3, 1) := by decide +kernel
theorem dX6_minute_143 : decode cX6_minute 143 = .ok (.iaload, 1) := by decide +kernel
theorem dX6_minute_144 : decode cX6_minute 144 = .ok (.invokevirtual 202, 3) := by decide +kernel
theorem dX6_minute_147 : decode cX6_minute 147 = .ok (.ifCond .eq 25, 3) := by decide +kernel
theorem dX6_minute_150 : decode cX6_minute 150 = .ok (.aload_n 0, 1) := by decide +kernel
theorem dX6_minute_151 : decode cX6_minute 151 = .ok (.aload_n 0, 1) := by decide +kernel
theorem dX6_minute_152 : decode cX6_minute 152 = .ok (.iload_n 1, 1) := by decide +kernel
theorem dX6_minute_153 : decode cX6_minute 153 = .ok (.iconst 1, 1) := by decide +kernel
theorem dX6_minute_154 : decode cX6_minute 154 = .ok (.invokevirtual 196, 3) := by decide +kernel
theorem dX6_minute_157 : decode cX6_minute 157 = .ok (.aload_n 0, 1) := by decide +kernel
theorem dX6_minute_158 : decode cX6_minute 158 = .ok (.iload_n 1, 1) := by decide +kernel
theorem dX6_minute_159 : decode cX6_minute 159 = .ok (.iconst 2, 1) := by decide +kernel
theorem dX6_minute_160 : decode cX6_minute 160 = .ok (.invokevirtual 196, 3) := by decide +kernel
theorem dX6_minute_163 : decode cX6_minute 163 = .ok (.aload_n 0, 1) := by decide +kernel
theorem dX6_minute_164 : decode cX6_minute 164 = .ok (.iload_n 1, 1) := by decide +kernel
theorem dX6_minute_165 : decode cX6_minute 165 = .ok (.iconst 3, 1) := by decide +kernel
theorem dX6_minute_166 : decode cX6_minute 166 = .ok (.invokevirtual 196, 3) := by decide +kernel
theorem dX6_minute_169 : decode cX6_minute 169 = .ok (.invokevirtual 205, 3) := by decide +kernel
theorem dX6_minute_172 : decode cX6_minute 172 = .ok (.iinc 1 1, 3) := by decide +kernel
theorem dX6_minute_175 : decode cX6_minute 175 = .ok (.goto (-49), 3) := by decide +kernel
theorem dX6_minute_178 : decode cX6_minute 178 = .ok (.return_, 1) := by decide +kernel
theorem dX6_copiesOf_0 : decode cX6_copiesOf 0 = .ok (.iconst 0, 1) := by decide +kernel
theorem dX6_copiesOf_1 : decode cX6_copiesOf 1 = .ok (.istore_n 3, 1) := by decide +kernel
theorem dX6_copiesOf_2 : decode cX6_copiesOf 2 = .ok (.iconst 0, 1) := by decide +kernel
theorem dX6_copiesOf_3 : decode cX6_copiesOf 3 = .ok (.istore 4, 2) := by decide +kernel
theorem dX6_copiesOf_5 : decode cX6_copiesOf 5 = .ok (.iload 4, 2) := by decide +kernel
theorem dX6_copiesOf_7 : decode cX6_copiesOf 7 = .ok (.aload_n 0, 1) := by decide +kernel
theorem dX6_copiesOf_8 : decode cX6_copiesOf 8 = .ok (.getfield 7, 3) := by decide +kernel
theorem dX6_copiesOf_11 : decode cX6_copiesOf 11 = .ok (.iconst 0, 1) := by decide +kernel
theorem dX6_copiesOf_12 : decode cX6_copiesOf 12 = .ok (.iaload, 1) := by decide +kernel
theorem dX6_copiesOf_13 : decode cX6_copiesOf 13 = .ok (.if_icmp .ge 72, 3) := by decide +kernel
theorem dX6_copiesOf_16 : decode cX6_copiesOf 16 = .ok (.iconst 0, 1) := by decide +kernel
theorem dX6_copiesOf_17 : decode cX6_copiesOf 17 = .ok (.istore 5, 2) := by decide +kernel
theorem dX6_copiesOf_19 : decode cX6_copiesOf 19 = .ok (.iload 5, 2) := by decide +kernel
theorem dX6_copiesOf_21 : decode cX6_copiesOf 21 = .ok (.aload_n 0, 1) := by decide +kernel
theorem dX6_copiesOf_22 : decode cX6_copiesOf 22 = .ok (.getfield 7, 3) := by decide +kernel
theorem dX6_copiesOf_25 : decode cX6_copiesOf 25 = .ok (.iconst 2, 1) := by decide +kernel
theorem dX6_copiesOf_26 : decode cX6_copiesOf 26 = .ok (.iaload, 1) := by decide +kernel
theorem dX6_copiesOf_27 : decode cX6_copiesOf 27 = .ok (.if_icmp .ge 52, 3) := by decide +kernel
theorem dX6_copiesOf_30 : decode cX6_copiesOf 30 = .ok (.iload_n 3, 1) := by decide +kernel
theorem dX6_copiesOf_31 : decode cX6_copiesOf 31 = .ok (.iload_n 1, 1) := by decide +kernel
theorem dX6_copiesOf_32 : decode cX6_copiesOf 32 = .ok (.bipush (-4), 2) := by decide +kernel
theorem dX6_copiesOf_34 : decode cX6_copiesOf 34 = .ok (.if_icmp .eq 9, 3) := by decide +kernel
theorem dX6_copiesOf_37 : decode cX6_copiesOf 37 = .ok (.iload_n 1, 1) := by decide +kernel
theorem dX6_copiesOf_38 : decode cX6_copiesOf 38 = .ok (.iload 4, 2) := by decide +kernel
theorem dX6_copiesOf_40 : decode cX6_copiesOf 40 = .ok (.if_icmp .ne 30, 3) := by decide +kernel
theorem dX6_copiesOf_43 : decode cX6_copiesOf 43 = .ok (.iload_n 2, 1) := by decide +kernel
theorem dX6_copiesOf_44 : decode cX6_copiesOf 44 = .ok (.bipush (-4), 2) := by decide +kernel
theorem dX6_copiesOf_46 : decode cX6_copiesOf 46 = .ok (.if_icmp .eq 9, 3) := by decide +kernel
theorem dX6_copiesOf_49 : decode cX6_copiesOf 49 = .ok (.iload_n 2, 1) := by decide +kernel
theorem dX6_copiesOf_50 : decode cX6_copiesOf 50 = .ok (.iload 5, 2) := by decide +kernel
theorem dX6_copiesOf_52 : decode cX6_copiesOf 52 = .ok (.if_icmp .ne 18, 3) := by decide +kernel
theorem dX6_copiesOf_55 : decode cX6_copiesOf 55 = .ok (.aload_n 0, 1) := by decide +kernel
theorem dX6_copiesOf_56 : decode cX6_copiesOf 56 = .ok (.iload 4, 2) := by decide +kernel
theorem dX6_copiesOf_58 : decode cX6_copiesOf 58 = .ok (.iload 5, 2) := by decide +kernel
theorem dX6_copiesOf_60 : decode cX6_copiesOf 60 = .ok (.invokevirtual 115, 3) := by decide +kernel
theorem dX6_copiesOf_63 : decode cX6_copiesOf 63 = .ok (.ifCond .eq 7, 3) := by decide +kernel
theorem dX6_copiesOf_66 : decode cX6_copiesOf 66 = .ok (.iconst 1, 1) := by decide +kernel
theorem dX6_copiesOf_67 : decode cX6_copiesOf 67 = .ok (.goto 4, 3) := by decide +kernel
theorem dX6_copiesOf_70 : decode cX6_copiesOf 70 = .ok (.iconst 0, 1) := by decide +kernel
theorem dX6_copiesOf_71 : decode cX6_copiesOf 71 = .ok (.iadd, 1) := by decide +kernel
theorem dX6_copiesOf_72 : decode cX6_copiesOf 72 = .ok (.istore_n 3, 1) := by decide +kernel
theorem dX6_copiesOf_73 : decode cX6_copiesOf 73 = .ok (.iinc 5 1, 3) := by decide +kernel
theorem dX6_copiesOf_76 : decode cX6_copiesOf 76 = .ok (.goto (-57), 3) := by decide +kernel
theorem dX6_copiesOf_79 : decode cX6_copiesOf 79 = .ok (.iinc 4 1, 3) := by decide +kernel
theorem dX6_copiesOf_82 : decode cX6_copiesOf 82 = .ok (.goto (-77), 3) := by decide +kernel
theorem dX6_copiesOf_85 : decode cX6_copiesOf 85 = .ok (.iload_n 3, 1) := by decide +kernel
theorem dX6_copiesOf_86 : decode cX6_copiesOf 86 = .ok (.ireturn, 1) := by decide +kernel
theorem dX6_rule_0 : decode cX6_rule 0 = .ok (.iload_n 1, 1) := by decide +kernel
theorem dX6_rule_1 : decode cX6_rule 1 = .ok (.i2l, 1) := by decide +kernel
theorem dX6_rule_2 : decode cX6_rule 2 = .ok (.lconst 0, 1) := by decide +kernel
theorem dX6_rule_3 : decode cX6_rule 3 = .ok (.ldc2_w 208, 3) := by decide +kernel
theorem dX6_rule_6 : decode cX6_rule 6 = .ok (.invokestatic 40, 3) := by decide +kernel
theorem dX6_rule_9 : decode cX6_rule 9 = .ok (.ifCond .ne 5, 3) := by decide +kernel
theorem dX6_rule_12 : decode cX6_rule 12 = .ok (.iconst (-1), 1) := by decide +kernel
theorem dX6_rule_13 : decode cX6_rule 13 = .ok (.ireturn, 1) := by decide +kernel
theorem dX6_rule_14 : decode cX6_rule 14 = .ok (.iload_n 1, 1) := by decide +kernel
theorem dX6_rule_15 : decode cX6_rule 15 = .ok (.lookupswitch 77 #[(8, 33), (17, 42), (18, 47)], 33) := by decide +kernel
theorem dX6_rule_48 : decode cX6_rule 48 = .ok (.aload_n 0, 1) := by decide +kernel
theorem dX6_rule_49 : decode cX6_rule 49 = .ok (.bipush (-4), 2) := by decide +kernel
theorem dX6_rule_51 : decode cX6_rule 51 = .ok (.bipush (-4), 2) := by decide +kernel
theorem dX6_rule_53 : decode cX6_rule 53 = .ok (.invokevirtual 210, 3) := by decide +kernel
theorem dX6_rule_56 : decode cX6_rule 56 = .ok (.ireturn, 1) := by decide +kernel
theorem dX6_rule_57 : decode cX6_rule 57 = .ok (.aload_n 0, 1) := by decide +kernel
theorem dX6_rule_58 : decode cX6_rule 58 = .ok (.getfield 44, 3) := by decide +kernel
theorem dX6_rule_61 : decode cX6_rule 61 = .ok (.ireturn, 1) := by decide +kernel
theorem dX6_rule_62 : decode cX6_rule 62 = .ok (.aload_n 0, 1) := by decide +kernel
theorem dX6_rule_63 : decode cX6_rule 63 = .ok (.getfield 19, 3) := by decide +kernel
theorem dX6_rule_66 : decode cX6_rule 66 = .ok (.iconst 0, 1) := by decide +kernel
theorem dX6_rule_67 : decode cX6_rule 67 = .ok (.baload, 1) := by decide +kernel
theorem dX6_rule_68 : decode cX6_rule 68 = .ok (.ifCond .eq 7, 3) := by decide +kernel
theorem dX6_rule_71 : decode cX6_rule 71 = .ok (.iconst 1, 1) := by decide +kernel
theorem dX6_rule_72 : decode cX6_rule 72 = .ok (.goto 4, 3) := by decide +kernel
theorem dX6_rule_75 : decode cX6_rule 75 = .ok (.iconst 0, 1) := by decide +kernel
theorem dX6_rule_76 : decode cX6_rule 76 = .ok (.aload_n 0, 1) := by decide +kernel
theorem dX6_rule_77 : decode cX6_rule 77 = .ok (.getfield 19, 3) := by decide +kernel
theorem dX6_rule_80 : decode cX6_rule 80 = .ok (.iconst 1, 1) := by decide +kernel
theorem dX6_rule_81 : decode cX6_rule 81 = .ok (.baload, 1) := by decide +kernel
theorem dX6_rule_82 : decode cX6_rule 82 = .ok (.ifCond .eq 7, 3) := by decide +kernel
theorem dX6_rule_85 : decode cX6_rule 85 = .ok (.iconst 1, 1) := by decide +kernel
theorem dX6_rule_86 : decode cX6_rule 86 = .ok (.goto 4, 3) := by decide +kernel
theorem dX6_rule_89 : decode cX6_rule 89 = .ok (.iconst 0, 1) := by decide +kernel
theorem dX6_rule_90 : decode cX6_rule 90 = .ok (.iadd, 1) := by decide +kernel
theorem dX6_rule_91 : decode cX6_rule 91 = .ok (.ireturn, 1) := by decide +kernel
theorem dX6_rule_92 : decode cX6_rule 92 = .ok (.aload_n 0, 1) := by decide +kernel
theorem dX6_rule_93 : decode cX6_rule 93 = .ok (.getfield 7, 3) := by decide +kernel
theorem dX6_rule_96 : decode cX6_rule 96 = .ok (.iload_n 1, 1) := by decide +kernel
theorem dX6_rule_97 : decode cX6_rule 97 = .ok (.bipush 8, 2) := by decide +kernel
theorem dX6_rule_99 : decode cX6_rule 99 = .ok (.if_icmp .ge 7, 3) := by decide +kernel
theorem dX6_rule_102 : decode cX6_rule 102 = .ok (.iload_n 1, 1) := by decide +kernel
theorem dX6_rule_103 : decode cX6_rule 103 = .ok (.goto 6, 3) := by decide +kernel
theorem dX6_rule_106 : decode cX6_rule 106 = .ok (.iload_n 1, 1) := by decide +kernel
theorem dX6_rule_107 : decode cX6_rule 107 = .ok (.iconst 1, 1) := by decide +kernel
theorem dX6_rule_108 : decode cX6_rule 108 = .ok (.isub, 1) := by decide +kernel
theorem dX6_rule_109 : decode cX6_rule 109 = .ok (.iaload, 1) := by decide +kernel
theorem dX6_rule_110 : decode cX6_rule 110 = .ok (.ireturn, 1) := by decide +kernel
theorem dX6_isNode_0 : decode cX6_isNode 0 = .ok (.iload_n 1, 1) := by decide +kernel
theorem dX6_isNode_1 : decode cX6_isNode 1 = .ok (.i2l, 1) := by decide +kernel
theorem dX6_isNode_2 : decode cX6_isNode 2 = .ok (.lconst 0, 1) := by decide +kernel
theorem dX6_isNode_3 : decode cX6_isNode 3 = .ok (.aload_n 0, 1) := by decide +kernel
theorem dX6_isNode_4 : decode cX6_isNode 4 = .ok (.getfield 7, 3) := by decide +kernel
theorem dX6_isNode_7 : decode cX6_isNode 7 = .ok (.iconst 0, 1) := by decide +kernel
theorem dX6_isNode_8 : decode cX6_isNode 8 = .ok (.iaload, 1) := by decide +kernel
theorem dX6_isNode_9 : decode cX6_isNode 9 = .ok (.iconst 1, 1) := by decide +kernel
theorem dX6_isNode_10 : decode cX6_isNode 10 = .ok (.isub, 1) := by decide +kernel
theorem dX6_isNode_11 : decode cX6_isNode 11 = .ok (.i2l, 1) := by decide +kernel
theorem dX6_isNode_12 : decode cX6_isNode 12 = .ok (.invokestatic 40, 3) := by decide +kernel
theorem dX6_isNode_15 : decode cX6_isNode 15 = .ok (.ireturn, 1) := by decide +kernel
theorem dX6_isLetter_0 : decode cX6_isLetter 0 = .ok (.iload_n 1, 1) := by decide +kernel
theorem dX6_isLetter_1 : decode cX6_isLetter 1 = .ok (.i2l, 1) := by decide +kernel
theorem dX6_isLetter_2 : decode cX6_isLetter 2 = .ok (.lconst 0, 1) := by decide +kernel
theorem dX6_isLetter_3 : decode cX6_isLetter 3 = .ok (.aload_n 0, 1) := by decide +kernel
theorem dX6_isLetter_4 : decode cX6_isLetter 4 = .ok (.getfield 7, 3) := by decide +kernel
theorem dX6_isLetter_7 : decode cX6_isLetter 7 = .ok (.iconst 2, 1) := by decide +kernel
theorem dX6_isLetter_8 : decode cX6_isLetter 8 = .ok (.iaload, 1) := by decide +kernel
theorem dX6_isLetter_9 : decode cX6_isLetter 9 = .ok (.iconst 1, 1) := by decide +kernel
theorem dX6_isLetter_10 : decode cX6_isLetter 10 = .ok (.isub, 1) := by decide +kernel
theorem dX6_isLetter_11 : decode cX6_isLetter 11 = .ok (.i2l, 1) := by decide +kernel
theorem dX6_isLetter_12 : decode cX6_isLetter 12 = .ok (.invokestatic 40, 3) := by decide +kernel
theorem dX6_isLetter_15 : decode cX6_isLetter 15 = .ok (.ireturn, 1) := by decide +kernel
theorem dX6_counted_0 : decode cX6_counted 0 = .ok (.iconst 0, 1) := by decide +kernel
theorem dX6_counted_1 : decode cX6_counted 1 = .ok (.istore_n 3, 1) := by decide +kernel
theorem dX6_counted_2 : decode cX6_counted 2 = .ok (.iconst 0, 1) := by decide +kernel
theorem dX6_counted_3 : decode cX6_counted 3 = .ok (.istore 4, 2) := by decide +kernel
theorem dX6_counted_5 : decode cX6_counted 5 = .ok (.iload 4, 2) := by decide +kernel
theorem dX6_counted_7 : decode cX6_counted 7 = .ok (.iload_n 2, 1) := by decide +kernel
theorem dX6_counted_8 : decode cX6_counted 8 = .ok (.ifCond .eq 8, 3) := by decide +kernel
theorem dX6_counted_11 : decode cX6_counted 11 = .ok (.bipush 16, 2) := by decide +kernel
theorem dX6_counted_13 : decode cX6_counted 13 = .ok (.goto 5, 3) := by decide +kernel
theorem dX6_counted_16 : decode cX6_counted 16 = .ok (.bipush 8, 2) := by decide +kernel
theorem dX6_counted_18 : decode cX6_counted 18 = .ok (.if_icmp .ge 59, 3) := by decide +kernel
theorem dX6_counted_21 : decode cX6_counted 21 = .ok (.iload_n 3, 1) := by decide +kernel
theorem dX6_counted_22 : decode cX6_counted 22 = .ok (.iload_n 2, 1) := by decide +kernel
theorem dX6_counted_23 : decode cX6_counted 23 = .ok (.ifCond .eq 22, 3) := by decide +kernel
theorem dX6_counted_26 : decode cX6_counted 26 = .ok (.aload_n 0, 1) := by decide +kernel
theorem dX6_counted_27 : decode cX6_counted 27 = .ok (.getfield 7, 3) := by decide +kernel
theorem dX6_counted_30 : decode cX6_counted 30 = .ok (.sipush 639, 3) := by decide +kernel
theorem dX6_counted_33 : decode cX6_counted 33 = .ok (.bipush 16, 2) := by decide +kernel
theorem dX6_counted_35 : decode cX6_counted 35 = .ok (.iload_n 1, 1) := by decide +kernel
theorem dX6_counted_36 : decode cX6_counted 36 = .ok (.imul, 1) := by decide +kernel
theorem dX6_counted_37 : decode cX6_counted 37 = .ok (.iadd, 1) := by decide +kernel
theorem dX6_counted_38 : decode cX6_counted 38 = .ok (.iload 4, 2) := by decide +kernel
theorem dX6_counted_40 : decode cX6_counted 40 = .ok (.iadd, 1) := by decide +kernel
theorem dX6_counted_41 : decode cX6_counted 41 = .ok (.iaload, 1) := by decide +kernel
theorem dX6_counted_42 : decode cX6_counted 42 = .ok (.goto 27, 3) := by decide +kernel
theorem dX6_counted_45 : decode cX6_counted 45 = .ok (.aload_n 0, 1) := by decide +kernel
theorem dX6_counted_46 : decode cX6_counted 46 = .ok (.getfield 7, 3) := by decide +kernel
theorem dX6_counted_49 : decode cX6_counted 49 = .ok (.sipush 767, 3) := by decide +kernel
theorem dX6_counted_52 : decode cX6_counted 52 = .ok (.bipush 8, 2) := by decide +kernel
theorem dX6_counted_54 : decode cX6_counted 54 = .ok (.iload_n 1, 1) := by decide +kernel
theorem dX6_counted_55 : decode cX6_counted 55 = .ok (.imul, 1) := by decide +kernel
theorem dX6_counted_56 : decode cX6_counted 56 = .ok (.iadd, 1) := by decide +kernel
theorem dX6_counted_57 : decode cX6_counted 57 = .ok (.iload 4, 2) := by decide +kernel
theorem dX6_counted_59 : decode cX6_counted 59 = .ok (.iadd, 1) := by decide +kernel
theorem dX6_counted_60 : decode cX6_counted 60 = .ok (.iaload, 1) := by decide +kernel
theorem dX6_counted_61 : decode cX6_counted 61 = .ok (.ifCond .le 7, 3) := by decide +kernel
theorem dX6_counted_64 : decode cX6_counted 64 = .ok (.iconst 1, 1) := by decide +kernel
theorem dX6_counted_65 : decode cX6_counted 65 = .ok (.goto 4, 3) := by decide +kernel
theorem dX6_counted_68 : decode cX6_counted 68 = .ok (.iconst 0, 1) := by decide +kernel
theorem dX6_counted_69 : decode cX6_counted 69 = .ok (.iadd, 1) := by decide +kernel
theorem dX6_counted_70 : decode cX6_counted 70 = .ok (.istore_n 3, 1) := by decide +kernel
theorem dX6_counted_71 : decode cX6_counted 71 = .ok (.iinc 4 1, 3) := by decide +kernel
theorem dX6_counted_74 : decode cX6_counted 74 = .ok (.goto (-69), 3) := by decide +kernel
theorem dX6_counted_77 : decode cX6_counted 77 = .ok (.iload_n 3, 1) := by decide +kernel
theorem dX6_counted_78 : decode cX6_counted 78 = .ok (.ireturn, 1) := by decide +kernel
theorem dX6_node_0 : decode cX6_node 0 = .ok (.aload_n 0, 1) := by decide +kernel
theorem dX6_node_1 : decode cX6_node 1 = .ok (.iload_n 1, 1) := by decide +kernel
theorem dX6_node_2 : decode cX6_node 2 = .ok (.invokevirtual 213, 3) := by decide +kernel
theorem dX6_node_5 : decode cX6_node 5 = .ok (.ifCond .ne 5, 3) := by decide +kernel
theorem dX6_node_8 : decode cX6_node 8 = .ok (.iconst (-1), 1) := by decide +kernel
theorem dX6_node_9 : decode cX6_node 9 = .ok (.ireturn, 1) := by decide +kernel
theorem dX6_node_10 : decode cX6_node 10 = .ok (.iload_n 2, 1) := by decide +kernel
theorem dX6_node_11 : decode cX6_node 11 = .ok (.tableswitch 72 0 4 #[33, 43, 50, 58, 65], 33) := by decide +kernel
theorem dX6_node_44 : decode cX6_node 44 = .ok (.aload_n 0, 1) := by decide +kernel
theorem dX6_node_45 : decode cX6_node 45 = .ok (.getfield 7, 3) := by decide +kernel
theorem dX6_node_48 : decode cX6_node 48 = .ok (.bipush 23, 2) := by decide +kernel
theorem dX6_node_50 : decode cX6_node 50 = .ok (.iload_n 1, 1) := by decide +kernel
theorem dX6_node_51 : decode cX6_node 51 = .ok (.iadd, 1) := by decide +kernel
theorem dX6_node_52 : decode cX6_node 52 = .ok (.iaload, 1) := by decide +kernel
theorem dX6_node_53 : decode cX6_node 53 = .ok (.ireturn, 1) := by decide +kernel
theorem dX6_node_54 : decode cX6_node 54 = .ok (.aload_n 0, 1) := by decide +kernel
theorem dX6_node_55 : decode cX6_node 55 = .ok (.iload_n 1, 1) := by decide +kernel
theorem dX6_node_56 : decode cX6_node 56 = .ok (.iconst 0, 1) := by decide +kernel
theorem dX6_node_57 : decode cX6_node 57 = .ok (.invokevirtual 122, 3) := by decide +kernel
theorem dX6_node_60 : decode cX6_node 60 = .ok (.ireturn, 1) := by decide +kernel
theorem dX6_node_61 : decode cX6_node 61 = .ok (.aload_n 0, 1) := by decide +kernel
theorem dX6_node_62 : decode cX6_node 62 = .ok (.iload_n 1, 1) := by decide +kernel
theorem dX6_node_63 : decode cX6_node 63 = .ok (.bipush (-4), 2) := by decide +kernel
theorem dX6_node_65 : decode cX6_node 65 = .ok (.invokevirtual 210, 3) := by decide +kernel
theorem dX6_node_68 : decode cX6_node 68 = .ok (.ireturn, 1) := by decide +kernel
theorem dX6_node_69 : decode cX6_node 69 = .ok (.aload_n 0, 1) := by decide +kernel
theorem dX6_node_70 : decode cX6_node 70 = .ok (.iload_n 1, 1) := by decide +kernel
theorem dX6_node_71 : decode cX6_node 71 = .ok (.iconst 1, 1) := by decide +kernel
theorem dX6_node_72 : decode cX6_node 72 = .ok (.invokevirtual 217, 3) := by decide +kernel
theorem dX6_node_75 : decode cX6_node 75 = .ok (.ireturn, 1) := by decide +kernel
theorem dX6_node_76 : decode cX6_node 76 = .ok (.aload_n 0, 1) := by decide +kernel
theorem dX6_node_77 : decode cX6_node 77 = .ok (.iload_n 1, 1) := by decide +kernel
theorem dX6_node_78 : decode cX6_node 78 = .ok (.iconst 0, 1) := by decide +kernel
theorem dX6_node_79 : decode cX6_node 79 = .ok (.invokevirtual 217, 3) := by decide +kernel
theorem dX6_node_82 : decode cX6_node 82 = .ok (.ireturn, 1) := by decide +kernel
theorem dX6_node_83 : decode cX6_node 83 = .ok (.iconst (-1), 1) := by decide +kernel
theorem dX6_node_84 : decode cX6_node 84 = .ok (.ireturn, 1) := by decide +kernel
theorem dX6_nextTime_0 : decode cX6_nextTime 0 = .ok (.aload_n 0, 1) := by decide +kernel
theorem dX6_nextTime_1 : decode cX6_nextTime 1 = .ok (.iload_n 1, 1) := by decide +kernel
theorem dX6_nextTime_2 : decode cX6_nextTime 2 = .ok (.iconst 0, 1) := by decide +kernel
theorem dX6_nextTime_3 : decode cX6_nextTime 3 = .ok (.invokevirtual 196, 3) := by decide +kernel
theorem dX6_nextTime_6 : decode cX6_nextTime 6 = .ok (.istore_n 2, 1) := by decide +kernel
theorem dX6_nextTime_7 : decode cX6_nextTime 7 = .ok (.aload_n 0, 1) := by decide +kernel
theorem dX6_nextTime_8 : decode cX6_nextTime 8 = .ok (.getfield 7, 3) := by decide +kernel
theorem dX6_nextTime_11 : decode cX6_nextTime 11 = .ok (.iconst 3, 1) := by decide +kernel
theorem dX6_nextTime_12 : decode cX6_nextTime 12 = .ok (.iaload, 1) := by decide +kernel
theorem dX6_nextTime_13 : decode cX6_nextTime 13 = .ok (.iload_n 2, 1) := by decide +kernel
theorem dX6_nextTime_14 : decode cX6_nextTime 14 = .ok (.if_icmp .ge 5, 3) := by decide +kernel
theorem dX6_nextTime_17 : decode cX6_nextTime 17 = .ok (.iload_n 2, 1) := by decide +kernel
theorem dX6_nextTime_18 : decode cX6_nextTime 18 = .ok (.ireturn, 1) := by decide +kernel
theorem dX6_nextTime_19 : decode cX6_nextTime 19 = .ok (.aload_n 0, 1) := by decide +kernel
theorem dX6_nextTime_20 : decode cX6_nextTime 20 = .ok (.getfield 7, 3) := by decide +kernel
theorem dX6_nextTime_23 : decode cX6_nextTime 23 = .ok (.iconst 4, 1) := by decide +kernel
theorem dX6_nextTime_24 : decode cX6_nextTime 24 = .ok (.iaload, 1) := by decide +kernel
theorem dX6_nextTime_25 : decode cX6_nextTime 25 = .ok (.ifCond .ne 8, 3) := by decide +kernel
theorem dX6_nextTime_28 : decode cX6_nextTime 28 = .ok (.bipush (-4), 2) := by decide +kernel
theorem dX6_nextTime_30 : decode cX6_nextTime 30 = .ok (.goto 29, 3) := by decide +kernel
theorem dX6_nextTime_33 : decode cX6_nextTime 33 = .ok (.iload_n 2, 1) := by decide +kernel
theorem dX6_nextTime_34 : decode cX6_nextTime 34 = .ok (.aload_n 0, 1) := by decide +kernel
theorem dX6_nextTime_35 : decode cX6_nextTime 35 = .ok (.getfield 7, 3) := by decide +kernel
theorem dX6_nextTime_38 : decode cX6_nextTime 38 = .ok (.iconst 3, 1) := by decide +kernel
theorem dX6_nextTime_39 : decode cX6_nextTime 39 = .ok (.iaload, 1) := by decide +kernel
theorem dX6_nextTime_40 : decode cX6_nextTime 40 = .ok (.iload_n 2, 1) := by decide +kernel
theorem dX6_nextTime_41 : decode cX6_nextTime 41 = .ok (.isub, 1) := by decide +kernel
theorem dX6_nextTime_42 : decode cX6_nextTime 42 = .ok (.aload_n 0, 1) := by decide +kernel
theorem dX6_nextTime_43 : decode cX6_nextTime 43 = .ok (.getfield 7, 3) := by decide +kernel
theorem dX6_nextTime_46 : decode cX6_nextTime 46 = .ok (.iconst 4, 1) := by decide +kernel
theorem dX6_nextTime_47 : decode cX6_nextTime 47 = .ok (.iaload, 1) := by decide +kernel
theorem dX6_nextTime_48 : decode cX6_nextTime 48 = .ok (.idiv, 1) := by decide +kernel
theorem dX6_nextTime_49 : decode cX6_nextTime 49 = .ok (.iconst 1, 1) := by decide +kernel
theorem dX6_nextTime_50 : decode cX6_nextTime 50 = .ok (.iadd, 1) := by decide +kernel
theorem dX6_nextTime_51 : decode cX6_nextTime 51 = .ok (.aload_n 0, 1) := by decide +kernel
theorem dX6_nextTime_52 : decode cX6_nextTime 52 = .ok (.getfield 7, 3) := by decide +kernel
theorem dX6_nextTime_55 : decode cX6_nextTime 55 = .ok (.iconst 4, 1) := by decide +kernel
theorem dX6_nextTime_56 : decode cX6_nextTime 56 = .ok (.iaload, 1) := by decide +kernel
theorem dX6_nextTime_57 : decode cX6_nextTime 57 = .ok (.imul, 1) := by decide +kernel
theorem dX6_nextTime_58 : decode cX6_nextTime 58 = .ok (.iadd, 1) := by decide +kernel
theorem dX6_nextTime_59 : decode cX6_nextTime 59 = .ok (.ireturn, 1) := by decide +kernel
theorem dX6_meeting_0 : decode cX6_meeting 0 = .ok (.iload_n 1, 1) := by decide +kernel
theorem dX6_meeting_1 : decode cX6_meeting 1 = .ok (.i2l, 1) := by decide +kernel
theorem dX6_meeting_2 : decode cX6_meeting 2 = .ok (.lconst 0, 1) := by decide +kernel
theorem dX6_meeting_3 : decode cX6_meeting 3 = .ok (.aload_n 0, 1) := by decide +kernel
theorem dX6_meeting_4 : decode cX6_meeting 4 = .ok (.getfield 7, 3) := by decide +kernel
theorem dX6_meeting_7 : decode cX6_meeting 7 = .ok (.iconst 1, 1) := by decide +kernel
theorem dX6_meeting_8 : decode cX6_meeting 8 = .ok (.iaload, 1) := by decide +kernel
theorem dX6_meeting_9 : decode cX6_meeting 9 = .ok (.iconst 1, 1) := by decide +kernel
theorem dX6_meeting_10 : decode cX6_meeting 10 = .ok (.isub, 1) := by decide +kernel
theorem dX6_meeting_11 : decode cX6_meeting 11 = .ok (.i2l, 1) := by decide +kernel
theorem dX6_meeting_12 : decode cX6_meeting 12 = .ok (.invokestatic 40, 3) := by decide +kernel
theorem dX6_meeting_15 : decode cX6_meeting 15 = .ok (.ifCond .eq 15, 3) := by decide +kernel
theorem dX6_meeting_18 : decode cX6_meeting 18 = .ok (.iload_n 2, 1) := by decide +kernel
theorem dX6_meeting_19 : decode cX6_meeting 19 = .ok (.i2l, 1) := by decide +kernel
theorem dX6_meeting_20 : decode cX6_meeting 20 = .ok (.lconst 0, 1) := by decide +kernel
theorem dX6_meeting_21 : decode cX6_meeting 21 = .ok (.ldc2_w 107, 3) := by decide +kernel
theorem dX6_meeting_24 : decode cX6_meeting 24 = .ok (.invokestatic 40, 3) := by decide +kernel
theorem dX6_meeting_27 : decode cX6_meeting 27 = .ok (.ifCond .ne 5, 3) := by decide +kernel
theorem dX6_meeting_30 : decode cX6_meeting 30 = .ok (.iconst (-1), 1) := by decide +kernel
theorem dX6_meeting_31 : decode cX6_meeting 31 = .ok (.ireturn, 1) := by decide +kernel
theorem dX6_meeting_32 : decode cX6_meeting 32 = .ok (.iload_n 2, 1) := by decide +kernel
theorem dX6_meeting_33 : decode cX6_meeting 33 = .ok (.iconst 4, 1) := by decide +kernel
theorem dX6_meeting_34 : decode cX6_meeting 34 = .ok (.if_icmp .ge 12, 3) := by decide +kernel
theorem dX6_meeting_37 : decode cX6_meeting 37 = .ok (.aload_n 0, 1) := by decide +kernel
theorem dX6_meeting_38 : decode cX6_meeting 38 = .ok (.iload_n 1, 1) := by decide +kernel
theorem dX6_meeting_39 : decode cX6_meeting 39 = .ok (.iload_n 2, 1) := by decide +kernel
theorem dX6_meeting_40 : decode cX6_meeting 40 = .ok (.invokevirtual 196, 3) := by decide +kernel
theorem dX6_meeting_43 : decode cX6_meeting 43 = .ok (.goto 8, 3) := by decide +kernel
theorem dX6_meeting_46 : decode cX6_meeting 46 = .ok (.aload_n 0, 1) := by decide +kernel
theorem dX6_meeting_47 : decode cX6_meeting 47 = .ok (.iload_n 1, 1) := by decide +kernel
theorem dX6_meeting_48 : decode cX6_meeting 48 = .ok (.invokevirtual 220, 3) := by decide +kernel
theorem dX6_meeting_51 : decode cX6_meeting 51 = .ok (.ireturn, 1) := by decide +kernel
theorem dX6_tokensOfAll_0 : decode cX6_tokensOfAll 0 = .ok (.iconst 0, 1) := by decide +kernel
theorem dX6_tokensOfAll_1 : decode cX6_tokensOfAll 1 = .ok (.istore_n 2, 1) := by decide +kernel
theorem dX6_tokensOfAll_2 : decode cX6_tokensOfAll 2 = .ok (.iconst 0, 1) := by decide +kernel
theorem dX6_tokensOfAll_3 : decode cX6_tokensOfAll 3 = .ok (.istore_n 3, 1) := by decide +kernel
theorem dX6_tokensOfAll_4 : decode cX6_tokensOfAll 4 = .ok (.iload_n 3, 1) := by decide +kernel
theorem dX6_tokensOfAll_5 : decode cX6_tokensOfAll 5 = .ok (.aload_n 0, 1) := by decide +kernel
theorem dX6_tokensOfAll_6 : decode cX6_tokensOfAll 6 = .ok (.getfield 7, 3) := by decide +kernel
theorem dX6_tokensOfAll_9 : decode cX6_tokensOfAll 9 = .ok (.iconst 0, 1) := by decide +kernel
theorem dX6_tokensOfAll_10 : decode cX6_tokensOfAll 10 = .ok (.iaload, 1) := by decide +kernel
theorem dX6_tokensOfAll_11 : decode cX6_tokensOfAll 11 = .ok (.if_icmp .ge 18, 3) := by decide +kernel
theorem dX6_tokensOfAll_14 : decode cX6_tokensOfAll 14 = .ok (.iload_n 2, 1) := by decide +kernel
theorem dX6_tokensOfAll_15 : decode cX6_tokensOfAll 15 = .ok (.aload_n 0, 1) := by decide +kernel
theorem dX6_tokensOfAll_16 : decode cX6_tokensOfAll 16 = .ok (.iload_n 3, 1) := by decide +kernel
theorem dX6_tokensOfAll_17 : decode cX6_tokensOfAll 17 = .ok (.iload_n 1, 1) := by decide +kernel
theorem dX6_tokensOfAll_18 : decode cX6_tokensOfAll 18 = .ok (.invokevirtual 153, 3) := by decide +kernel
theorem dX6_tokensOfAll_21 : decode cX6_tokensOfAll 21 = .ok (.iadd, 1) := by decide +kernel
theorem dX6_tokensOfAll_22 : decode cX6_tokensOfAll 22 = .ok (.istore_n 2, 1) := by decide +kernel
theorem dX6_tokensOfAll_23 : decode cX6_tokensOfAll 23 = .ok (.iinc 3 1, 3) := by decide +kernel
theorem dX6_tokensOfAll_26 : decode cX6_tokensOfAll 26 = .ok (.goto (-22), 3) := by decide +kernel
theorem dX6_tokensOfAll_29 : decode cX6_tokensOfAll 29 = .ok (.iload_n 2, 1) := by decide +kernel
theorem dX6_tokensOfAll_30 : decode cX6_tokensOfAll 30 = .ok (.ireturn, 1) := by decide +kernel
theorem dX6_isWhat_0 : decode cX6_isWhat 0 = .ok (.aload_n 0, 1) := by decide +kernel
theorem dX6_isWhat_1 : decode cX6_isWhat 1 = .ok (.iload_n 1, 1) := by decide +kernel
theorem dX6_isWhat_2 : decode cX6_isWhat 2 = .ok (.iconst 0, 1) := by decide +kernel
theorem dX6_isWhat_3 : decode cX6_isWhat 3 = .ok (.invokevirtual 119, 3) := by decide +kernel
theorem dX6_isWhat_6 : decode cX6_isWhat 6 = .ok (.aload_n 0, 1) := by decide +kernel
theorem dX6_isWhat_7 : decode cX6_isWhat 7 = .ok (.getfield 7, 3) := by decide +kernel
theorem dX6_isWhat_10 : decode cX6_isWhat 10 = .ok (.iconst 3, 1) := by decide +kernel
theorem dX6_isWhat_11 : decode cX6_isWhat 11 = .ok (.iaload, 1) := by decide +kernel
theorem dX6_isWhat_12 : decode cX6_isWhat 12 = .ok (.if_icmp .le 5, 3) := by decide +kernel
theorem dX6_isWhat_15 : decode cX6_isWhat 15 = .ok (.iconst 0, 1) := by decide +kernel
theorem dX6_isWhat_16 : decode cX6_isWhat 16 = .ok (.ireturn, 1) := by decide +kernel
theorem dX6_isWhat_17 : decode cX6_isWhat 17 = .ok (.aload_n 0, 1) := by decide +kernel
theorem dX6_isWhat_18 : decode cX6_isWhat 18 = .ok (.iload_n 1, 1) := by decide +kernel
theorem dX6_isWhat_19 : decode cX6_isWhat 19 = .ok (.bipush 6, 2) := by decide +kernel
theorem dX6_isWhat_21 : decode cX6_isWhat 21 = .ok (.invokevirtual 119, 3) := by decide +kernel
theorem dX6_isWhat_24 : decode cX6_isWhat 24 = .ok (.bipush (-4), 2) := by decide +kernel
theorem dX6_isWhat_26 : decode cX6_isWhat 26 = .ok (.if_icmp .eq 7, 3) := by decide +kernel
theorem dX6_isWhat_29 : decode cX6_isWhat 29 = .ok (.iconst 2, 1) := by decide +kernel
theorem dX6_isWhat_30 : decode cX6_isWhat 30 = .ok (.goto 18, 3) := by decide +kernel
theorem dX6_isWhat_33 : decode cX6_isWhat 33 = .ok (.aload_n 0, 1) := by decide +kernel
theorem dX6_isWhat_34 : decode cX6_isWhat 34 = .ok (.bipush (-4), 2) := by decide +kernel
theorem dX6_isWhat_36 : decode cX6_isWhat 36 = .ok (.iload_n 1, 1) := by decide +kernel
theorem dX6_isWhat_37 : decode cX6_isWhat 37 = .ok (.invokevirtual 210, 3) := by decide +kernel
theorem dX6_isWhat_40 : decode cX6_isWhat 40 = .ok (.ifCond .le 7, 3) := by decide +kernel
theorem dX6_isWhat_43 : decode cX6_isWhat 43 = .ok (.iconst 1, 1) := by decide +kernel
theorem dX6_isWhat_44 : decode cX6_isWhat 44 = .ok (.goto 4, 3) := by decide +kernel
theorem dX6_isWhat_47 : decode cX6_isWhat 47 = .ok (.iconst 3, 1) := by decide +kernel
theorem dX6_isWhat_48 : decode cX6_isWhat 48 = .ok (.ireturn, 1) := by decide +kernel
theorem dX6_letter_0 : decode cX6_letter 0 = .ok (.aload_n 0, 1) := by decide +kernel
theorem dX6_letter_1 : decode cX6_letter 1 = .ok (.iload_n 1, 1) := by decide +kernel
theorem dX6_letter_2 : decode cX6_letter 2 = .ok (.invokevirtual 223, 3) := by decide +kernel
theorem dX6_letter_5 : decode cX6_letter 5 = .ok (.ifCond .eq 15, 3) := by decide +kernel
theorem dX6_letter_8 : decode cX6_letter 8 = .ok (.iload_n 2, 1) := by decide +kernel
theorem dX6_letter_9 : decode cX6_letter 9 = .ok (.i2l, 1) := by decide +kernel
theorem dX6_letter_10 : decode cX6_letter 10 = .ok (.lconst 0, 1) := by decide +kernel
theorem dX6_letter_11 : decode cX6_letter 11 = .ok (.ldc2_w 226, 3) := by decide +kernel
theorem dX6_letter_14 : decode cX6_letter 14 = .ok (.invokestatic 40, 3) := by decide +kernel
theorem dX6_letter_17 : decode cX6_letter 17 = .ok (.ifCond .ne 5, 3) := by decide +kernel
theorem dX6_letter_20 : decode cX6_letter 20 = .ok (.iconst (-1), 1) := by decide +kernel
theorem dX6_letter_21 : decode cX6_letter 21 = .ok (.ireturn, 1) := by decide +kernel
theorem dX6_letter_22 : decode cX6_letter 22 = .ok (.iload_n 2, 1) := by decide +kernel
theorem dX6_letter_23 : decode cX6_letter 23 = .ok (.tableswitch 62 6 10 #[33, 39, 39, 48, 56], 33) := by decide +kernel
theorem dX6_letter_56 : decode cX6_letter 56 = .ok (.aload_n 0, 1) := by decide +kernel
theorem dX6_letter_57 : decode cX6_letter 57 = .ok (.iload_n 1, 1) := by decide +kernel
theorem dX6_letter_58 : decode cX6_letter 58 = .ok (.invokevirtual 228, 3) := by decide +kernel
theorem dX6_letter_61 : decode cX6_letter 61 = .ok (.ireturn, 1) := by decide +kernel
theorem dX6_letter_62 : decode cX6_letter 62 = .ok (.aload_n 0, 1) := by decide +kernel
theorem dX6_letter_63 : decode cX6_letter 63 = .ok (.iload_n 1, 1) := by decide +kernel
theorem dX6_letter_64 : decode cX6_letter 64 = .ok (.iload_n 2, 1) := by decide +kernel
theorem dX6_letter_65 : decode cX6_letter 65 = .ok (.iconst 1, 1) := by decide +kernel
theorem dX6_letter_66 : decode cX6_letter 66 = .ok (.isub, 1) := by decide +kernel
theorem dX6_letter_67 : decode cX6_letter 67 = .ok (.invokevirtual 119, 3) := by decide +kernel
theorem dX6_letter_70 : decode cX6_letter 70 = .ok (.ireturn, 1) := by decide +kernel
theorem dX6_letter_71 : decode cX6_letter 71 = .ok (.aload_n 0, 1) := by decide +kernel
theorem dX6_letter_72 : decode cX6_letter 72 = .ok (.bipush (-4), 2) := by decide +kernel
theorem dX6_letter_74 : decode cX6_letter 74 = .ok (.iload_n 1, 1) := by decide +kernel
theorem dX6_letter_75 : decode cX6_letter 75 = .ok (.invokevirtual 210, 3) := by decide +kernel
theorem dX6_letter_78 : decode cX6_letter 78 = .ok (.ireturn, 1) := by decide +kernel
theorem dX6_letter_79 : decode cX6_letter 79 = .ok (.aload_n 0, 1) := by decide +kernel
theorem dX6_letter_80 : decode cX6_letter 80 = .ok (.iload_n 1, 1) := by decide +kernel
theorem dX6_letter_81 : decode cX6_letter 81 = .ok (.invokevirtual 231, 3) := by decide +kernel
theorem dX6_letter_84 : decode cX6_letter 84 = .ok (.ireturn, 1) := by decide +kernel
theorem dX6_letter_85 : decode cX6_letter 85 = .ok (.aload_n 0, 1) := by decide +kernel
theorem dX6_letter_86 : decode cX6_letter 86 = .ok (.iload_n 1, 1) := by decide +kernel
theorem dX6_letter_87 : decode cX6_letter 87 = .ok (.iload_n 2, 1) := by decide +kernel
theorem dX6_letter_88 : decode cX6_letter 88 = .ok (.invokevirtual 119, 3) := by decide +kernel
theorem dX6_letter_91 : decode cX6_letter 91 = .ok (.ireturn, 1) := by decide +kernel
theorem dX6_aheadOf_0 : decode cX6_aheadOf 0 = .ok (.iconst 0, 1) := by decide +kernel
theorem dX6_aheadOf_1 : decode cX6_aheadOf 1 = .ok (.istore_n 3, 1) := by decide +kernel
theorem dX6_aheadOf_2 : decode cX6_aheadOf 2 = .ok (.iconst 0, 1) := by decide +kernel
theorem dX6_aheadOf_3 : decode cX6_aheadOf 3 = .ok (.istore 4, 2) := by decide +kernel
theorem dX6_aheadOf_5 : decode cX6_aheadOf 5 = .ok (.iload 4, 2) := by decide +kernel
theorem dX6_aheadOf_7 : decode cX6_aheadOf 7 = .ok (.aload_n 0, 1) := by decide +kernel
theorem dX6_aheadOf_8 : decode cX6_aheadOf 8 = .ok (.getfield 7, 3) := by decide +kernel
theorem dX6_aheadOf_11 : decode cX6_aheadOf 11 = .ok (.iconst 2, 1) := by decide +kernel
theorem dX6_aheadOf_12 : decode cX6_aheadOf 12 = .ok (.iaload, 1) := by decide +kernel
theorem dX6_aheadOf_13 : decode cX6_aheadOf 13 = .ok (.if_icmp .ge 65, 3) := by decide +kernel
theorem dX6_aheadOf_16 : decode cX6_aheadOf 16 = .ok (.iload_n 3, 1) := by decide +kernel
theorem dX6_aheadOf_17 : decode cX6_aheadOf 17 = .ok (.aload_n 0, 1) := by decide +kernel
theorem dX6_aheadOf_18 : decode cX6_aheadOf 18 = .ok (.iload_n 1, 1) := by decide +kernel
theorem dX6_aheadOf_19 : decode cX6_aheadOf 19 = .ok (.iload 4, 2) := by decide +kernel
theorem dX6_aheadOf_21 : decode cX6_aheadOf 21 = .ok (.invokevirtual 115, 3) := by decide +kernel
theorem dX6_aheadOf_24 : decode cX6_aheadOf 24 = .ok (.ifCond .eq 45, 3) := by decide +kernel
theorem dX6_aheadOf_27 : decode cX6_aheadOf 27 = .ok (.aload_n 0, 1) := by decide +kernel
theorem dX6_aheadOf_28 : decode cX6_aheadOf 28 = .ok (.iload_n 1, 1) := by decide +kernel
theorem dX6_aheadOf_29 : decode cX6_aheadOf 29 = .ok (.iload 4, 2) := by decide +kernel
theorem dX6_aheadOf_31 : decode cX6_aheadOf 31 = .ok (.invokevirtual 159, 3) := by decide +kernel
theorem dX6_aheadOf_34 : decode cX6_aheadOf 34 = .ok (.aload_n 0, 1) := by decide +kernel
theorem dX6_aheadOf_35 : decode cX6_aheadOf 35 = .ok (.iload_n 1, 1) := by decide +kernel
theorem dX6_aheadOf_36 : decode cX6_aheadOf 36 = .ok (.iload_n 2, 1) := by decide +kernel
theorem dX6_aheadOf_37 : decode cX6_aheadOf 37 = .ok (.invokevirtual 159, 3) := by decide +kernel
theorem dX6_aheadOf_40 : decode cX6_aheadOf 40 = .ok (.if_icmp .lt 25, 3) := by decide +kernel
theorem dX6_aheadOf_43 : decode cX6_aheadOf 43 = .ok (.aload_n 0, 1) := by decide +kernel
theorem dX6_aheadOf_44 : decode cX6_aheadOf 44 = .ok (.iload_n 1, 1) := by decide +kernel
theorem dX6_aheadOf_45 : decode cX6_aheadOf 45 = .ok (.iload 4, 2) := by decide +kernel
theorem dX6_aheadOf_47 : decode cX6_aheadOf 47 = .ok (.invokevirtual 159, 3) := by decide +kernel
theorem dX6_aheadOf_50 : decode cX6_aheadOf 50 = .ok (.aload_n 0, 1) := by decide +kernel
theorem dX6_aheadOf_51 : decode cX6_aheadOf 51 = .ok (.iload_n 1, 1) := by decide +kernel
theorem dX6_aheadOf_52 : decode cX6_aheadOf 52 = .ok (.iload_n 2, 1) := by decide +kernel
theorem dX6_aheadOf_53 : decode cX6_aheadOf 53 = .ok (.invokevirtual 159, 3) := by decide +kernel
theorem dX6_aheadOf_56 : decode cX6_aheadOf 56 = .ok (.if_icmp .ne 13, 3) := by decide +kernel
theorem dX6_aheadOf_59 : decode cX6_aheadOf 59 = .ok (.iload 4, 2) := by decide +kernel
theorem dX6_aheadOf_61 : decode cX6_aheadOf 61 = .ok (.iload_n 2, 1) := by decide +kernel
theorem dX6_aheadOf_62 : decode cX6_aheadOf 62 = .ok (.if_icmp .ge 7, 3) := by decide +kernel
theorem dX6_aheadOf_65 : decode cX6_aheadOf 65 = .ok (.iconst 1, 1) := by decide +kernel
theorem dX6_aheadOf_66 : decode cX6_aheadOf 66 = .ok (.goto 4, 3) := by decide +kernel
theorem dX6_aheadOf_69 : decode cX6_aheadOf 69 = .ok (.iconst 0, 1) := by decide +kernel
theorem dX6_aheadOf_70 : decode cX6_aheadOf 70 = .ok (.iadd, 1) := by decide +kernel
theorem dX6_aheadOf_71 : decode cX6_aheadOf 71 = .ok (.istore_n 3, 1) := by decide +kernel
theorem dX6_aheadOf_72 : decode cX6_aheadOf 72 = .ok (.iinc 4 1, 3) := by decide +kernel
theorem dX6_aheadOf_75 : decode cX6_aheadOf 75 = .ok (.goto (-70), 3) := by decide +kernel
theorem dX6_aheadOf_78 : decode cX6_aheadOf 78 = .ok (.iload_n 3, 1) := by decide +kernel
theorem dX6_aheadOf_79 : decode cX6_aheadOf 79 = .ok (.ireturn, 1) := by decide +kernel
theorem dX6_copy_0 : decode cX6_copy 0 = .ok (.aload_n 0, 1) := by decide +kernel
theorem dX6_copy_1 : decode cX6_copy 1 = .ok (.iload_n 1, 1) := by decide +kernel
theorem dX6_copy_2 : decode cX6_copy 2 = .ok (.invokevirtual 213, 3) := by decide +kernel
theorem dX6_copy_5 : decode cX6_copy 5 = .ok (.ifCond .eq 19, 3) := by decide +kernel
theorem dX6_copy_8 : decode cX6_copy 8 = .ok (.iload_n 2, 1) := by decide +kernel
theorem dX6_copy_9 : decode cX6_copy 9 = .ok (.ifCond .lt 15, 3) := by decide +kernel
theorem dX6_copy_12 : decode cX6_copy 12 = .ok (.iload_n 3, 1) := by decide +kernel
theorem dX6_copy_13 : decode cX6_copy 13 = .ok (.i2l, 1) := by decide +kernel
theorem dX6_copy_14 : decode cX6_copy 14 = .ok (.lconst 0, 1) := by decide +kernel
theorem dX6_copy_15 : decode cX6_copy 15 = .ok (.ldc2_w 234, 3) := by decide +kernel
theorem dX6_copy_18 : decode cX6_copy 18 = .ok (.invokestatic 40, 3) := by decide +kernel
theorem dX6_copy_21 : decode cX6_copy 21 = .ok (.ifCond .ne 5, 3) := by decide +kernel
theorem dX6_copy_24 : decode cX6_copy 24 = .ok (.iconst (-1), 1) := by decide +kernel
theorem dX6_copy_25 : decode cX6_copy 25 = .ok (.ireturn, 1) := by decide +kernel
theorem dX6_copy_26 : decode cX6_copy 26 = .ok (.iconst 0, 1) := by decide +kernel
theorem dX6_copy_27 : decode cX6_copy 27 = .ok (.istore 4, 2) := by decide +kernel
theorem dX6_copy_29 : decode cX6_copy 29 = .ok (.iload 4, 2) := by decide +kernel
theorem dX6_copy_31 : decode cX6_copy 31 = .ok (.aload_n 0, 1) := by decide +kernel
theorem dX6_copy_32 : decode cX6_copy 32 = .ok (.getfield 7, 3) := by decide +kernel
theorem dX6_copy_35 : decode cX6_copy 35 = .ok (.iconst 2, 1) := by decide +kernel
theorem dX6_copy_36 : decode cX6_copy 36 = .ok (.iaload, 1) := by decide +kernel
theorem dX6_copy_37 : decode cX6_copy 37 = .ok (.if_icmp .ge 56, 3) := by decide +kernel
theorem dX6_copy_40 : decode cX6_copy 40 = .ok (.aload_n 0, 1) := by decide +kernel
theorem dX6_copy_41 : decode cX6_copy 41 = .ok (.iload_n 1, 1) := by decide +kernel
theorem dX6_copy_42 : decode cX6_copy 42 = .ok (.iload 4, 2) := by decide +kernel
theorem dX6_copy_44 : decode cX6_copy 44 = .ok (.invokevirtual 115, 3) := by decide +kernel
theorem dX6_copy_47 : decode cX6_copy 47 = .ok (.ifCond .eq 40, 3) := by decide +kernel
theorem dX6_copy_50 : decode cX6_copy 50 = .ok (.aload_n 0, 1) := by decide +kernel
theorem dX6_copy_51 : decode cX6_copy 51 = .ok (.iload_n 1, 1) := by decide +kernel
theorem dX6_copy_52 : decode cX6_copy 52 = .ok (.iload 4, 2) := by decide +kernel
theorem dX6_copy_54 : decode cX6_copy 54 = .ok (.invokevirtual 236, 3) := by decide +kernel
theorem dX6_copy_57 : decode cX6_copy 57 = .ok (.iload_n 2, 1) := by decide +kernel
theorem dX6_copy_58 : decode cX6_copy 58 = .ok (.if_icmp .ne 29, 3) := by decide +kernel
theorem dX6_copy_61 : decode cX6_copy 61 = .ok (.iload_n 3, 1) := by decide +kernel
theorem dX6_copy_62 : decode cX6_copy 62 = .ok (.ifCond .ne 8, 3) := by decide +kernel
theorem dX6_copy_65 : decode cX6_copy 65 = .ok (.iload 4, 2) := by decide +kernel
theorem dX6_copy_67 : decode cX6_copy 67 = .ok (.goto 19, 3) := by decide +kernel
theorem dX6_copy_70 : decode cX6_copy 70 = .ok (.aload_n 0, 1) := by decide +kernel
theorem dX6_copy_71 : decode cX6_copy 71 = .ok (.getfield 7, 3) := by decide +kernel
theorem dX6_copy_74 : decode cX6_copy 74 = .ok (.aload_n 0, 1) := by decide +kernel
theorem dX6_copy_75 : decode cX6_copy 75 = .ok (.iload_n 1, 1) := by decide +kernel
theorem dX6_copy_76 : decode cX6_copy 76 = .ok (.iload 4, 2) := by decide +kernel
theorem dX6_copy_78 : decode cX6_copy 78 = .ok (.invokevirtual 112, 3) := by decide +kernel
theorem dX6_copy_81 : decode cX6_copy 81 = .ok (.iload_n 3, 1) := by decide +kernel
theorem dX6_copy_82 : decode cX6_copy 82 = .ok (.iadd, 1) := by decide +kernel
theorem dX6_copy_83 : decode cX6_copy 83 = .ok (.iconst 1, 1) := by decide +kernel
theorem dX6_copy_84 : decode cX6_copy 84 = .ok (.isub, 1) := by decide +kernel
theorem dX6_copy_85 : decode cX6_copy 85 = .ok (.iaload, 1) := by decide +kernel
theorem dX6_copy_86 : decode cX6_copy 86 = .ok (.ireturn, 1) := by decide +kernel
theorem dX6_copy_87 : decode cX6_copy 87 = .ok (.iinc 4 1, 3) := by decide +kernel
theorem dX6_copy_90 : decode cX6_copy 90 = .ok (.goto (-61), 3) := by decide +kernel
theorem dX6_copy_93 : decode cX6_copy 93 = .ok (.bipush (-4), 2) := by decide +kernel
theorem dX6_copy_95 : decode cX6_copy 95 = .ok (.ireturn, 1) := by decide +kernel
theorem dX6_note_0 : decode cX6_note 0 = .ok (.aload_n 0, 1) := by decide +kernel
theorem dX6_note_1 : decode cX6_note 1 = .ok (.iload_n 1, 1) := by decide +kernel
theorem dX6_note_2 : decode cX6_note 2 = .ok (.invokevirtual 213, 3) := by decide +kernel
theorem dX6_note_5 : decode cX6_note 5 = .ok (.ifCond .eq 29, 3) := by decide +kernel
theorem dX6_note_8 : decode cX6_note 8 = .ok (.aload_n 0, 1) := by decide +kernel
theorem dX6_note_9 : decode cX6_note 9 = .ok (.iload_n 2, 1) := by decide +kernel
theorem dX6_note_10 : decode cX6_note 10 = .ok (.invokevirtual 223, 3) := by decide +kernel
theorem dX6_note_13 : decode cX6_note 13 = .ok (.ifCond .eq 21, 3) := by decide +kernel
theorem dX6_note_16 : decode cX6_note 16 = .ok (.aload_n 0, 1) := by decide +kernel
theorem dX6_note_17 : decode cX6_note 17 = .ok (.getfield 7, 3) := by decide +kernel
theorem dX6_note_20 : decode cX6_note 20 = .ok (.sipush 639, 3) := by decide +kernel
theorem dX6_note_23 : decode cX6_note 23 = .ok (.bipush 16, 2) := by decide +kernel
theorem dX6_note_25 : decode cX6_note 25 = .ok (.iload_n 1, 1) := by decide +kernel
theorem dX6_note_26 : decode cX6_note 26 = .ok (.imul, 1) := by decide +kernel
theorem dX6_note_27 : decode cX6_note 27 = .ok (.iadd, 1) := by decide +kernel
theorem dX6_note_28 : decode cX6_note 28 = .ok (.iload_n 2, 1) := by decide +kernel
theorem dX6_note_29 : decode cX6_note 29 = .ok (.iadd, 1) := by decide +kernel
theorem dX6_note_30 : decode cX6_note 30 = .ok (.iaload, 1) := by decide +kernel
theorem dX6_note_31 : decode cX6_note 31 = .ok (.goto 4, 3) := by decide +kernel
theorem dX6_note_34 : decode cX6_note 34 = .ok (.iconst (-1), 1) := by decide +kernel
theorem dX6_note_35 : decode cX6_note 35 = .ok (.ireturn, 1) := by decide +kernel
theorem dX6_last_0 : decode cX6_last 0 = .ok (.aload_n 0, 1) := by decide +kernel
theorem dX6_last_1 : decode cX6_last 1 = .ok (.iload_n 1, 1) := by decide +kernel
theorem dX6_last_2 : decode cX6_last 2 = .ok (.invokevirtual 213, 3) := by decide +kernel
theorem dX6_last_5 : decode cX6_last 5 = .ok (.ifCond .eq 16, 3) := by decide +kernel
theorem dX6_last_8 : decode cX6_last 8 = .ok (.aload_n 0, 1) := by decide +kernel
theorem dX6_last_9 : decode cX6_last 9 = .ok (.iload_n 2, 1) := by decide +kernel
theorem dX6_last_10 : decode cX6_last 10 = .ok (.invokevirtual 213, 3) := by decide +kernel
theorem dX6_last_13 : decode cX6_last 13 = .ok (.ifCond .eq 8, 3) := by decide +kernel
theorem dX6_last_16 : decode cX6_last 16 = .ok (.iload_n 1, 1) := by decide +kernel
theorem dX6_last_17 : decode cX6_last 17 = .ok (.iload_n 2, 1) := by decide +kernel
theorem dX6_last_18 : decode cX6_last 18 = .ok (.if_icmp .ne 5, 3) := by decide +kernel
theorem dX6_last_21 : decode cX6_last 21 = .ok (.iconst (-1), 1) := by decide +kernel
theorem dX6_last_22 : decode cX6_last 22 = .ok (.ireturn, 1) := by decide +kernel
theorem dX6_last_23 : decode cX6_last 23 = .ok (.aload_n 0, 1) := by decide +kernel
theorem dX6_last_24 : decode cX6_last 24 = .ok (.iload_n 1, 1) := by decide +kernel
theorem dX6_last_25 : decode cX6_last 25 = .ok (.iload_n 2, 1) := by decide +kernel
theorem dX6_last_26 : decode cX6_last 26 = .ok (.invokevirtual 156, 3) := by decide +kernel
theorem dX6_last_29 : decode cX6_last 29 = .ok (.ifCond .ge 8, 3) := by decide +kernel
theorem dX6_last_32 : decode cX6_last 32 = .ok (.bipush (-4), 2) := by decide +kernel
theorem dX6_last_34 : decode cX6_last 34 = .ok (.goto 9, 3) := by decide +kernel
theorem dX6_last_37 : decode cX6_last 37 = .ok (.aload_n 0, 1) := by decide +kernel
theorem dX6_last_38 : decode cX6_last 38 = .ok (.iload_n 1, 1) := by decide +kernel
theorem dX6_last_39 : decode cX6_last 39 = .ok (.iload_n 2, 1) := by decide +kernel
theorem dX6_last_40 : decode cX6_last 40 = .ok (.invokevirtual 156, 3) := by decide +kernel
theorem dX6_last_43 : decode cX6_last 43 = .ok (.ireturn, 1) := by decide +kernel
theorem dX6_soonest_0 : decode cX6_soonest 0 = .ok (.aload_n 0, 1) := by decide +kernel
theorem dX6_soonest_1 : decode cX6_soonest 1 = .ok (.iload_n 1, 1) := by decide +kernel
theorem dX6_soonest_2 : decode cX6_soonest 2 = .ok (.invokevirtual 223, 3) := by decide +kernel
theorem dX6_soonest_5 : decode cX6_soonest 5 = .ok (.ifCond .ne 5, 3) := by decide +kernel
theorem dX6_soonest_8 : decode cX6_soonest 8 = .ok (.iconst (-1), 1) := by decide +kernel
theorem dX6_soonest_9 : decode cX6_soonest 9 = .ok (.ireturn, 1) := by decide +kernel
theorem dX6_soonest_10 : decode cX6_soonest 10 = .ok (.iconst 0, 1) := by decide +kernel
theorem dX6_soonest_11 : decode cX6_soonest 11 = .ok (.istore_n 2, 1) := by decide +kernel
theorem dX6_soonest_12 : decode cX6_soonest 12 = .ok (.iload_n 2, 1) := by decide +kernel
theorem dX6_soonest_13 : decode cX6_soonest 13 = .ok (.bipush 8, 2) := by decide +kernel
theorem dX6_soonest_15 : decode cX6_soonest 15 = .ok (.if_icmp .ge 30, 3) := by decide +kernel
theorem dX6_soonest_18 : decode cX6_soonest 18 = .ok (.aload_n 0, 1) := by decide +kernel
theorem dX6_soonest_19 : decode cX6_soonest 19 = .ok (.getfield 35, 3) := by decide +kernel
theorem dX6_soonest_22 : decode cX6_soonest 22 = .ok (.iload_n 2, 1) := by decide +kernel
theorem dX6_soonest_23 : decode cX6_soonest 23 = .ok (.iload_n 2, 1) := by decide +kernel
theorem dX6_soonest_24 : decode cX6_soonest 24 = .ok (.aload_n 0, 1) := by decide +kernel
theorem dX6_soonest_25 : decode cX6_soonest 25 = .ok (.iload_n 1, 1) := by decide +kernel
theorem dX6_soonest_26 : decode cX6_soonest 26 = .ok (.iconst 1, 1) := by decide +kernel
theorem dX6_soonest_27 : decode cX6_soonest 27 = .ok (.invokevirtual 119, 3) := by decide +kernel
theorem dX6_soonest_30 : decode cX6_soonest 30 = .ok (.if_icmp .ne 7, 3) := by decide +kernel
theorem dX6_soonest_33 : decode cX6_soonest 33 = .ok (.iconst 1, 1) := by decide +kernel
theorem dX6_soonest_34 : decode cX6_soonest 34 = .ok (.goto 4, 3) := by decide +kernel
theorem dX6_soonest_37 : decode cX6_soonest 37 = .ok (.iconst 0, 1) := by decide +kernel
theorem dX6_soonest_38 : decode cX6_soonest 38 = .ok (.bastore, 1) := by decide +kernel
theorem dX6_soonest_39 : decode cX6_soonest 39 = .ok (.iinc 2 1, 3) := by decide +kernel
theorem dX6_soonest_42 : decode cX6_soonest 42 = .ok (.goto (-30), 3) := by decide +kernel
theorem dX6_soonest_45 : decode cX6_soonest 45 = .ok (.aload_n 0, 1) := by decide +kernel
theorem dX6_soonest_46 : decode cX6_soonest 46 = .ok (.iload_n 1, 1) := by decide +kernel
theorem dX6_soonest_47 : decode cX6_soonest 47 = .ok (.iconst 0, 1) := by decide +kernel
theorem dX6_soonest_48 : decode cX6_soonest 48 = .ok (.invokevirtual 119, 3) := by decide +kernel
theorem dX6_soonest_51 : decode cX6_soonest 51 = .ok (.istore_n 2, 1) := by decide +kernel
theorem dX6_soonest_52 : decode cX6_soonest 52 = .ok (.iload_n 2, 1) := by decide +kernel
theorem dX6_soonest_53 : decode cX6_soonest 53 = .ok (.aload_n 0, 1) := by decide +kernel
theorem dX6_soonest_54 : decode cX6_soonest 54 = .ok (.iload_n 1, 1) := by decide +kernel
theorem dX6_soonest_55 : decode cX6_soonest 55 = .ok (.invokevirtual 129, 3) := by decide +kernel
theorem dX6_soonest_58 : decode cX6_soonest 58 = .ok (.if_icmp .ge 104, 3) := by decide +kernel
theorem dX6_soonest_61 : decode cX6_soonest 61 = .ok (.iconst 0, 1) := by decide +kernel
theorem dX6_soonest_62 : decode cX6_soonest 62 = .ok (.istore_n 3, 1) := by decide +kernel
theorem dX6_soonest_63 : decode cX6_soonest 63 = .ok (.iload_n 3, 1) := by decide +kernel
theorem dX6_soonest_64 : decode cX6_soonest 64 = .ok (.aload_n 0, 1) := by decide +kernel
theorem dX6_soonest_65 : decode cX6_soonest 65 = .ok (.getfield 7, 3) := by decide +kernel
theorem dX6_soonest_68 : decode cX6_soonest 68 = .ok (.iconst 1, 1) := by decide +kernel
theorem dX6_soonest_69 : decode cX6_soonest 69 = .ok (.iaload, 1) := by decide +kernel
theorem dX6_soonest_70 : decode cX6_soonest 70 = .ok (.if_icmp .ge 70, 3) := by decide +kernel
theorem dX6_soonest_73 : decode cX6_soonest 73 = .ok (.aload_n 0, 1) := by decide +kernel
theorem dX6_soonest_74 : decode cX6_soonest 74 = .ok (.iload_n 3, 1) := by decide +kernel
theorem dX6_soonest_75 : decode cX6_soonest 75 = .ok (.iconst 1, 1) := by decide +kernel
theorem dX6_soonest_76 : decode cX6_soonest 76 = .ok (.invokevirtual 196, 3) := by decide +kernel
theorem dX6_soonest_79 : decode cX6_soonest 79 = .ok (.istore 4, 2) := by decide +kernel
theorem dX6_soonest_81 : decode cX6_soonest 81 = .ok (.aload_n 0, 1) := by decide +kernel
theorem dX6_soonest_82 : decode cX6_soonest 82 = .ok (.iload_n 3, 1) := by decide +kernel
theorem dX6_soonest_83 : decode cX6_soonest 83 = .ok (.iconst 2, 1) := by decide +kernel
theorem dX6_soonest_84 : decode cX6_soonest 84 = .ok (.invokevirtual 196, 3) := by decide +kernel
theorem dX6_soonest_87 : decode cX6_soonest 87 = .ok (.istore 5, 2) := by decide +kernel
theorem dX6_soonest_89 : decode cX6_soonest 89 = .ok (.aload_n 0, 1) := by decide +kernel
theorem dX6_soonest_90 : decode cX6_soonest 90 = .ok (.iload_n 3, 1) := by decide +kernel
theorem dX6_soonest_91 : decode cX6_soonest 91 = .ok (.iload_n 2, 1) := by decide +kernel
theorem dX6_soonest_92 : decode cX6_soonest 92 = .ok (.invokevirtual 202, 3) := by decide +kernel
theorem dX6_soonest_95 : decode cX6_soonest 95 = .ok (.ifCond .eq 39, 3) := by decide +kernel
theorem dX6_soonest_98 : decode cX6_soonest 98 = .ok (.aload_n 0, 1) := by decide +kernel
theorem dX6_soonest_99 : decode cX6_soonest 99 = .ok (.getfield 35, 3) := by decide +kernel
theorem dX6_soonest_102 : decode cX6_soonest 102 = .ok (.iload 4, 2) := by decide +kernel
theorem dX6_soonest_104 : decode cX6_soonest 104 = .ok (.baload, 1) := by decide +kernel
theorem dX6_soonest_105 : decode cX6_soonest 105 = .ok (.ifCond .ne 13, 3) := by decide +kernel
theorem dX6_soonest_108 : decode cX6_soonest 108 = .ok (.aload_n 0, 1) := by decide +kernel
theorem dX6_soonest_109 : decode cX6_soonest 109 = .ok (.getfield 35, 3) := by decide +kernel
theorem dX6_soonest_112 : decode cX6_soonest 112 = .ok (.iload 5, 2) := by decide +kernel
theorem dX6_soonest_114 : decode cX6_soonest 114 = .ok (.baload, 1) := by decide +kernel
theorem dX6_soonest_115 : decode cX6_soonest 115 = .ok (.ifCond .eq 19, 3) := by decide +kernel
theorem dX6_soonest_118 : decode cX6_soonest 118 = .ok (.aload_n 0, 1) := by decide +kernel
theorem dX6_soonest_119 : decode cX6_soonest 119 = .ok (.getfield 35, 3) := by decide +kernel
theorem dX6_soonest_122 : decode cX6_soonest 122 = .ok (.iload 4, 2) := by decide +kernel
theorem dX6_soonest_124 : decode cX6_soonest 124 = .ok (.iconst 1, 1) := by decide +kernel
theorem dX6_soonest_125 : decode cX6_soonest 125 = .ok (.bastore, 1) := by decide +kernel
theorem dX6_soonest_126 : decode cX6_soonest 126 = .ok (.aload_n 0, 1) := by decide +kernel
theorem dX6_soonest_127 : decode cX6_soonest 127 = .ok (.getfield 35, 3) := by decide +kernel
theorem dX6_soonest_130 : decode cX6_soonest 130 = .ok (.iload 5, 2) := by decide +kernel
theorem dX6_soonest_132 : decode cX6_soonest 132 = .ok (.iconst 1, 1) := by decide +kernel
theorem dX6_soonest_133 : decode cX6_soonest 133 = .ok (.bastore, 1) := by decide +kernel
theorem dX6_soonest_134 : decode cX6_soonest 134 = .ok (.iinc 3 1, 3) := by decide +kernel
theorem dX6_soonest_137 : decode cX6_soonest 137 = .ok (.goto (-74), 3) := by decide +kernel
theorem dX6_soonest_140 : decode cX6_soonest 140 = .ok (.aload_n 0, 1) := by decide +kernel
theorem dX6_soonest_141 : decode cX6_soonest 141 = .ok (.getfield 35, 3) := by decide +kernel
theorem dX6_soonest_144 : decode cX6_soonest 144 = .ok (.aload_n 0, 1) := by decide +kernel
theorem dX6_soonest_145 : decode cX6_soonest 145 = .ok (.iload_n 1, 1) := by decide +kernel
theorem dX6_soonest_146 : decode cX6_soonest 146 = .ok (.iconst 2, 1) := by decide +kernel
theorem dX6_soonest_147 : decode cX6_soonest 147 = .ok (.invokevirtual 119, 3) := by decide +kernel
theorem dX6_soonest_150 : decode cX6_soonest 150 = .ok (.baload, 1) := by decide +kernel
theorem dX6_soonest_151 : decode cX6_soonest 151 = .ok (.ifCond .eq 5, 3) := by decide +kernel
theorem dX6_soonest_154 : decode cX6_soonest 154 = .ok (.iload_n 2, 1) := by decide +kernel
theorem dX6_soonest_155 : decode cX6_soonest 155 = .ok (.ireturn, 1) := by decide +kernel
theorem dX6_soonest_156 : decode cX6_soonest 156 = .ok (.iinc 2 1, 3) := by decide +kernel
theorem dX6_soonest_159 : decode cX6_soonest 159 = .ok (.goto (-107), 3) := by decide +kernel
theorem dX6_soonest_162 : decode cX6_soonest 162 = .ok (.bipush (-4), 2) := by decide +kernel
theorem dX6_soonest_164 : decode cX6_soonest 164 = .ok (.ireturn, 1) := by decide +kernel
theorem dX6_why_0 : decode cX6_why 0 = .ok (.aload_n 0, 1) := by decide +kernel
theorem dX6_why_1 : decode cX6_why 1 = .ok (.iload_n 1, 1) := by decide +kernel
theorem dX6_why_2 : decode cX6_why 2 = .ok (.invokevirtual 213, 3) := by decide +kernel
theorem dX6_why_5 : decode cX6_why 5 = .ok (.ifCond .eq 46, 3) := by decide +kernel
theorem dX6_why_8 : decode cX6_why 8 = .ok (.aload_n 0, 1) := by decide +kernel
theorem dX6_why_9 : decode cX6_why 9 = .ok (.iload_n 2, 1) := by decide +kernel
theorem dX6_why_10 : decode cX6_why 10 = .ok (.invokevirtual 213, 3) := by decide +kernel
theorem dX6_why_13 : decode cX6_why 13 = .ok (.ifCond .eq 38, 3) := by decide +kernel
theorem dX6_why_16 : decode cX6_why 16 = .ok (.iload_n 1, 1) := by decide +kernel
theorem dX6_why_17 : decode cX6_why 17 = .ok (.iload_n 2, 1) := by decide +kernel
theorem dX6_why_18 : decode cX6_why 18 = .ok (.if_icmp .eq 33, 3) := by decide +kernel
theorem dX6_why_21 : decode cX6_why 21 = .ok (.aload_n 0, 1) := by decide +kernel
theorem dX6_why_22 : decode cX6_why 22 = .ok (.iload_n 3, 1) := by decide +kernel
theorem dX6_why_23 : decode cX6_why 23 = .ok (.invokevirtual 223, 3) := by decide +kernel
theorem dX6_why_26 : decode cX6_why 26 = .ok (.ifCond .eq 25, 3) := by decide +kernel
theorem dX6_why_29 : decode cX6_why 29 = .ok (.aload_n 0, 1) := by decide +kernel
theorem dX6_why_30 : decode cX6_why 30 = .ok (.iload_n 1, 1) := by decide +kernel
theorem dX6_why_31 : decode cX6_why 31 = .ok (.iload_n 3, 1) := by decide +kernel
theorem dX6_why_32 : decode cX6_why 32 = .ok (.invokevirtual 115, 3) := by decide +kernel
theorem dX6_why_35 : decode cX6_why 35 = .ok (.ifCond .eq 16, 3) := by decide +kernel
theorem dX6_why_38 : decode cX6_why 38 = .ok (.iload 4, 2) := by decide +kernel
theorem dX6_why_40 : decode cX6_why 40 = .ok (.i2l, 1) := by decide +kernel
theorem dX6_why_41 : decode cX6_why 41 = .ok (.lconst 0, 1) := by decide +kernel
theorem dX6_why_42 : decode cX6_why 42 = .ok (.ldc2_w 239, 3) := by decide +kernel
theorem dX6_why_45 : decode cX6_why 45 = .ok (.invokestatic 40, 3) := by decide +kernel
theorem dX6_why_48 : decode cX6_why 48 = .ok (.ifCond .ne 5, 3) := by decide +kernel
theorem dX6_why_51 : decode cX6_why 51 = .ok (.iconst (-1), 1) := by decide +kernel
theorem dX6_why_52 : decode cX6_why 52 = .ok (.ireturn, 1) := by decide +kernel
theorem dX6_why_53 : decode cX6_why 53 = .ok (.aload_n 0, 1) := by decide +kernel
theorem dX6_why_54 : decode cX6_why 54 = .ok (.iload_n 1, 1) := by decide +kernel
theorem dX6_why_55 : decode cX6_why 55 = .ok (.iload_n 2, 1) := by decide +kernel
theorem dX6_why_56 : decode cX6_why 56 = .ok (.iload_n 3, 1) := by decide +kernel
theorem dX6_why_57 : decode cX6_why 57 = .ok (.iload 4, 2) := by decide +kernel
theorem dX6_why_59 : decode cX6_why 59 = .ok (.invokevirtual 175, 3) := by decide +kernel
theorem dX6_why_62 : decode cX6_why 62 = .ok (.istore 5, 2) := by decide +kernel
theorem dX6_why_64 : decode cX6_why 64 = .ok (.iload 5, 2) := by decide +kernel
theorem dX6_why_66 : decode cX6_why 66 = .ok (.iconst 4, 1) := by decide +kernel
theorem dX6_why_67 : decode cX6_why 67 = .ok (.if_icmp .ne 17, 3) := by decide +kernel
theorem dX6_why_70 : decode cX6_why 70 = .ok (.aload_n 0, 1) := by decide +kernel
theorem dX6_why_71 : decode cX6_why 71 = .ok (.iload_n 2, 1) := by decide +kernel
theorem dX6_why_72 : decode cX6_why 72 = .ok (.aload_n 0, 1) := by decide +kernel
theorem dX6_why_73 : decode cX6_why 73 = .ok (.iload_n 3, 1) := by decide +kernel
theorem dX6_why_74 : decode cX6_why 74 = .ok (.iconst 3, 1) := by decide +kernel
theorem dX6_why_75 : decode cX6_why 75 = .ok (.invokevirtual 119, 3) := by decide +kernel
theorem dX6_why_78 : decode cX6_why 78 = .ok (.invokevirtual 140, 3) := by decide +kernel
theorem dX6_why_81 : decode cX6_why 81 = .ok (.goto 5, 3) := by decide +kernel
theorem dX6_why_84 : decode cX6_why 84 = .ok (.iload 5, 2) := by decide +kernel
theorem dX6_why_86 : decode cX6_why 86 = .ok (.ireturn, 1) := by decide +kernel
theorem dX6_refusal_0 : decode cX6_refusal 0 = .ok (.iload_n 1, 1) := by decide +kernel
theorem dX6_refusal_1 : decode cX6_refusal 1 = .ok (.i2l, 1) := by decide +kernel
theorem dX6_refusal_2 : decode cX6_refusal 2 = .ok (.lconst 0, 1) := by decide +kernel
theorem dX6_refusal_3 : decode cX6_refusal 3 = .ok (.ldc2_w 241, 3) := by decide +kernel
theorem dX6_refusal_6 : decode cX6_refusal 6 = .ok (.invokestatic 40, 3) := by decide +kernel
theorem dX6_refusal_9 : decode cX6_refusal 9 = .ok (.ifCond .ne 5, 3) := by decide +kernel
theorem dX6_refusal_12 : decode cX6_refusal 12 = .ok (.iconst (-1), 1) := by decide +kernel
theorem dX6_refusal_13 : decode cX6_refusal 13 = .ok (.ireturn, 1) := by decide +kernel
theorem dX6_refusal_14 : decode cX6_refusal 14 = .ok (.aload_n 0, 1) := by decide +kernel
theorem dX6_refusal_15 : decode cX6_refusal 15 = .ok (.getfield 7, 3) := by decide +kernel
theorem dX6_refusal_18 : decode cX6_refusal 18 = .ok (.bipush 22, 2) := by decide +kernel
theorem dX6_refusal_20 : decode cX6_refusal 20 = .ok (.iaload, 1) := by decide +kernel
theorem dX6_refusal_21 : decode cX6_refusal 21 = .ok (.iconst 1, 1) := by decide +kernel
theorem dX6_refusal_22 : decode cX6_refusal 22 = .ok (.if_icmp .ne 15, 3) := by decide +kernel
theorem dX6_refusal_25 : decode cX6_refusal 25 = .ok (.aload_n 0, 1) := by decide +kernel
theorem dX6_refusal_26 : decode cX6_refusal 26 = .ok (.getfield 7, 3) := by decide +kernel
theorem dX6_refusal_29 : decode cX6_refusal 29 = .ok (.bipush 16, 2) := by decide +kernel
theorem dX6_refusal_31 : decode cX6_refusal 31 = .ok (.iload_n 1, 1) := by decide +kernel
theorem dX6_refusal_32 : decode cX6_refusal 32 = .ok (.iadd, 1) := by decide +kernel
theorem dX6_refusal_33 : decode cX6_refusal 33 = .ok (.iaload, 1) := by decide +kernel
theorem dX6_refusal_34 : decode cX6_refusal 34 = .ok (.goto 5, 3) := by decide +kernel
theorem dX6_refusal_37 : decode cX6_refusal 37 = .ok (.bipush (-2), 2) := by decide +kernel
theorem dX6_refusal_39 : decode cX6_refusal 39 = .ok (.ireturn, 1) := by decide +kernel
theorem dX6_tick_0 : decode cX6_tick 0 = .ok (.iload_n 1, 1) := by decide +kernel
theorem dX6_tick_1 : decode cX6_tick 1 = .ok (.i2l, 1) := by decide +kernel
theorem dX6_tick_2 : decode cX6_tick 2 = .ok (.lconst 1, 1) := by decide +kernel
theorem dX6_tick_3 : decode cX6_tick 3 = .ok (.ldc2_w 243, 3) := by decide +kernel
theorem dX6_tick_6 : decode cX6_tick 6 = .ok (.invokestatic 40, 3) := by decide +kernel
theorem dX6_tick_9 : decode cX6_tick 9 = .ok (.ifCond .ne 5, 3) := by decide +kernel
theorem dX6_tick_12 : decode cX6_tick 12 = .ok (.iconst (-1), 1) := by decide +kernel
theorem dX6_tick_13 : decode cX6_tick 13 = .ok (.ireturn, 1) := by decide +kernel
theorem dX6_tick_14 : decode cX6_tick 14 = .ok (.aload_n 0, 1) := by decide +kernel
theorem dX6_tick_15 : decode cX6_tick 15 = .ok (.getfield 7, 3) := by decide +kernel
theorem dX6_tick_18 : decode cX6_tick 18 = .ok (.bipush 8, 2) := by decide +kernel
theorem dX6_tick_20 : decode cX6_tick 20 = .ok (.iaload, 1) := by decide +kernel
theorem dX6_tick_21 : decode cX6_tick 21 = .ok (.istore_n 2, 1) := by decide +kernel
theorem dX6_tick_22 : decode cX6_tick 22 = .ok (.iconst 0, 1) := by decide +kernel
theorem dX6_tick_23 : decode cX6_tick 23 = .ok (.istore_n 3, 1) := by decide +kernel
theorem dX6_tick_24 : decode cX6_tick 24 = .ok (.iload_n 3, 1) := by decide +kernel
theorem dX6_tick_25 : decode cX6_tick 25 = .ok (.iload_n 1, 1) := by decide +kernel
theorem dX6_tick_26 : decode cX6_tick 26 = .ok (.if_icmp .ge 13, 3) := by decide +kernel
theorem dX6_tick_29 : decode cX6_tick 29 = .ok (.aload_n 0, 1) := by decide +kernel
theorem dX6_tick_30 : decode cX6_tick 30 = .ok (.invokevirtual 245, 3) := by decide +kernel
theorem dX6_tick_33 : decode cX6_tick 33 = .ok (.iinc 3 1, 3) := by decide +kernel
theorem dX6_tick_36 : decode cX6_tick 36 = .ok (.goto (-12), 3) := by decide +kernel
theorem dX6_tick_39 : decode cX6_tick 39 = .ok (.aload_n 0, 1) := by decide +kernel
theorem dX6_tick_40 : decode cX6_tick 40 = .ok (.getfield 7, 3) := by decide +kernel
theorem dX6_tick_43 : decode cX6_tick 43 = .ok (.bipush 8, 2) := by decide +kernel
theorem dX6_tick_45 : decode cX6_tick 45 = .ok (.iaload, 1) := by decide +kernel
theorem dX6_tick_46 : decode cX6_tick 46 = .ok (.iload_n 2, 1) := by decide +kernel
theorem dX6_tick_47 : decode cX6_tick 47 = .ok (.isub, 1) := by decide +kernel
theorem dX6_tick_48 : decode cX6_tick 48 = .ok (.ireturn, 1) := by decide +kernel
theorem dX6_meet_0 : decode cX6_meet 0 = .ok (.aload_n 0, 1) := by decide +kernel
theorem dX6_meet_1 : decode cX6_meet 1 = .ok (.iload_n 1, 1) := by decide +kernel
theorem dX6_meet_2 : decode cX6_meet 2 = .ok (.invokevirtual 213, 3) := by decide +kernel
theorem dX6_meet_5 : decode cX6_meet 5 = .ok (.ifCond .eq 28, 3) := by decide +kernel
theorem dX6_meet_8 : decode cX6_meet 8 = .ok (.aload_n 0, 1) := by decide +kernel
theorem dX6_meet_9 : decode cX6_meet 9 = .ok (.iload_n 2, 1) := by decide +kernel
theorem dX6_meet_10 : decode cX6_meet 10 = .ok (.invokevirtual 213, 3) := by decide +kernel
theorem dX6_meet_13 : decode cX6_meet 13 = .ok (.ifCond .eq 20, 3) := by decide +kernel
theorem dX6_meet_16 : decode cX6_meet 16 = .ok (.iload_n 1, 1) := by decide +kernel
theorem dX6_meet_17 : decode cX6_meet 17 = .ok (.iload_n 2, 1) := by decide +kernel
theorem dX6_meet_18 : decode cX6_meet 18 = .ok (.if_icmp .eq 15, 3) := by decide +kernel
theorem dX6_meet_21 : decode cX6_meet 21 = .ok (.iload_n 3, 1) := by decide +kernel
theorem dX6_meet_22 : decode cX6_meet 22 = .ok (.i2l, 1) := by decide +kernel
theorem dX6_meet_23 : decode cX6_meet 23 = .ok (.lconst 0, 1) := by decide +kernel
theorem dX6_meet_24 : decode cX6_meet 24 = .ok (.ldc2_w 239, 3) := by decide +kernel
theorem dX6_meet_27 : decode cX6_meet 27 = .ok (.invokestatic 40, 3) := by decide +kernel
theorem dX6_meet_30 : decode cX6_meet 30 = .ok (.ifCond .ne 5, 3) := by decide +kernel
theorem dX6_meet_33 : decode cX6_meet 33 = .ok (.iconst (-1), 1) := by decide +kernel
theorem dX6_meet_34 : decode cX6_meet 34 = .ok (.ireturn, 1) := by decide +kernel
theorem dX6_meet_35 : decode cX6_meet 35 = .ok (.aload_n 0, 1) := by decide +kernel
theorem dX6_meet_36 : decode cX6_meet 36 = .ok (.getfield 7, 3) := by decide +kernel
theorem dX6_meet_39 : decode cX6_meet 39 = .ok (.bipush 8, 2) := by decide +kernel
theorem dX6_meet_41 : decode cX6_meet 41 = .ok (.iaload, 1) := by decide +kernel
theorem dX6_meet_42 : decode cX6_meet 42 = .ok (.istore 4, 2) := by decide +kernel
theorem dX6_meet_44 : decode cX6_meet 44 = .ok (.aload_n 0, 1) := by decide +kernel
theorem dX6_meet_45 : decode cX6_meet 45 = .ok (.iload_n 1, 1) := by decide +kernel
theorem dX6_meet_46 : decode cX6_meet 46 = .ok (.iload_n 2, 1) := by decide +kernel
theorem dX6_meet_47 : decode cX6_meet 47 = .ok (.iload_n 3, 1) := by decide +kernel
theorem dX6_meet_48 : decode cX6_meet 48 = .ok (.invokevirtual 205, 3) := by decide +kernel
theorem dX6_meet_51 : decode cX6_meet 51 = .ok (.aload_n 0, 1) := by decide +kernel
theorem dX6_meet_52 : decode cX6_meet 52 = .ok (.getfield 7, 3) := by decide +kernel
theorem dX6_meet_55 : decode cX6_meet 55 = .ok (.bipush 8, 2) := by decide +kernel
theorem dX6_meet_57 : decode cX6_meet 57 = .ok (.iaload, 1) := by decide +kernel
theorem dX6_meet_58 : decode cX6_meet 58 = .ok (.iload 4, 2) := by decide +kernel
theorem dX6_meet_60 : decode cX6_meet 60 = .ok (.isub, 1) := by decide +kernel
theorem dX6_meet_61 : decode cX6_meet 61 = .ok (.ireturn, 1) := by decide +kernel
theorem dX6_send_0 : decode cX6_send 0 = .ok (.aload_n 0, 1) := by decide +kernel
theorem dX6_send_1 : decode cX6_send 1 = .ok (.iload_n 1, 1) := by decide +kernel
theorem dX6_send_2 : decode cX6_send 2 = .ok (.invokevirtual 213, 3) := by decide +kernel
theorem dX6_send_5 : decode cX6_send 5 = .ok (.ifCond .eq 54, 3) := by decide +kernel
theorem dX6_send_8 : decode cX6_send 8 = .ok (.aload_n 0, 1) := by decide +kernel
theorem dX6_send_9 : decode cX6_send 9 = .ok (.iload_n 2, 1) := by decide +kernel
theorem dX6_send_10 : decode cX6_send 10 = .ok (.invokevirtual 213, 3) := by decide +kernel
theorem dX6_send_13 : decode cX6_send 13 = .ok (.ifCond .eq 46, 3) := by decide +kernel
theorem dX6_send_16 : decode cX6_send 16 = .ok (.iload_n 1, 1) := by decide +kernel
theorem dX6_send_17 : decode cX6_send 17 = .ok (.iload_n 2, 1) := by decide +kernel
theorem dX6_send_18 : decode cX6_send 18 = .ok (.if_icmp .eq 41, 3) := by decide +kernel
theorem dX6_send_21 : decode cX6_send 21 = .ok (.iload_n 3, 1) := by decide +kernel
theorem dX6_send_22 : decode cX6_send 22 = .ok (.i2l, 1) := by decide +kernel
theorem dX6_send_23 : decode cX6_send 23 = .ok (.lconst 1, 1) := by decide +kernel
theorem dX6_send_24 : decode cX6_send 24 = .ok (.ldc2_w 239, 3) := by decide +kernel
theorem dX6_send_27 : decode cX6_send 27 = .ok (.invokestatic 40, 3) := by decide +kernel
theorem dX6_send_30 : decode cX6_send 30 = .ok (.ifCond .eq 29, 3) := by decide +kernel
theorem dX6_send_33 : decode cX6_send 33 = .ok (.iload 4, 2) := by decide +kernel
theorem dX6_send_35 : decode cX6_send 35 = .ok (.i2l, 1) := by decide +kernel
theorem dX6_send_36 : decode cX6_send 36 = .ok (.lconst 1, 1) := by decide +kernel
theorem dX6_send_37 : decode cX6_send 37 = .ok (.ldc2_w 248, 3) := by decide +kernel
theorem dX6_send_40 : decode cX6_send 40 = .ok (.invokestatic 40, 3) := by decide +kernel
theorem dX6_send_43 : decode cX6_send 43 = .ok (.ifCond .eq 16, 3) := by decide +kernel
theorem dX6_send_46 : decode cX6_send 46 = .ok (.iload 5, 2) := by decide +kernel
theorem dX6_send_48 : decode cX6_send 48 = .ok (.i2l, 1) := by decide +kernel
theorem dX6_send_49 : decode cX6_send 49 = .ok (.lconst 1, 1) := by decide +kernel
theorem dX6_send_50 : decode cX6_send 50 = .ok (.ldc2_w 239, 3) := by decide +kernel
theorem dX6_send_53 : decode cX6_send 53 = .ok (.invokestatic 40, 3) := by decide +kernel
theorem dX6_send_56 : decode cX6_send 56 = .ok (.ifCond .ne 5, 3) := by decide +kernel
theorem dX6_send_59 : decode cX6_send 59 = .ok (.iconst (-1), 1) := by decide +kernel
theorem dX6_send_60 : decode cX6_send 60 = .ok (.ireturn, 1) := by decide +kernel
theorem dX6_send_61 : decode cX6_send 61 = .ok (.aload_n 0, 1) := by decide +kernel
theorem dX6_send_62 : decode cX6_send 62 = .ok (.getfield 7, 3) := by decide +kernel
theorem dX6_send_65 : decode cX6_send 65 = .ok (.iconst 2, 1) := by decide +kernel
theorem dX6_send_66 : decode cX6_send 66 = .ok (.iaload, 1) := by decide +kernel
theorem dX6_send_67 : decode cX6_send 67 = .ok (.bipush 16, 2) := by decide +kernel
theorem dX6_send_69 : decode cX6_send 69 = .ok (.if_icmp .ne 6, 3) := by decide +kernel
theorem dX6_send_72 : decode cX6_send 72 = .ok (.bipush (-3), 2) := by decide +kernel
theorem dX6_send_74 : decode cX6_send 74 = .ok (.ireturn, 1) := by decide +kernel
theorem dX6_send_75 : decode cX6_send 75 = .ok (.aload_n 0, 1) := by decide +kernel
theorem dX6_send_76 : decode cX6_send 76 = .ok (.getfield 7, 3) := by decide +kernel
theorem dX6_send_79 : decode cX6_send 79 = .ok (.iconst 2, 1) := by decide +kernel
theorem dX6_send_80 : decode cX6_send 80 = .ok (.iaload, 1) := by decide +kernel
theorem dX6_send_81 : decode cX6_send 81 = .ok (.istore 6, 2) := by decide +kernel
theorem dX6_send_83 : decode cX6_send 83 = .ok (.bipush 127, 2) := by decide +kernel
theorem dX6_send_85 : decode cX6_send 85 = .ok (.bipush 8, 2) := by decide +kernel
theorem dX6_send_87 : decode cX6_send 87 = .ok (.iload 6, 2) := by decide +kernel
theorem dX6_send_89 : decode cX6_send 89 = .ok (.imul, 1) := by decide +kernel
theorem dX6_send_90 : decode cX6_send 90 = .ok (.iadd, 1) := by decide +kernel
theorem dX6_send_91 : decode cX6_send 91 = .ok (.istore 7, 2) := by decide +kernel
theorem dX6_send_93 : decode cX6_send 93 = .ok (.aload_n 0, 1) := by decide +kernel
theorem dX6_send_94 : decode cX6_send 94 = .ok (.getfield 7, 3) := by decide +kernel
theorem dX6_send_97 : decode cX6_send 97 = .ok (.iload 7, 2) := by decide +kernel
theorem dX6_send_99 : decode cX6_send 99 = .ok (.iconst 0, 1) := by decide +kernel
theorem dX6_send_100 : decode cX6_send 100 = .ok (.iadd, 1) := by decide +kernel
theorem dX6_send_101 : decode cX6_send 101 = .ok (.aload_n 0, 1) := by decide +kernel
theorem dX6_send_102 : decode cX6_send 102 = .ok (.getfield 7, 3) := by decide +kernel
theorem dX6_send_105 : decode cX6_send 105 = .ok (.iconst 3, 1) := by decide +kernel
theorem dX6_send_106 : decode cX6_send 106 = .ok (.iaload, 1) := by decide +kernel
theorem dX6_send_107 : decode cX6_send 107 = .ok (.iastore, 1) := by decide +kernel
theorem dX6_send_108 : decode cX6_send 108 = .ok (.aload_n 0, 1) := by decide +kernel
theorem dX6_send_109 : decode cX6_send 109 = .ok (.getfield 7, 3) := by decide +kernel
theorem dX6_send_112 : decode cX6_send 112 = .ok (.iload 7, 2) := by decide +kernel
theorem dX6_send_114 : decode cX6_send 114 = .ok (.iconst 1, 1) := by decide +kernel
theorem dX6_send_115 : decode cX6_send 115 = .ok (.iadd, 1) := by decide +kernel
theorem dX6_send_116 : decode cX6_send 116 = .ok (.iload_n 1, 1) := by decide +kernel
theorem dX6_send_117 : decode cX6_send 117 = .ok (.iastore, 1) := by decide +kernel
theorem dX6_send_118 : decode cX6_send 118 = .ok (.aload_n 0, 1) := by decide +kernel
theorem dX6_send_119 : decode cX6_send 119 = .ok (.getfield 7, 3) := by decide +kernel
theorem dX6_send_122 : decode cX6_send 122 = .ok (.iload 7, 2) := by decide +kernel
theorem dX6_send_124 : decode cX6_send 124 = .ok (.iconst 2, 1) := by decide +kernel
theorem dX6_send_125 : decode cX6_send 125 = .ok (.iadd, 1) := by decide +kernel
theorem dX6_send_126 : decode cX6_send 126 = .ok (.iload_n 2, 1) := by decide +kernel
theorem dX6_send_127 : decode cX6_send 127 = .ok (.iastore, 1) := by decide +kernel
theorem dX6_send_128 : decode cX6_send 128 = .ok (.aload_n 0, 1) := by decide +kernel
theorem dX6_send_129 : decode cX6_send 129 = .ok (.getfield 7, 3) := by decide +kernel
theorem dX6_send_132 : decode cX6_send 132 = .ok (.iload 7, 2) := by decide +kernel
theorem dX6_send_134 : decode cX6_send 134 = .ok (.iconst 3, 1) := by decide +kernel
theorem dX6_send_135 : decode cX6_send 135 = .ok (.iadd, 1) := by decide +kernel
theorem dX6_send_136 : decode cX6_send 136 = .ok (.iload_n 3, 1) := by decide +kernel
theorem dX6_send_137 : decode cX6_send 137 = .ok (.iastore, 1) := by decide +kernel
theorem dX6_send_138 : decode cX6_send 138 = .ok (.aload_n 0, 1) := by decide +kernel
theorem dX6_send_139 : decode cX6_send 139 = .ok (.getfield 7, 3) := by decide +kernel
theorem dX6_send_142 : decode cX6_send 142 = .ok (.iload 7, 2) := by decide +kernel
theorem dX6_send_144 : decode cX6_send 144 = .ok (.iconst 4, 1) := by decide +kernel
theorem dX6_send_145 : decode cX6_send 145 = .ok (.iadd, 1) := by decide +kernel
theorem dX6_send_146 : decode cX6_send 146 = .ok (.iload 4, 2) := by decide +kernel
theorem dX6_send_148 : decode cX6_send 148 = .ok (.iastore, 1) := by decide +kernel
theorem dX6_send_149 : decode cX6_send 149 = .ok (.aload_n 0, 1) := by decide +kernel
theorem dX6_send_150 : decode cX6_send 150 = .ok (.getfield 7, 3) := by decide +kernel
theorem dX6_send_153 : decode cX6_send 153 = .ok (.iload 7, 2) := by decide +kernel
theorem dX6_send_155 : decode cX6_send 155 = .ok (.iconst 5, 1) := by decide +kernel
theorem dX6_send_156 : decode cX6_send 156 = .ok (.iadd, 1) := by decide +kernel
theorem dX6_send_157 : decode cX6_send 157 = .ok (.iload 5, 2) := by decide +kernel
theorem dX6_send_159 : decode cX6_send 159 = .ok (.iastore, 1) := by decide +kernel
theorem dX6_send_160 : decode cX6_send 160 = .ok (.aload_n 0, 1) := by decide +kernel
theorem dX6_send_161 : decode cX6_send 161 = .ok (.getfield 7, 3) := by decide +kernel
theorem dX6_send_164 : decode cX6_send 164 = .ok (.iload 7, 2) := by decide +kernel
theorem dX6_send_166 : decode cX6_send 166 = .ok (.bipush 6, 2) := by decide +kernel
theorem dX6_send_168 : decode cX6_send 168 = .ok (.iadd, 1) := by decide +kernel
theorem dX6_send_169 : decode cX6_send 169 = .ok (.bipush (-4), 2) := by decide +kernel
theorem dX6_send_171 : decode cX6_send 171 = .ok (.iastore, 1) := by decide +kernel
theorem dX6_send_172 : decode cX6_send 172 = .ok (.aload_n 0, 1) := by decide +kernel
theorem dX6_send_173 : decode cX6_send 173 = .ok (.getfield 7, 3) := by decide +kernel
theorem dX6_send_176 : decode cX6_send 176 = .ok (.iload 7, 2) := by decide +kernel
theorem dX6_send_178 : decode cX6_send 178 = .ok (.bipush 7, 2) := by decide +kernel
theorem dX6_send_180 : decode cX6_send 180 = .ok (.iadd, 1) := by decide +kernel
theorem dX6_send_181 : decode cX6_send 181 = .ok (.bipush (-4), 2) := by decide +kernel
theorem dX6_send_183 : decode cX6_send 183 = .ok (.iastore, 1) := by decide +kernel
theorem dX6_send_184 : decode cX6_send 184 = .ok (.aload_n 0, 1) := by decide +kernel
theorem dX6_send_185 : decode cX6_send 185 = .ok (.getfield 7, 3) := by decide +kernel
theorem dX6_send_188 : decode cX6_send 188 = .ok (.iconst 2, 1) := by decide +kernel
theorem dX6_send_189 : decode cX6_send 189 = .ok (.dup2, 1) := by decide +kernel
theorem dX6_send_190 : decode cX6_send 190 = .ok (.iaload, 1) := by decide +kernel
theorem dX6_send_191 : decode cX6_send 191 = .ok (.iconst 1, 1) := by decide +kernel
theorem dX6_send_192 : decode cX6_send 192 = .ok (.iadd, 1) := by decide +kernel
theorem dX6_send_193 : decode cX6_send 193 = .ok (.iastore, 1) := by decide +kernel
theorem dX6_send_194 : decode cX6_send 194 = .ok (.aload_n 0, 1) := by decide +kernel
theorem dX6_send_195 : decode cX6_send 195 = .ok (.iload 6, 2) := by decide +kernel
theorem dX6_send_197 : decode cX6_send 197 = .ok (.invokevirtual 199, 3) := by decide +kernel
theorem dX6_send_200 : decode cX6_send 200 = .ok (.iload 6, 2) := by decide +kernel
theorem dX6_send_202 : decode cX6_send 202 = .ok (.ireturn, 1) := by decide +kernel
theorem dX6_set_0 : decode cX6_set 0 = .ok (.iload_n 1, 1) := by decide +kernel
theorem dX6_set_1 : decode cX6_set 1 = .ok (.i2l, 1) := by decide +kernel
theorem dX6_set_2 : decode cX6_set 2 = .ok (.lconst 0, 1) := by decide +kernel
theorem dX6_set_3 : decode cX6_set 3 = .ok (.ldc2_w 234, 3) := by decide +kernel
theorem dX6_set_6 : decode cX6_set 6 = .ok (.invokestatic 40, 3) := by decide +kernel
theorem dX6_set_9 : decode cX6_set 9 = .ok (.ifCond .eq 36, 3) := by decide +kernel
theorem dX6_set_12 : decode cX6_set 12 = .ok (.iload_n 2, 1) := by decide +kernel
theorem dX6_set_13 : decode cX6_set 13 = .ok (.i2l, 1) := by decide +kernel
theorem dX6_set_14 : decode cX6_set 14 = .ok (.lconst 0, 1) := by decide +kernel
theorem dX6_set_15 : decode cX6_set 15 = .ok (.iload_n 1, 1) := by decide +kernel
theorem dX6_set_16 : decode cX6_set 16 = .ok (.ifCond .ne 9, 3) := by decide +kernel
theorem dX6_set_19 : decode cX6_set 19 = .ok (.ldc2_w 239, 3) := by decide +kernel
theorem dX6_set_22 : decode cX6_set 22 = .ok (.goto 17, 3) := by decide +kernel
theorem dX6_set_25 : decode cX6_set 25 = .ok (.iload_n 1, 1) := by decide +kernel
theorem dX6_set_26 : decode cX6_set 26 = .ok (.iconst 3, 1) := by decide +kernel
theorem dX6_set_27 : decode cX6_set 27 = .ok (.if_icmp .ne 9, 3) := by decide +kernel
theorem dX6_set_30 : decode cX6_set 30 = .ok (.ldc2_w 250, 3) := by decide +kernel
theorem dX6_set_33 : decode cX6_set 33 = .ok (.goto 6, 3) := by decide +kernel
theorem dX6_set_36 : decode cX6_set 36 = .ok (.ldc2_w 234, 3) := by decide +kernel
theorem dX6_set_39 : decode cX6_set 39 = .ok (.invokestatic 40, 3) := by decide +kernel
theorem dX6_set_42 : decode cX6_set 42 = .ok (.ifCond .ne 5, 3) := by decide +kernel
theorem dX6_set_45 : decode cX6_set 45 = .ok (.iconst (-1), 1) := by decide +kernel
theorem dX6_set_46 : decode cX6_set 46 = .ok (.ireturn, 1) := by decide +kernel
theorem dX6_set_47 : decode cX6_set 47 = .ok (.aload_n 0, 1) := by decide +kernel
theorem dX6_set_48 : decode cX6_set 48 = .ok (.getfield 7, 3) := by decide +kernel
theorem dX6_set_51 : decode cX6_set 51 = .ok (.iconst 4, 1) := by decide +kernel
theorem dX6_set_52 : decode cX6_set 52 = .ok (.iload_n 1, 1) := by decide +kernel
theorem dX6_set_53 : decode cX6_set 53 = .ok (.iadd, 1) := by decide +kernel
theorem dX6_set_54 : decode cX6_set 54 = .ok (.iaload, 1) := by decide +kernel
theorem dX6_set_55 : decode cX6_set 55 = .ok (.istore_n 3, 1) := by decide +kernel
theorem dX6_set_56 : decode cX6_set 56 = .ok (.aload_n 0, 1) := by decide +kernel
theorem dX6_set_57 : decode cX6_set 57 = .ok (.getfield 7, 3) := by decide +kernel
theorem dX6_set_60 : decode cX6_set 60 = .ok (.iconst 4, 1) := by decide +kernel
theorem dX6_set_61 : decode cX6_set 61 = .ok (.iload_n 1, 1) := by decide +kernel
theorem dX6_set_62 : decode cX6_set 62 = .ok (.iadd, 1) := by decide +kernel
theorem dX6_set_63 : decode cX6_set 63 = .ok (.iload_n 2, 1) := by decide +kernel
theorem dX6_set_64 : decode cX6_set 64 = .ok (.iastore, 1) := by decide +kernel
theorem dX6_set_65 : decode cX6_set 65 = .ok (.iload_n 3, 1) := by decide +kernel
theorem dX6_set_66 : decode cX6_set 66 = .ok (.ireturn, 1) := by decide +kernel
theorem dX6_got_0 : decode cX6_got 0 = .ok (.aload_n 0, 1) := by decide +kernel
theorem dX6_got_1 : decode cX6_got 1 = .ok (.aload_n 0, 1) := by decide +kernel
theorem dX6_got_2 : decode cX6_got 2 = .ok (.getfield 252, 3) := by decide +kernel
theorem dX6_got_5 : decode cX6_got 5 = .ok (.ldc 255, 2) := by decide +kernel
theorem dX6_got_7 : decode cX6_got 7 = .ok (.imul, 1) := by decide +kernel
theorem dX6_got_8 : decode cX6_got 8 = .ok (.sipush 12345, 3) := by decide +kernel
theorem dX6_got_11 : decode cX6_got 11 = .ok (.iadd, 1) := by decide +kernel
theorem dX6_got_12 : decode cX6_got 12 = .ok (.putfield 252, 3) := by decide +kernel
theorem dX6_got_15 : decode cX6_got 15 = .ok (.aload_n 0, 1) := by decide +kernel
theorem dX6_got_16 : decode cX6_got 16 = .ok (.getfield 252, 3) := by decide +kernel
theorem dX6_got_19 : decode cX6_got 19 = .ok (.bipush 16, 2) := by decide +kernel
theorem dX6_got_21 : decode cX6_got 21 = .ok (.ishr, 1) := by decide +kernel
theorem dX6_got_22 : decode cX6_got 22 = .ok (.sipush 32767, 3) := by decide +kernel
theorem dX6_got_25 : decode cX6_got 25 = .ok (.iand, 1) := by decide +kernel
theorem dX6_got_26 : decode cX6_got 26 = .ok (.ireturn, 1) := by decide +kernel
theorem dX6_draw_0 : decode cX6_draw 0 = .ok (.iload_n 2, 1) := by decide +kernel
theorem dX6_draw_1 : decode cX6_draw 1 = .ok (.i2l, 1) := by decide +kernel
theorem dX6_draw_2 : decode cX6_draw 2 = .ok (.lconst 1, 1) := by decide +kernel
theorem dX6_draw_3 : decode cX6_draw 3 = .ok (.ldc2_w 256, 3) := by decide +kernel
theorem dX6_draw_6 : decode cX6_draw 6 = .ok (.invokestatic 40, 3) := by decide +kernel
theorem dX6_draw_9 : decode cX6_draw 9 = .ok (.ifCond .ne 5, 3) := by decide +kernel
theorem dX6_draw_12 : decode cX6_draw 12 = .ok (.iconst (-1), 1) := by decide +kernel
theorem dX6_draw_13 : decode cX6_draw 13 = .ok (.ireturn, 1) := by decide +kernel
theorem dX6_draw_14 : decode cX6_draw 14 = .ok (.aload_n 0, 1) := by decide +kernel
theorem dX6_draw_15 : decode cX6_draw 15 = .ok (.getfield 7, 3) := by decide +kernel
theorem dX6_draw_18 : decode cX6_draw 18 = .ok (.iconst 0, 1) := by decide +kernel
theorem dX6_draw_19 : decode cX6_draw 19 = .ok (.iaload, 1) := by decide +kernel
theorem dX6_draw_20 : decode cX6_draw 20 = .ok (.iconst 2, 1) := by decide +kernel
theorem dX6_draw_21 : decode cX6_draw 21 = .ok (.if_icmp .ge 6, 3) := by decide +kernel
theorem dX6_draw_24 : decode cX6_draw 24 = .ok (.bipush (-2), 2) := by decide +kernel
theorem dX6_draw_26 : decode cX6_draw 26 = .ok (.ireturn, 1) := by decide +kernel
theorem dX6_draw_27 : decode cX6_draw 27 = .ok (.aload_n 0, 1) := by decide +kernel
theorem dX6_draw_28 : decode cX6_draw 28 = .ok (.iload_n 1, 1) := by decide +kernel
theorem dX6_draw_29 : decode cX6_draw 29 = .ok (.putfield 252, 3) := by decide +kernel
theorem dX6_draw_32 : decode cX6_draw 32 = .ok (.aload_n 0, 1) := by decide +kernel
theorem dX6_draw_33 : decode cX6_draw 33 = .ok (.getfield 7, 3) := by decide +kernel
theorem dX6_draw_36 : decode cX6_draw 36 = .ok (.bipush 8, 2) := by decide +kernel
theorem dX6_draw_38 : decode cX6_draw 38 = .ok (.iaload, 1) := by decide +kernel
theorem dX6_draw_39 : decode cX6_draw 39 = .ok (.istore_n 3, 1) := by decide +kernel
theorem dX6_draw_40 : decode cX6_draw 40 = .ok (.iconst 0, 1) := by decide +kernel
theorem dX6_draw_41 : decode cX6_draw 41 = .ok (.istore 4, 2) := by decide +kernel
theorem dX6_draw_43 : decode cX6_draw 43 = .ok (.iload 4, 2) := by decide +kernel
theorem dX6_draw_45 : decode cX6_draw 45 = .ok (.iload_n 2, 1) := by decide +kernel
theorem dX6_draw_46 : decode cX6_draw 46 = .ok (.if_icmp .ge 68, 3) := by decide +kernel
theorem dX6_draw_49 : decode cX6_draw 49 = .ok (.aload_n 0, 1) := by decide +kernel
theorem dX6_draw_50 : decode cX6_draw 50 = .ok (.invokevirtual 245, 3) := by decide +kernel
theorem dX6_draw_53 : decode cX6_draw 53 = .ok (.aload_n 0, 1) := by decide +kernel
theorem dX6_draw_54 : decode cX6_draw 54 = .ok (.invokevirtual 258, 3) := by decide +kernel
theorem dX6_draw_57 : decode cX6_draw 57 = .ok (.aload_n 0, 1) := by decide +kernel
theorem dX6_draw_58 : decode cX6_draw 58 = .ok (.getfield 7, 3) := by decide +kernel
theorem dX6_draw_61 : decode cX6_draw 61 = .ok (.iconst 0, 1) := by decide +kernel
theorem dX6_draw_62 : decode cX6_draw 62 = .ok (.iaload, 1) := by decide +kernel
theorem dX6_draw_63 : decode cX6_draw 63 = .ok (.irem, 1) := by decide +kernel
theorem dX6_draw_64 : decode cX6_draw 64 = .ok (.istore 5, 2) := by decide +kernel
theorem dX6_draw_66 : decode cX6_draw 66 = .ok (.iload 5, 2) := by decide +kernel
theorem dX6_draw_68 : decode cX6_draw 68 = .ok (.iconst 1, 1) := by decide +kernel
theorem dX6_draw_69 : decode cX6_draw 69 = .ok (.iadd, 1) := by decide +kernel
theorem dX6_draw_70 : decode cX6_draw 70 = .ok (.aload_n 0, 1) := by decide +kernel
theorem dX6_draw_71 : decode cX6_draw 71 = .ok (.invokevirtual 258, 3) := by decide +kernel
theorem dX6_draw_74 : decode cX6_draw 74 = .ok (.aload_n 0, 1) := by decide +kernel
theorem dX6_draw_75 : decode cX6_draw 75 = .ok (.getfield 7, 3) := by decide +kernel
theorem dX6_draw_78 : decode cX6_draw 78 = .ok (.iconst 0, 1) := by decide +kernel
theorem dX6_draw_79 : decode cX6_draw 79 = .ok (.iaload, 1) := by decide +kernel
theorem dX6_draw_80 : decode cX6_draw 80 = .ok (.iconst 1, 1) := by decide +kernel
theorem dX6_draw_81 : decode cX6_draw 81 = .ok (.isub, 1) := by decide +kernel
theorem dX6_draw_82 : decode cX6_draw 82 = .ok (.irem, 1) := by decide +kernel
theorem dX6_draw_83 : decode cX6_draw 83 = .ok (.iadd, 1) := by decide +kernel
theorem dX6_draw_84 : decode cX6_draw 84 = .ok (.aload_n 0, 1) := by decide +kernel
theorem dX6_draw_85 : decode cX6_draw 85 = .ok (.getfield 7, 3) := by decide +kernel
theorem dX6_draw_88 : decode cX6_draw 88 = .ok (.iconst 0, 1) := by decide +kernel
theorem dX6_draw_89 : decode cX6_draw 89 = .ok (.iaload, 1) := by decide +kernel
theorem dX6_draw_90 : decode cX6_draw 90 = .ok (.irem, 1) := by decide +kernel
theorem dX6_draw_91 : decode cX6_draw 91 = .ok (.istore 6, 2) := by decide +kernel
theorem dX6_draw_93 : decode cX6_draw 93 = .ok (.aload_n 0, 1) := by decide +kernel
theorem dX6_draw_94 : decode cX6_draw 94 = .ok (.iload 5, 2) := by decide +kernel
theorem dX6_draw_96 : decode cX6_draw 96 = .ok (.iload 6, 2) := by decide +kernel
theorem dX6_draw_98 : decode cX6_draw 98 = .ok (.aload_n 0, 1) := by decide +kernel
theorem dX6_draw_99 : decode cX6_draw 99 = .ok (.invokevirtual 258, 3) := by decide +kernel
theorem dX6_draw_102 : decode cX6_draw 102 = .ok (.bipush 100, 2) := by decide +kernel
theorem dX6_draw_104 : decode cX6_draw 104 = .ok (.irem, 1) := by decide +kernel
theorem dX6_draw_105 : decode cX6_draw 105 = .ok (.invokevirtual 205, 3) := by decide +kernel
theorem dX6_draw_108 : decode cX6_draw 108 = .ok (.iinc 4 1, 3) := by decide +kernel
theorem dX6_draw_111 : decode cX6_draw 111 = .ok (.goto (-68), 3) := by decide +kernel
theorem dX6_draw_114 : decode cX6_draw 114 = .ok (.aload_n 0, 1) := by decide +kernel
theorem dX6_draw_115 : decode cX6_draw 115 = .ok (.getfield 7, 3) := by decide +kernel
theorem dX6_draw_118 : decode cX6_draw 118 = .ok (.bipush 8, 2) := by decide +kernel
theorem dX6_draw_120 : decode cX6_draw 120 = .ok (.iaload, 1) := by decide +kernel
theorem dX6_draw_121 : decode cX6_draw 121 = .ok (.iload_n 3, 1) := by decide +kernel
theorem dX6_draw_122 : decode cX6_draw 122 = .ok (.isub, 1) := by decide +kernel
theorem dX6_draw_123 : decode cX6_draw 123 = .ok (.ireturn, 1) := by decide +kernel
theorem dX6_keep_0 : decode cX6_keep 0 = .ok (.iload_n 1, 1) := by decide +kernel
theorem dX6_keep_1 : decode cX6_keep 1 = .ok (.i2l, 1) := by decide +kernel
theorem dX6_keep_2 : decode cX6_keep 2 = .ok (.lconst 0, 1) := by decide +kernel
theorem dX6_keep_3 : decode cX6_keep 3 = .ok (.lconst 1, 1) := by decide +kernel
theorem dX6_keep_4 : decode cX6_keep 4 = .ok (.invokestatic 40, 3) := by decide +kernel
theorem dX6_keep_7 : decode cX6_keep 7 = .ok (.ifCond .ne 5, 3) := by decide +kernel
theorem dX6_keep_10 : decode cX6_keep 10 = .ok (.iconst (-1), 1) := by decide +kernel
theorem dX6_keep_11 : decode cX6_keep 11 = .ok (.ireturn, 1) := by decide +kernel
theorem dX6_keep_12 : decode cX6_keep 12 = .ok (.aload_n 0, 1) := by decide +kernel
theorem dX6_keep_13 : decode cX6_keep 13 = .ok (.getfield 19, 3) := by decide +kernel
theorem dX6_keep_16 : decode cX6_keep 16 = .ok (.iload_n 1, 1) := by decide +kernel
theorem dX6_keep_17 : decode cX6_keep 17 = .ok (.baload, 1) := by decide +kernel
theorem dX6_keep_18 : decode cX6_keep 18 = .ok (.ifCond .eq 7, 3) := by decide +kernel
theorem dX6_keep_21 : decode cX6_keep 21 = .ok (.iconst 1, 1) := by decide +kernel
theorem dX6_keep_22 : decode cX6_keep 22 = .ok (.goto 4, 3) := by decide +kernel
theorem dX6_keep_25 : decode cX6_keep 25 = .ok (.iconst 0, 1) := by decide +kernel
theorem dX6_keep_26 : decode cX6_keep 26 = .ok (.istore_n 2, 1) := by decide +kernel
theorem dX6_keep_27 : decode cX6_keep 27 = .ok (.iconst 0, 1) := by decide +kernel
theorem dX6_keep_28 : decode cX6_keep 28 = .ok (.istore_n 3, 1) := by decide +kernel
theorem dX6_keep_29 : decode cX6_keep 29 = .ok (.iload_n 3, 1) := by decide +kernel
theorem dX6_keep_30 : decode cX6_keep 30 = .ok (.sipush 831, 3) := by decide +kernel
theorem dX6_keep_33 : decode cX6_keep 33 = .ok (.if_icmp .ge 27, 3) := by decide +kernel
theorem dX6_keep_36 : decode cX6_keep 36 = .ok (.aload_n 0, 1) := by decide +kernel
theorem dX6_keep_37 : decode cX6_keep 37 = .ok (.getfield 16, 3) := by decide +kernel
theorem dX6_keep_40 : decode cX6_keep 40 = .ok (.sipush 831, 3) := by decide +kernel
theorem dX6_keep_43 : decode cX6_keep 43 = .ok (.iload_n 1, 1) := by decide +kernel
theorem dX6_keep_44 : decode cX6_keep 44 = .ok (.imul, 1) := by decide +kernel
theorem dX6_keep_45 : decode cX6_keep 45 = .ok (.iload_n 3, 1) := by decide +kernel
theorem dX6_keep_46 : decode cX6_keep 46 = .ok (.iadd, 1) := by decide +kernel
theorem dX6_keep_47 : decode cX6_keep 47 = .ok (.aload_n 0, 1) := by decide +kernel
theorem dX6_keep_48 : decode cX6_keep 48 = .ok (.getfield 7, 3) := by decide +kernel
theorem dX6_keep_51 : decode cX6_keep 51 = .ok (.iload_n 3, 1) := by decide +kernel
theorem dX6_keep_52 : decode cX6_keep 52 = .ok (.iaload, 1) := by decide +kernel
theorem dX6_keep_53 : decode cX6_keep 53 = .ok (.iastore, 1) := by decide +kernel
theorem dX6_keep_54 : decode cX6_keep 54 = .ok (.iinc 3 1, 3) := by decide +kernel
theorem dX6_keep_57 : decode cX6_keep 57 = .ok (.goto (-28), 3) := by decide +kernel
theorem dX6_keep_60 : decode cX6_keep 60 = .ok (.aload_n 0, 1) := by decide +kernel
theorem dX6_keep_61 : decode cX6_keep 61 = .ok (.getfield 19, 3) := by decide +kernel
theorem dX6_keep_64 : decode cX6_keep 64 = .ok (.iload_n 1, 1) := by decide +kernel
theorem dX6_keep_65 : decode cX6_keep 65 = .ok (.iconst 1, 1) := by decide +kernel
theorem dX6_keep_66 : decode cX6_keep 66 = .ok (.bastore, 1) := by decide +kernel
theorem dX6_keep_67 : decode cX6_keep 67 = .ok (.iload_n 2, 1) := by decide +kernel
theorem dX6_keep_68 : decode cX6_keep 68 = .ok (.ireturn, 1) := by decide +kernel
theorem dX6_back_0 : decode cX6_back 0 = .ok (.iload_n 1, 1) := by decide +kernel
theorem dX6_back_1 : decode cX6_back 1 = .ok (.i2l, 1) := by decide +kernel
theorem dX6_back_2 : decode cX6_back 2 = .ok (.lconst 0, 1) := by decide +kernel
theorem dX6_back_3 : decode cX6_back 3 = .ok (.lconst 1, 1) := by decide +kernel
theorem dX6_back_4 : decode cX6_back 4 = .ok (.invokestatic 40, 3) := by decide +kernel
theorem dX6_back_7 : decode cX6_back 7 = .ok (.ifCond .ne 5, 3) := by decide +kernel
theorem dX6_back_10 : decode cX6_back 10 = .ok (.iconst (-1), 1) := by decide +kernel
theorem dX6_back_11 : decode cX6_back 11 = .ok (.ireturn, 1) := by decide +kernel
theorem dX6_back_12 : decode cX6_back 12 = .ok (.aload_n 0, 1) := by decide +kernel
theorem dX6_back_13 : decode cX6_back 13 = .ok (.getfield 19, 3) := by decide +kernel
theorem dX6_back_16 : decode cX6_back 16 = .ok (.iload_n 1, 1) := by decide +kernel
theorem dX6_back_17 : decode cX6_back 17 = .ok (.baload, 1) := by decide +kernel
theorem dX6_back_18 : decode cX6_back 18 = .ok (.ifCond .ne 6, 3) := by decide +kernel
theorem dX6_back_21 : decode cX6_back 21 = .ok (.bipush (-2), 2) := by decide +kernel
theorem dX6_back_23 : decode cX6_back 23 = .ok (.ireturn, 1) := by decide +kernel
theorem dX6_back_24 : decode cX6_back 24 = .ok (.iconst 0, 1) := by decide +kernel
theorem dX6_back_25 : decode cX6_back 25 = .ok (.istore_n 2, 1) := by decide +kernel
theorem dX6_back_26 : decode cX6_back 26 = .ok (.iload_n 2, 1) := by decide +kernel
theorem dX6_back_27 : decode cX6_back 27 = .ok (.sipush 831, 3) := by decide +kernel
theorem dX6_back_30 : decode cX6_back 30 = .ok (.if_icmp .ge 27, 3) := by decide +kernel
theorem dX6_back_33 : decode cX6_back 33 = .ok (.aload_n 0, 1) := by decide +kernel
theorem dX6_back_34 : decode cX6_back 34 = .ok (.getfield 7, 3) := by decide +kernel
theorem dX6_back_37 : decode cX6_back 37 = .ok (.iload_n 2, 1) := by decide +kernel
theorem dX6_back_38 : decode cX6_back 38 = .ok (.aload_n 0, 1) := by decide +kernel
theorem dX6_back_39 : decode cX6_back 39 = .ok (.getfield 16, 3) := by decide +kernel
theorem dX6_back_42 : decode cX6_back 42 = .ok (.sipush 831, 3) := by decide +kernel
theorem dX6_back_45 : decode cX6_back 45 = .ok (.iload_n 1, 1) := by decide +kernel
theorem dX6_back_46 : decode cX6_back 46 = .ok (.imul, 1) := by decide +kernel
theorem dX6_back_47 : decode cX6_back 47 = .ok (.iload_n 2, 1) := by decide +kernel
theorem dX6_back_48 : decode cX6_back 48 = .ok (.iadd, 1) := by decide +kernel
theorem dX6_back_49 : decode cX6_back 49 = .ok (.iaload, 1) := by decide +kernel
theorem dX6_back_50 : decode cX6_back 50 = .ok (.iastore, 1) := by decide +kernel
theorem dX6_back_51 : decode cX6_back 51 = .ok (.iinc 2 1, 3) := by decide +kernel
theorem dX6_back_54 : decode cX6_back 54 = .ok (.goto (-28), 3) := by decide +kernel
theorem dX6_back_57 : decode cX6_back 57 = .ok (.aload_n 0, 1) := by decide +kernel
theorem dX6_back_58 : decode cX6_back 58 = .ok (.getfield 7, 3) := by decide +kernel
theorem dX6_back_61 : decode cX6_back 61 = .ok (.iconst 3, 1) := by decide +kernel
theorem dX6_back_62 : decode cX6_back 62 = .ok (.iaload, 1) := by decide +kernel
theorem dX6_back_63 : decode cX6_back 63 = .ok (.ireturn, 1) := by decide +kernel
theorem dJ6_bitCount_0f7a4_0 : decode cJ6_bitCount_0f7a4 0 = .ok (.iload_n 0, 1) := by decide +kernel
theorem dJ6_bitCount_0f7a4_1 : decode cJ6_bitCount_0f7a4 1 = .ok (.iload_n 0, 1) := by decide +kernel
theorem dJ6_bitCount_0f7a4_2 : decode cJ6_bitCount_0f7a4 2 = .ok (.iconst 1, 1) := by decide +kernel
theorem dJ6_bitCount_0f7a4_3 : decode cJ6_bitCount_0f7a4 3 = .ok (.iushr, 1) := by decide +kernel
theorem dJ6_bitCount_0f7a4_4 : decode cJ6_bitCount_0f7a4 4 = .ok (.ldc_w 265, 3) := by decide +kernel
theorem dJ6_bitCount_0f7a4_7 : decode cJ6_bitCount_0f7a4 7 = .ok (.iand, 1) := by decide +kernel
theorem dJ6_bitCount_0f7a4_8 : decode cJ6_bitCount_0f7a4 8 = .ok (.isub, 1) := by decide +kernel
theorem dJ6_bitCount_0f7a4_9 : decode cJ6_bitCount_0f7a4 9 = .ok (.istore_n 0, 1) := by decide +kernel
theorem dJ6_bitCount_0f7a4_10 : decode cJ6_bitCount_0f7a4 10 = .ok (.iload_n 0, 1) := by decide +kernel
theorem dJ6_bitCount_0f7a4_11 : decode cJ6_bitCount_0f7a4 11 = .ok (.ldc_w 266, 3) := by decide +kernel
theorem dJ6_bitCount_0f7a4_14 : decode cJ6_bitCount_0f7a4 14 = .ok (.iand, 1) := by decide +kernel
theorem dJ6_bitCount_0f7a4_15 : decode cJ6_bitCount_0f7a4 15 = .ok (.iload_n 0, 1) := by decide +kernel
theorem dJ6_bitCount_0f7a4_16 : decode cJ6_bitCount_0f7a4 16 = .ok (.iconst 2, 1) := by decide +kernel
theorem dJ6_bitCount_0f7a4_17 : decode cJ6_bitCount_0f7a4 17 = .ok (.iushr, 1) := by decide +kernel
theorem dJ6_bitCount_0f7a4_18 : decode cJ6_bitCount_0f7a4 18 = .ok (.ldc_w 266, 3) := by decide +kernel
theorem dJ6_bitCount_0f7a4_21 : decode cJ6_bitCount_0f7a4 21 = .ok (.iand, 1) := by decide +kernel
theorem dJ6_bitCount_0f7a4_22 : decode cJ6_bitCount_0f7a4 22 = .ok (.iadd, 1) := by decide +kernel
theorem dJ6_bitCount_0f7a4_23 : decode cJ6_bitCount_0f7a4 23 = .ok (.istore_n 0, 1) := by decide +kernel
theorem dJ6_bitCount_0f7a4_24 : decode cJ6_bitCount_0f7a4 24 = .ok (.iload_n 0, 1) := by decide +kernel
theorem dJ6_bitCount_0f7a4_25 : decode cJ6_bitCount_0f7a4 25 = .ok (.iload_n 0, 1) := by decide +kernel
theorem dJ6_bitCount_0f7a4_26 : decode cJ6_bitCount_0f7a4 26 = .ok (.iconst 4, 1) := by decide +kernel
theorem dJ6_bitCount_0f7a4_27 : decode cJ6_bitCount_0f7a4 27 = .ok (.iushr, 1) := by decide +kernel
theorem dJ6_bitCount_0f7a4_28 : decode cJ6_bitCount_0f7a4 28 = .ok (.iadd, 1) := by decide +kernel
theorem dJ6_bitCount_0f7a4_29 : decode cJ6_bitCount_0f7a4 29 = .ok (.ldc_w 267, 3) := by decide +kernel
theorem dJ6_bitCount_0f7a4_32 : decode cJ6_bitCount_0f7a4 32 = .ok (.iand, 1) := by decide +kernel
theorem dJ6_bitCount_0f7a4_33 : decode cJ6_bitCount_0f7a4 33 = .ok (.istore_n 0, 1) := by decide +kernel
theorem dJ6_bitCount_0f7a4_34 : decode cJ6_bitCount_0f7a4 34 = .ok (.iload_n 0, 1) := by decide +kernel
theorem dJ6_bitCount_0f7a4_35 : decode cJ6_bitCount_0f7a4 35 = .ok (.iload_n 0, 1) := by decide +kernel
theorem dJ6_bitCount_0f7a4_36 : decode cJ6_bitCount_0f7a4 36 = .ok (.bipush 8, 2) := by decide +kernel
theorem dJ6_bitCount_0f7a4_38 : decode cJ6_bitCount_0f7a4 38 = .ok (.iushr, 1) := by decide +kernel
theorem dJ6_bitCount_0f7a4_39 : decode cJ6_bitCount_0f7a4 39 = .ok (.iadd, 1) := by decide +kernel
theorem dJ6_bitCount_0f7a4_40 : decode cJ6_bitCount_0f7a4 40 = .ok (.istore_n 0, 1) := by decide +kernel
theorem dJ6_bitCount_0f7a4_41 : decode cJ6_bitCount_0f7a4 41 = .ok (.iload_n 0, 1) := by decide +kernel
theorem dJ6_bitCount_0f7a4_42 : decode cJ6_bitCount_0f7a4 42 = .ok (.iload_n 0, 1) := by decide +kernel
theorem dJ6_bitCount_0f7a4_43 : decode cJ6_bitCount_0f7a4 43 = .ok (.bipush 16, 2) := by decide +kernel
theorem dJ6_bitCount_0f7a4_45 : decode cJ6_bitCount_0f7a4 45 = .ok (.iushr, 1) := by decide +kernel
theorem dJ6_bitCount_0f7a4_46 : decode cJ6_bitCount_0f7a4 46 = .ok (.iadd, 1) := by decide +kernel
theorem dJ6_bitCount_0f7a4_47 : decode cJ6_bitCount_0f7a4 47 = .ok (.istore_n 0, 1) := by decide +kernel
theorem dJ6_bitCount_0f7a4_48 : decode cJ6_bitCount_0f7a4 48 = .ok (.iload_n 0, 1) := by decide +kernel
theorem dJ6_bitCount_0f7a4_49 : decode cJ6_bitCount_0f7a4 49 = .ok (.bipush 63, 2) := by decide +kernel
theorem dJ6_bitCount_0f7a4_51 : decode cJ6_bitCount_0f7a4 51 = .ok (.iand, 1) := by decide +kernel
theorem dJ6_bitCount_0f7a4_52 : decode cJ6_bitCount_0f7a4 52 = .ok (.ireturn, 1) := by decide +kernel
theorem dJ9_min_7cf53_0 : decode cJ9_min_7cf53 0 = .ok (.iload_n 0, 1) := by decide +kernel
theorem dJ9_min_7cf53_1 : decode cJ9_min_7cf53 1 = .ok (.iload_n 1, 1) := by decide +kernel
theorem dJ9_min_7cf53_2 : decode cJ9_min_7cf53 2 = .ok (.if_icmp .gt 7, 3) := by decide +kernel
theorem dJ9_min_7cf53_5 : decode cJ9_min_7cf53 5 = .ok (.iload_n 0, 1) := by decide +kernel
theorem dJ9_min_7cf53_6 : decode cJ9_min_7cf53 6 = .ok (.goto 4, 3) := by decide +kernel
theorem dJ9_min_7cf53_9 : decode cJ9_min_7cf53 9 = .ok (.iload_n 1, 1) := by decide +kernel
theorem dJ9_min_7cf53_10 : decode cJ9_min_7cf53 10 = .ok (.ireturn, 1) := by decide +kernel
theorem dJ0_length_8abf5_0 : decode cJ0_length_8abf5 0 = .ok (.aload_n 0, 1) := by decide +kernel
theorem dJ0_length_8abf5_1 : decode cJ0_length_8abf5 1 = .ok (.getfield 9, 3) := by decide +kernel
theorem dJ0_length_8abf5_4 : decode cJ0_length_8abf5 4 = .ok (.arraylength, 1) := by decide +kernel
theorem dJ0_length_8abf5_5 : decode cJ0_length_8abf5 5 = .ok (.aload_n 0, 1) := by decide +kernel
theorem dJ0_length_8abf5_6 : decode cJ0_length_8abf5 6 = .ok (.invokevirtual 335, 3) := by decide +kernel
theorem dJ0_length_8abf5_9 : decode cJ0_length_8abf5 9 = .ok (.ishr, 1) := by decide +kernel
theorem dJ0_length_8abf5_10 : decode cJ0_length_8abf5 10 = .ok (.ireturn, 1) := by decide +kernel
theorem dJ0_charAt_5068e_0 : decode cJ0_charAt_5068e 0 = .ok (.aload_n 0, 1) := by decide +kernel
theorem dJ0_charAt_5068e_1 : decode cJ0_charAt_5068e 1 = .ok (.invokevirtual 492, 3) := by decide +kernel
theorem dJ0_charAt_5068e_4 : decode cJ0_charAt_5068e 4 = .ok (.ifCond .eq 12, 3) := by decide +kernel
theorem dJ0_charAt_5068e_7 : decode cJ0_charAt_5068e 7 = .ok (.aload_n 0, 1) := by decide +kernel
theorem dJ0_charAt_5068e_8 : decode cJ0_charAt_5068e 8 = .ok (.getfield 9, 3) := by decide +kernel
theorem dJ0_charAt_5068e_11 : decode cJ0_charAt_5068e 11 = .ok (.iload_n 1, 1) := by decide +kernel
theorem dJ0_charAt_5068e_12 : decode cJ0_charAt_5068e 12 = .ok (.invokestatic 495, 3) := by decide +kernel
theorem dJ0_charAt_5068e_15 : decode cJ0_charAt_5068e 15 = .ok (.ireturn, 1) := by decide +kernel
theorem dJ0_charAt_5068e_16 : decode cJ0_charAt_5068e 16 = .ok (.aload_n 0, 1) := by decide +kernel
theorem dJ0_charAt_5068e_17 : decode cJ0_charAt_5068e 17 = .ok (.getfield 9, 3) := by decide +kernel
theorem dJ0_charAt_5068e_20 : decode cJ0_charAt_5068e 20 = .ok (.iload_n 1, 1) := by decide +kernel
theorem dJ0_charAt_5068e_21 : decode cJ0_charAt_5068e 21 = .ok (.invokestatic 498, 3) := by decide +kernel
theorem dJ0_charAt_5068e_24 : decode cJ0_charAt_5068e 24 = .ok (.ireturn, 1) := by decide +kernel
theorem dJ0_coder_7d493_0 : decode cJ0_coder_7d493 0 = .ok (.getstatic 38, 3) := by decide +kernel
theorem dJ0_coder_7d493_3 : decode cJ0_coder_7d493 3 = .ok (.ifCond .eq 10, 3) := by decide +kernel
theorem dJ0_coder_7d493_6 : decode cJ0_coder_7d493 6 = .ok (.aload_n 0, 1) := by decide +kernel
theorem dJ0_coder_7d493_7 : decode cJ0_coder_7d493 7 = .ok (.getfield 15, 3) := by decide +kernel
theorem dJ0_coder_7d493_10 : decode cJ0_coder_7d493 10 = .ok (.goto 4, 3) := by decide +kernel
theorem dJ0_coder_7d493_13 : decode cJ0_coder_7d493 13 = .ok (.iconst 1, 1) := by decide +kernel
theorem dJ0_coder_7d493_14 : decode cJ0_coder_7d493 14 = .ok (.ireturn, 1) := by decide +kernel
theorem dJ0_isLatin1_aae02_0 : decode cJ0_isLatin1_aae02 0 = .ok (.getstatic 38, 3) := by decide +kernel
theorem dJ0_isLatin1_aae02_3 : decode cJ0_isLatin1_aae02 3 = .ok (.ifCond .eq 14, 3) := by decide +kernel
theorem dJ0_isLatin1_aae02_6 : decode cJ0_isLatin1_aae02 6 = .ok (.aload_n 0, 1) := by decide +kernel
theorem dJ0_isLatin1_aae02_7 : decode cJ0_isLatin1_aae02 7 = .ok (.getfield 15, 3) := by decide +kernel
theorem dJ0_isLatin1_aae02_10 : decode cJ0_isLatin1_aae02 10 = .ok (.ifCond .ne 7, 3) := by decide +kernel
theorem dJ0_isLatin1_aae02_13 : decode cJ0_isLatin1_aae02 13 = .ok (.iconst 1, 1) := by decide +kernel
theorem dJ0_isLatin1_aae02_14 : decode cJ0_isLatin1_aae02 14 = .ok (.goto 4, 3) := by decide +kernel
theorem dJ0_isLatin1_aae02_17 : decode cJ0_isLatin1_aae02 17 = .ok (.iconst 0, 1) := by decide +kernel
theorem dJ0_isLatin1_aae02_18 : decode cJ0_isLatin1_aae02 18 = .ok (.ireturn, 1) := by decide +kernel
theorem dJ0_checkIndex_df160_0 : decode cJ0_checkIndex_df160 0 = .ok (.iload_n 0, 1) := by decide +kernel
theorem dJ0_checkIndex_df160_1 : decode cJ0_checkIndex_df160 1 = .ok (.iload_n 1, 1) := by decide +kernel
theorem dJ0_checkIndex_df160_2 : decode cJ0_checkIndex_df160 2 = .ok (.getstatic 1053, 3) := by decide +kernel
theorem dJ0_checkIndex_df160_5 : decode cJ0_checkIndex_df160 5 = .ok (.invokestatic 1059, 3) := by decide +kernel
theorem dJ0_checkIndex_df160_8 : decode cJ0_checkIndex_df160 8 = .ok (.pop, 1) := by decide +kernel
theorem dJ0_checkIndex_df160_9 : decode cJ0_checkIndex_df160 9 = .ok (.return_, 1) := by decide +kernel
theorem dJ1_charAt_3b067_0 : decode cJ1_charAt_3b067 0 = .ok (.iload_n 1, 1) := by decide +kernel
theorem dJ1_charAt_3b067_1 : decode cJ1_charAt_3b067 1 = .ok (.aload_n 0, 1) := by decide +kernel
theorem dJ1_charAt_3b067_2 : decode cJ1_charAt_3b067 2 = .ok (.arraylength, 1) := by decide +kernel
theorem dJ1_charAt_3b067_3 : decode cJ1_charAt_3b067 3 = .ok (.invokestatic 9, 3) := by decide +kernel
theorem dJ1_charAt_3b067_6 : decode cJ1_charAt_3b067 6 = .ok (.aload_n 0, 1) := by decide +kernel
theorem dJ1_charAt_3b067_7 : decode cJ1_charAt_3b067 7 = .ok (.iload_n 1, 1) := by decide +kernel
theorem dJ1_charAt_3b067_8 : decode cJ1_charAt_3b067 8 = .ok (.baload, 1) := by decide +kernel
theorem dJ1_charAt_3b067_9 : decode cJ1_charAt_3b067 9 = .ok (.sipush 255, 3) := by decide +kernel
theorem dJ1_charAt_3b067_12 : decode cJ1_charAt_3b067 12 = .ok (.iand, 1) := by decide +kernel
theorem dJ1_charAt_3b067_13 : decode cJ1_charAt_3b067 13 = .ok (.i2c, 1) := by decide +kernel
theorem dJ1_charAt_3b067_14 : decode cJ1_charAt_3b067 14 = .ok (.ireturn, 1) := by decide +kernel
theorem dJ2_getChar_3b067_0 : decode cJ2_getChar_3b067 0 = .ok (.getstatic 44, 3) := by decide +kernel
theorem dJ2_getChar_3b067_3 : decode cJ2_getChar_3b067 3 = .ok (.ifCond .ne 25, 3) := by decide +kernel
theorem dJ2_getChar_3b067_6 : decode cJ2_getChar_3b067 6 = .ok (.iload_n 1, 1) := by decide +kernel
theorem dJ2_getChar_3b067_7 : decode cJ2_getChar_3b067 7 = .ok (.ifCond .lt 11, 3) := by decide +kernel
theorem dJ2_getChar_3b067_10 : decode cJ2_getChar_3b067 10 = .ok (.iload_n 1, 1) := by decide +kernel
theorem dJ2_getChar_3b067_11 : decode cJ2_getChar_3b067 11 = .ok (.aload_n 0, 1) := by decide +kernel
theorem dJ2_getChar_3b067_12 : decode cJ2_getChar_3b067 12 = .ok (.invokestatic 48, 3) := by decide +kernel
theorem dJ2_getChar_3b067_15 : decode cJ2_getChar_3b067 15 = .ok (.if_icmp .lt 13, 3) := by decide +kernel
theorem dJ2_getChar_3b067_18 : decode cJ2_getChar_3b067 18 = .ok (.new 52, 3) := by decide +kernel
theorem dJ2_getChar_3b067_21 : decode cJ2_getChar_3b067 21 = .ok (.dup, 1) := by decide +kernel
theorem dJ2_getChar_3b067_22 : decode cJ2_getChar_3b067 22 = .ok (.ldc 54, 2) := by decide +kernel
theorem dJ2_getChar_3b067_24 : decode cJ2_getChar_3b067 24 = .ok (.invokespecial 56, 3) := by decide +kernel
theorem dJ2_getChar_3b067_27 : decode cJ2_getChar_3b067 27 = .ok (.athrow, 1) := by decide +kernel
theorem dJ2_getChar_3b067_28 : decode cJ2_getChar_3b067 28 = .ok (.iload_n 1, 1) := by decide +kernel
theorem dJ2_getChar_3b067_29 : decode cJ2_getChar_3b067 29 = .ok (.iconst 1, 1) := by decide +kernel
theorem dJ2_getChar_3b067_30 : decode cJ2_getChar_3b067 30 = .ok (.ishl, 1) := by decide +kernel
theorem dJ2_getChar_3b067_31 : decode cJ2_getChar_3b067 31 = .ok (.istore_n 1, 1) := by decide +kernel
theorem dJ2_getChar_3b067_32 : decode cJ2_getChar_3b067 32 = .ok (.aload_n 0, 1) := by decide +kernel
theorem dJ2_getChar_3b067_33 : decode cJ2_getChar_3b067 33 = .ok (.iload_n 1, 1) := by decide +kernel
theorem dJ2_getChar_3b067_34 : decode cJ2_getChar_3b067 34 = .ok (.iinc 1 1, 3) := by decide +kernel
theorem dJ2_getChar_3b067_37 : decode cJ2_getChar_3b067 37 = .ok (.baload, 1) := by decide +kernel
theorem dJ2_getChar_3b067_38 : decode cJ2_getChar_3b067 38 = .ok (.sipush 255, 3) := by decide +kernel
theorem dJ2_getChar_3b067_41 : decode cJ2_getChar_3b067 41 = .ok (.iand, 1) := by decide +kernel
theorem dJ2_getChar_3b067_42 : decode cJ2_getChar_3b067 42 = .ok (.getstatic 59, 3) := by decide +kernel
theorem dJ2_getChar_3b067_45 : decode cJ2_getChar_3b067 45 = .ok (.ishl, 1) := by decide +kernel
theorem dJ2_getChar_3b067_46 : decode cJ2_getChar_3b067 46 = .ok (.aload_n 0, 1) := by decide +kernel
theorem dJ2_getChar_3b067_47 : decode cJ2_getChar_3b067 47 = .ok (.iload_n 1, 1) := by decide +kernel
theorem dJ2_getChar_3b067_48 : decode cJ2_getChar_3b067 48 = .ok (.baload, 1) := by decide +kernel
theorem dJ2_getChar_3b067_49 : decode cJ2_getChar_3b067 49 = .ok (.sipush 255, 3) := by decide +kernel
theorem dJ2_getChar_3b067_52 : decode cJ2_getChar_3b067 52 = .ok (.iand, 1) := by decide +kernel
theorem dJ2_getChar_3b067_53 : decode cJ2_getChar_3b067 53 = .ok (.getstatic 63, 3) := by decide +kernel
theorem dJ2_getChar_3b067_56 : decode cJ2_getChar_3b067 56 = .ok (.ishl, 1) := by decide +kernel
theorem dJ2_getChar_3b067_57 : decode cJ2_getChar_3b067 57 = .ok (.ior, 1) := by decide +kernel
theorem dJ2_getChar_3b067_58 : decode cJ2_getChar_3b067 58 = .ok (.i2c, 1) := by decide +kernel
theorem dJ2_getChar_3b067_59 : decode cJ2_getChar_3b067 59 = .ok (.ireturn, 1) := by decide +kernel
theorem dJ2_length_9d52b_0 : decode cJ2_length_9d52b 0 = .ok (.aload_n 0, 1) := by decide +kernel
theorem dJ2_length_9d52b_1 : decode cJ2_length_9d52b 1 = .ok (.arraylength, 1) := by decide +kernel
theorem dJ2_length_9d52b_2 : decode cJ2_length_9d52b 2 = .ok (.iconst 1, 1) := by decide +kernel
theorem dJ2_length_9d52b_3 : decode cJ2_length_9d52b 3 = .ok (.ishr, 1) := by decide +kernel
theorem dJ2_length_9d52b_4 : decode cJ2_length_9d52b 4 = .ok (.ireturn, 1) := by decide +kernel
theorem dJ2_charAt_3b067_0 : decode cJ2_charAt_3b067 0 = .ok (.iload_n 1, 1) := by decide +kernel
theorem dJ2_charAt_3b067_1 : decode cJ2_charAt_3b067 1 = .ok (.aload_n 0, 1) := by decide +kernel
theorem dJ2_charAt_3b067_2 : decode cJ2_charAt_3b067 2 = .ok (.invokestatic 67, 3) := by decide +kernel
theorem dJ2_charAt_3b067_5 : decode cJ2_charAt_3b067 5 = .ok (.aload_n 0, 1) := by decide +kernel
theorem dJ2_charAt_3b067_6 : decode cJ2_charAt_3b067 6 = .ok (.iload_n 1, 1) := by decide +kernel
theorem dJ2_charAt_3b067_7 : decode cJ2_charAt_3b067 7 = .ok (.invokestatic 71, 3) := by decide +kernel
theorem dJ2_charAt_3b067_10 : decode cJ2_charAt_3b067 10 = .ok (.ireturn, 1) := by decide +kernel
theorem dJ2_checkIndex_2214a_0 : decode cJ2_checkIndex_2214a 0 = .ok (.iload_n 0, 1) := by decide +kernel
theorem dJ2_checkIndex_2214a_1 : decode cJ2_checkIndex_2214a 1 = .ok (.aload_n 1, 1) := by decide +kernel
theorem dJ2_checkIndex_2214a_2 : decode cJ2_checkIndex_2214a 2 = .ok (.invokestatic 48, 3) := by decide +kernel
theorem dJ2_checkIndex_2214a_5 : decode cJ2_checkIndex_2214a 5 = .ok (.invokestatic 414, 3) := by decide +kernel
theorem dJ2_checkIndex_2214a_8 : decode cJ2_checkIndex_2214a 8 = .ok (.return_, 1) := by decide +kernel
theorem dJ3_checkIndex_8e157_0 : decode cJ3_checkIndex_8e157 0 = .ok (.iload_n 0, 1) := by decide +kernel
theorem dJ3_checkIndex_8e157_1 : decode cJ3_checkIndex_8e157 1 = .ok (.ifCond .lt 8, 3) := by decide +kernel
theorem dJ3_checkIndex_8e157_4 : decode cJ3_checkIndex_8e157 4 = .ok (.iload_n 0, 1) := by decide +kernel
theorem dJ3_checkIndex_8e157_5 : decode cJ3_checkIndex_8e157 5 = .ok (.iload_n 1, 1) := by decide +kernel
theorem dJ3_checkIndex_8e157_6 : decode cJ3_checkIndex_8e157 6 = .ok (.if_icmp .lt 10, 3) := by decide +kernel
theorem dJ3_checkIndex_8e157_9 : decode cJ3_checkIndex_8e157 9 = .ok (.aload_n 2, 1) := by decide +kernel
theorem dJ3_checkIndex_8e157_10 : decode cJ3_checkIndex_8e157 10 = .ok (.iload_n 0, 1) := by decide +kernel
theorem dJ3_checkIndex_8e157_11 : decode cJ3_checkIndex_8e157 11 = .ok (.iload_n 1, 1) := by decide +kernel
theorem dJ3_checkIndex_8e157_12 : decode cJ3_checkIndex_8e157 12 = .ok (.invokestatic 95, 3) := by decide +kernel
theorem dJ3_checkIndex_8e157_15 : decode cJ3_checkIndex_8e157 15 = .ok (.athrow, 1) := by decide +kernel
theorem dJ3_checkIndex_8e157_16 : decode cJ3_checkIndex_8e157 16 = .ok (.iload_n 0, 1) := by decide +kernel
theorem dJ3_checkIndex_8e157_17 : decode cJ3_checkIndex_8e157 17 = .ok (.ireturn, 1) := by decide +kernel
theorem dL_law_0 : decode cL_law 0 = .ok (.new 7, 3) := by decide +kernel
theorem dL_law_3 : decode cL_law 3 = .ok (.dup, 1) := by decide +kernel
theorem dL_law_4 : decode cL_law 4 = .ok (.invokespecial 9, 3) := by decide +kernel
theorem dL_law_7 : decode cL_law 7 = .ok (.astore_n 1, 1) := by decide +kernel
theorem dL_law_8 : decode cL_law 8 = .ok (.new 10, 3) := by decide +kernel
theorem dL_law_11 : decode cL_law 11 = .ok (.dup, 1) := by decide +kernel
theorem dL_law_12 : decode cL_law 12 = .ok (.invokespecial 12, 3) := by decide +kernel
theorem dL_law_15 : decode cL_law 15 = .ok (.astore_n 2, 1) := by decide +kernel
theorem dL_law_16 : decode cL_law 16 = .ok (.iconst 0, 1) := by decide +kernel
theorem dL_law_17 : decode cL_law 17 = .ok (.istore_n 3, 1) := by decide +kernel
theorem dL_law_18 : decode cL_law 18 = .ok (.iload_n 3, 1) := by decide +kernel
theorem dL_law_19 : decode cL_law 19 = .ok (.aload_n 0, 1) := by decide +kernel
theorem dL_law_20 : decode cL_law 20 = .ok (.arraylength, 1) := by decide +kernel
theorem dL_law_21 : decode cL_law 21 = .ok (.bipush 6, 2) := by decide +kernel
theorem dL_law_23 : decode cL_law 23 = .ok (.isub, 1) := by decide +kernel
theorem dL_law_24 : decode cL_law 24 = .ok (.if_icmp .gt 757, 3) := by decide +kernel
theorem dL_law_27 : decode cL_law 27 = .ok (.aload_n 0, 1) := by decide +kernel
theorem dL_law_28 : decode cL_law 28 = .ok (.iload_n 3, 1) := by decide +kernel
theorem dL_law_29 : decode cL_law 29 = .ok (.iaload, 1) := by decide +kernel
theorem dL_law_30 : decode cL_law 30 = .ok (.bipush 31, 2) := by decide +kernel
theorem dL_law_32 : decode cL_law 32 = .ok (.iand, 1) := by decide +kernel
theorem dL_law_33 : decode cL_law 33 = .ok (.tableswitch 742 0 20 #[99, 122, 145, 158, 171, 194, 227, 260, 293, 336, 369, 402, 425, 478, 501, 524, 567, 630, 663, 696, 719], 99) := by decide +kernel
theorem dL_law_132 : decode cL_law 132 = .ok (.aload_n 1, 1) := by decide +kernel
theorem dL_law_133 : decode cL_law 133 = .ok (.aload_n 0, 1) := by decide +kernel
theorem dL_law_134 : decode cL_law 134 = .ok (.iload_n 3, 1) := by decide +kernel
theorem dL_law_135 : decode cL_law 135 = .ok (.iconst 1, 1) := by decide +kernel
theorem dL_law_136 : decode cL_law 136 = .ok (.iadd, 1) := by decide +kernel
theorem dL_law_137 : decode cL_law 137 = .ok (.iaload, 1) := by decide +kernel
theorem dL_law_138 : decode cL_law 138 = .ok (.invokevirtual 13, 3) := by decide +kernel
theorem dL_law_141 : decode cL_law 141 = .ok (.aload_n 2, 1) := by decide +kernel
theorem dL_law_142 : decode cL_law 142 = .ok (.aload_n 0, 1) := by decide +kernel
theorem dL_law_143 : decode cL_law 143 = .ok (.iload_n 3, 1) := by decide +kernel
theorem dL_law_144 : decode cL_law 144 = .ok (.iconst 1, 1) := by decide +kernel
theorem dL_law_145 : decode cL_law 145 = .ok (.iadd, 1) := by decide +kernel
theorem dL_law_146 : decode cL_law 146 = .ok (.iaload, 1) := by decide +kernel
theorem dL_law_147 : decode cL_law 147 = .ok (.invokevirtual 17, 3) := by decide +kernel
theorem dL_law_150 : decode cL_law 150 = .ok (.if_icmp .eq 625, 3) := by decide +kernel
theorem dL_law_153 : decode cL_law 153 = .ok (.iconst 0, 1) := by decide +kernel
theorem dL_law_154 : decode cL_law 154 = .ok (.ireturn, 1) := by decide +kernel
theorem dL_law_155 : decode cL_law 155 = .ok (.aload_n 1, 1) := by decide +kernel
theorem dL_law_156 : decode cL_law 156 = .ok (.aload_n 0, 1) := by decide +kernel
theorem dL_law_157 : decode cL_law 157 = .ok (.iload_n 3, 1) := by decide +kernel
theorem dL_law_158 : decode cL_law 158 = .ok (.iconst 1, 1) := by decide +kernel
theorem dL_law_159 : decode cL_law 159 = .ok (.iadd, 1) := by decide +kernel
theorem dL_law_160 : decode cL_law 160 = .ok (.iaload, 1) := by decide +kernel
theorem dL_law_161 : decode cL_law 161 = .ok (.invokevirtual 18, 3) := by decide +kernel
theorem dL_law_164 : decode cL_law 164 = .ok (.aload_n 2, 1) := by decide +kernel
theorem dL_law_165 : decode cL_law 165 = .ok (.aload_n 0, 1) := by decide +kernel
theorem dL_law_166 : decode cL_law 166 = .ok (.iload_n 3, 1) := by decide +kernel
theorem dL_law_167 : decode cL_law 167 = .ok (.iconst 1, 1) := by decide +kernel
theorem dL_law_168 : decode cL_law 168 = .ok (.iadd, 1) := by decide +kernel
theorem dL_law_169 : decode cL_law 169 = .ok (.iaload, 1) := by decide +kernel
theorem dL_law_170 : decode cL_law 170 = .ok (.invokevirtual 21, 3) := by decide +kernel
theorem dL_law_173 : decode cL_law 173 = .ok (.if_icmp .eq 602, 3) := by decide +kernel
theorem dL_law_176 : decode cL_law 176 = .ok (.iconst 0, 1) := by decide +kernel
theorem dL_law_177 : decode cL_law 177 = .ok (.ireturn, 1) := by decide +kernel
theorem dL_law_178 : decode cL_law 178 = .ok (.aload_n 1, 1) := by decide +kernel
theorem dL_law_179 : decode cL_law 179 = .ok (.invokevirtual 22, 3) := by decide +kernel
theorem dL_law_182 : decode cL_law 182 = .ok (.aload_n 2, 1) := by decide +kernel
theorem dL_law_183 : decode cL_law 183 = .ok (.invokevirtual 26, 3) := by decide +kernel
theorem dL_law_186 : decode cL_law 186 = .ok (.if_icmp .eq 589, 3) := by decide +kernel
theorem dL_law_189 : decode cL_law 189 = .ok (.iconst 0, 1) := by decide +kernel
theorem dL_law_190 : decode cL_law 190 = .ok (.ireturn, 1) := by decide +kernel
theorem dL_law_191 : decode cL_law 191 = .ok (.aload_n 1, 1) := by decide +kernel
theorem dL_law_192 : decode cL_law 192 = .ok (.invokevirtual 27, 3) := by decide +kernel
theorem dL_law_195 : decode cL_law 195 = .ok (.aload_n 2, 1) := by decide +kernel
theorem dL_law_196 : decode cL_law 196 = .ok (.invokevirtual 30, 3) := by decide +kernel
theorem dL_law_199 : decode cL_law 199 = .ok (.if_icmp .eq 576, 3) := by decide +kernel
theorem dL_law_202 : decode cL_law 202 = .ok (.iconst 0, 1) := by decide +kernel
theorem dL_law_203 : decode cL_law 203 = .ok (.ireturn, 1) := by decide +kernel
theorem dL_law_204 : decode cL_law 204 = .ok (.aload_n 1, 1) := by decide +kernel
theorem dL_law_205 : decode cL_law 205 = .ok (.aload_n 0, 1) := by decide +kernel
theorem dL_law_206 : decode cL_law 206 = .ok (.iload_n 3, 1) := by decide +kernel
theorem dL_law_207 : decode cL_law 207 = .ok (.iconst 1, 1) := by decide +kernel
theorem dL_law_208 : decode cL_law 208 = .ok (.iadd, 1) := by decide +kernel
theorem dL_law_209 : decode cL_law 209 = .ok (.iaload, 1) := by decide +kernel
theorem dL_law_210 : decode cL_law 210 = .ok (.invokevirtual 31, 3) := by decide +kernel
theorem dL_law_213 : decode cL_law 213 = .ok (.aload_n 2, 1) := by decide +kernel
theorem dL_law_214 : decode cL_law 214 = .ok (.aload_n 0, 1) := by decide +kernel
theorem dL_law_215 : decode cL_law 215 = .ok (.iload_n 3, 1) := by decide +kernel
theorem dL_law_216 : decode cL_law 216 = .ok (.iconst 1, 1) := by decide +kernel
theorem dL_law_217 : decode cL_law 217 = .ok (.iadd, 1) := by decide +kernel
theorem dL_law_218 : decode cL_law 218 = .ok (.iaload, 1) := by decide +kernel
theorem dL_law_219 : decode cL_law 219 = .ok (.invokevirtual 34, 3) := by decide +kernel
theorem dL_law_222 : decode cL_law 222 = .ok (.if_icmp .eq 553, 3) := by decide +kernel
theorem dL_law_225 : decode cL_law 225 = .ok (.iconst 0, 1) := by decide +kernel
theorem dL_law_226 : decode cL_law 226 = .ok (.ireturn, 1) := by decide +kernel
theorem dL_law_227 : decode cL_law 227 = .ok (.aload_n 1, 1) := by decide +kernel
theorem dL_law_228 : decode cL_law 228 = .ok (.aload_n 0, 1) := by decide +kernel
theorem dL_law_229 : decode cL_law 229 = .ok (.iload_n 3, 1) := by decide +kernel
theorem dL_law_230 : decode cL_law 230 = .ok (.iconst 1, 1) := by decide +kernel
theorem dL_law_231 : decode cL_law 231 = .ok (.iadd, 1) := by decide +kernel
theorem dL_law_232 : decode cL_law 232 = .ok (.iaload, 1) := by decide +kernel
theorem dL_law_233 : decode cL_law 233 = .ok (.aload_n 0, 1) := by decide +kernel
theorem dL_law_234 : decode cL_law 234 = .ok (.iload_n 3, 1) := by decide +kernel
theorem dL_law_235 : decode cL_law 235 = .ok (.iconst 2, 1) := by decide +kernel
theorem dL_law_236 : decode cL_law 236 = .ok (.iadd, 1) := by decide +kernel
theorem dL_law_237 : decode cL_law 237 = .ok (.iaload, 1) := by decide +kernel
theorem dL_law_238 : decode cL_law 238 = .ok (.invokevirtual 35, 3) := by decide +kernel
theorem dL_law_241 : decode cL_law 241 = .ok (.aload_n 2, 1) := by decide +kernel
theorem dL_law_242 : decode cL_law 242 = .ok (.aload_n 0, 1) := by decide +kernel
theorem dL_law_243 : decode cL_law 243 = .ok (.iload_n 3, 1) := by decide +kernel
theorem dL_law_244 : decode cL_law 244 = .ok (.iconst 1, 1) := by decide +kernel
theorem dL_law_245 : decode cL_law 245 = .ok (.iadd, 1) := by decide +kernel
theorem dL_law_246 : decode cL_law 246 = .ok (.iaload, 1) := by decide +kernel
theorem dL_law_247 : decode cL_law 247 = .ok (.aload_n 0, 1) := by decide +kernel
theorem dL_law_248 : decode cL_law 248 = .ok (.iload_n 3, 1) := by decide +kernel
theorem dL_law_249 : decode cL_law 249 = .ok (.iconst 2, 1) := by decide +kernel
theorem dL_law_250 : decode cL_law 250 = .ok (.iadd, 1) := by decide +kernel
theorem dL_law_251 : decode cL_law 251 = .ok (.iaload, 1) := by decide +kernel
theorem dL_law_252 : decode cL_law 252 = .ok (.invokevirtual 39, 3) := by decide +kernel
theorem dL_law_255 : decode cL_law 255 = .ok (.if_icmp .eq 520, 3) := by decide +kernel
theorem dL_law_258 : decode cL_law 258 = .ok (.iconst 0, 1) := by decide +kernel
theorem dL_law_259 : decode cL_law 259 = .ok (.ireturn, 1) := by decide +kernel
theorem dL_law_260 : decode cL_law 260 = .ok (.aload_n 1, 1) := by decide +kernel
theorem dL_law_261 : decode cL_law 261 = .ok (.aload_n 0, 1) := by decide +kernel
theorem dL_law_262 : decode cL_law 262 = .ok (.iload_n 3, 1) := by decide +kernel
theorem dL_law_263 : decode cL_law 263 = .ok (.iconst 1, 1) := by decide +kernel
theorem dL_law_264 : decode cL_law 264 = .ok (.iadd, 1) := by decide +kernel
theorem dL_law_265 : decode cL_law 265 = .ok (.iaload, 1) := by decide +kernel
theorem dL_law_266 : decode cL_law 266 = .ok (.aload_n 0, 1) := by decide +kernel
theorem dL_law_267 : decode cL_law 267 = .ok (.iload_n 3, 1) := by decide +kernel
theorem dL_law_268 : decode cL_law 268 = .ok (.iconst 2, 1) := by decide +kernel
theorem dL_law_269 : decode cL_law 269 = .ok (.iadd, 1) := by decide +kernel
theorem dL_law_270 : decode cL_law 270 = .ok (.iaload, 1) := by decide +kernel
theorem dL_law_271 : decode cL_law 271 = .ok (.invokevirtual 40, 3) := by decide +kernel
theorem dL_law_274 : decode cL_law 274 = .ok (.aload_n 2, 1) := by decide +kernel
theorem dL_law_275 : decode cL_law 275 = .ok (.aload_n 0, 1) := by decide +kernel
theorem dL_law_276 : decode cL_law 276 = .ok (.iload_n 3, 1) := by decide +kernel
theorem dL_law_277 : decode cL_law 277 = .ok (.iconst 1, 1) := by decide +kernel
theorem dL_law_278 : decode cL_law 278 = .ok (.iadd, 1) := by decide +kernel
theorem dL_law_279 : decode cL_law 279 = .ok (.iaload, 1) := by decide +kernel
theorem dL_law_280 : decode cL_law 280 = .ok (.aload_n 0, 1) := by decide +kernel
theorem dL_law_281 : decode cL_law 281 = .ok (.iload_n 3, 1) := by decide +kernel
theorem dL_law_282 : decode cL_law 282 = .ok (.iconst 2, 1) := by decide +kernel
theorem dL_law_283 : decode cL_law 283 = .ok (.iadd, 1) := by decide +kernel
theorem dL_law_284 : decode cL_law 284 = .ok (.iaload, 1) := by decide +kernel
theorem dL_law_285 : decode cL_law 285 = .ok (.invokevirtual 43, 3) := by decide +kernel
theorem dL_law_288 : decode cL_law 288 = .ok (.if_icmp .eq 487, 3) := by decide +kernel
theorem dL_law_291 : decode cL_law 291 = .ok (.iconst 0, 1) := by decide +kernel
theorem dL_law_292 : decode cL_law 292 = .ok (.ireturn, 1) := by decide +kernel
theorem dL_law_293 : decode cL_law 293 = .ok (.aload_n 1, 1) := by decide +kernel
theorem dL_law_294 : decode cL_law 294 = .ok (.aload_n 0, 1) := by decide +kernel
theorem dL_law_295 : decode cL_law 295 = .ok (.iload_n 3, 1) := by decide +kernel
theorem dL_law_296 : decode cL_law 296 = .ok (.iconst 1, 1) := by decide +kernel
theorem dL_law_297 : decode cL_law 297 = .ok (.iadd, 1) := by decide +kernel
theorem dL_law_298 : decode cL_law 298 = .ok (.iaload, 1) := by decide +kernel
theorem dL_law_299 : decode cL_law 299 = .ok (.aload_n 0, 1) := by decide +kernel
theorem dL_law_300 : decode cL_law 300 = .ok (.iload_n 3, 1) := by decide +kernel
theorem dL_law_301 : decode cL_law 301 = .ok (.iconst 2, 1) := by decide +kernel
theorem dL_law_302 : decode cL_law 302 = .ok (.iadd, 1) := by decide +kernel
theorem dL_law_303 : decode cL_law 303 = .ok (.iaload, 1) := by decide +kernel
theorem dL_law_304 : decode cL_law 304 = .ok (.invokevirtual 44, 3) := by decide +kernel
theorem dL_law_307 : decode cL_law 307 = .ok (.aload_n 2, 1) := by decide +kernel
theorem dL_law_308 : decode cL_law 308 = .ok (.aload_n 0, 1) := by decide +kernel
theorem dL_law_309 : decode cL_law 309 = .ok (.iload_n 3, 1) := by decide +kernel
theorem dL_law_310 : decode cL_law 310 = .ok (.iconst 1, 1) := by decide +kernel
theorem dL_law_311 : decode cL_law 311 = .ok (.iadd, 1) := by decide +kernel
theorem dL_law_312 : decode cL_law 312 = .ok (.iaload, 1) := by decide +kernel
theorem dL_law_313 : decode cL_law 313 = .ok (.aload_n 0, 1) := by decide +kernel
theorem dL_law_314 : decode cL_law 314 = .ok (.iload_n 3, 1) := by decide +kernel
theorem dL_law_315 : decode cL_law 315 = .ok (.iconst 2, 1) := by decide +kernel
theorem dL_law_316 : decode cL_law 316 = .ok (.iadd, 1) := by decide +kernel
theorem dL_law_317 : decode cL_law 317 = .ok (.iaload, 1) := by decide +kernel
theorem dL_law_318 : decode cL_law 318 = .ok (.invokevirtual 47, 3) := by decide +kernel
theorem dL_law_321 : decode cL_law 321 = .ok (.if_icmp .eq 454, 3) := by decide +kernel
theorem dL_law_324 : decode cL_law 324 = .ok (.iconst 0, 1) := by decide +kernel
theorem dL_law_325 : decode cL_law 325 = .ok (.ireturn, 1) := by decide +kernel
theorem dL_law_326 : decode cL_law 326 = .ok (.aload_n 1, 1) := by decide +kernel
theorem dL_law_327 : decode cL_law 327 = .ok (.aload_n 0, 1) := by decide +kernel
theorem dL_law_328 : decode cL_law 328 = .ok (.iload_n 3, 1) := by decide +kernel
theorem dL_law_329 : decode cL_law 329 = .ok (.iconst 1, 1) := by decide +kernel
theorem dL_law_330 : decode cL_law 330 = .ok (.iadd, 1) := by decide +kernel
theorem dL_law_331 : decode cL_law 331 = .ok (.iaload, 1) := by decide +kernel
theorem dL_law_332 : decode cL_law 332 = .ok (.aload_n 0, 1) := by decide +kernel
theorem dL_law_333 : decode cL_law 333 = .ok (.iload_n 3, 1) := by decide +kernel
theorem dL_law_334 : decode cL_law 334 = .ok (.iconst 2, 1) := by decide +kernel
theorem dL_law_335 : decode cL_law 335 = .ok (.iadd, 1) := by decide +kernel
theorem dL_law_336 : decode cL_law 336 = .ok (.iaload, 1) := by decide +kernel
theorem dL_law_337 : decode cL_law 337 = .ok (.aload_n 0, 1) := by decide +kernel
theorem dL_law_338 : decode cL_law 338 = .ok (.iload_n 3, 1) := by decide +kernel
theorem dL_law_339 : decode cL_law 339 = .ok (.iconst 3, 1) := by decide +kernel
theorem dL_law_340 : decode cL_law 340 = .ok (.iadd, 1) := by decide +kernel
theorem dL_law_341 : decode cL_law 341 = .ok (.iaload, 1) := by decide +kernel
theorem dL_law_342 : decode cL_law 342 = .ok (.invokevirtual 48, 3) := by decide +kernel
theorem dL_law_345 : decode cL_law 345 = .ok (.aload_n 2, 1) := by decide +kernel
theorem dL_law_346 : decode cL_law 346 = .ok (.aload_n 0, 1) := by decide +kernel
theorem dL_law_347 : decode cL_law 347 = .ok (.iload_n 3, 1) := by decide +kernel
theorem dL_law_348 : decode cL_law 348 = .ok (.iconst 1, 1) := by decide +kernel
theorem dL_law_349 : decode cL_law 349 = .ok (.iadd, 1) := by decide +kernel
theorem dL_law_350 : decode cL_law 350 = .ok (.iaload, 1) := by decide +kernel
theorem dL_law_351 : decode cL_law 351 = .ok (.aload_n 0, 1) := by decide +kernel
theorem dL_law_352 : decode cL_law 352 = .ok (.iload_n 3, 1) := by decide +kernel
theorem dL_law_353 : decode cL_law 353 = .ok (.iconst 2, 1) := by decide +kernel
theorem dL_law_354 : decode cL_law 354 = .ok (.iadd, 1) := by decide +kernel
theorem dL_law_355 : decode cL_law 355 = .ok (.iaload, 1) := by decide +kernel
theorem dL_law_356 : decode cL_law 356 = .ok (.aload_n 0, 1) := by decide +kernel
theorem dL_law_357 : decode cL_law 357 = .ok (.iload_n 3, 1) := by decide +kernel
theorem dL_law_358 : decode cL_law 358 = .ok (.iconst 3, 1) := by decide +kernel
theorem dL_law_359 : decode cL_law 359 = .ok (.iadd, 1) := by decide +kernel
theorem dL_law_360 : decode cL_law 360 = .ok (.iaload, 1) := by decide +kernel
theorem dL_law_361 : decode cL_law 361 = .ok (.invokevirtual 52, 3) := by decide +kernel
theorem dL_law_364 : decode cL_law 364 = .ok (.if_icmp .eq 411, 3) := by decide +kernel
theorem dL_law_367 : decode cL_law 367 = .ok (.iconst 0, 1) := by decide +kernel
theorem dL_law_368 : decode cL_law 368 = .ok (.ireturn, 1) := by decide +kernel
theorem dL_law_369 : decode cL_law 369 = .ok (.aload_n 1, 1) := by decide +kernel
theorem dL_law_370 : decode cL_law 370 = .ok (.aload_n 0, 1) := by decide +kernel
theorem dL_law_371 : decode cL_law 371 = .ok (.iload_n 3, 1) := by decide +kernel
theorem dL_law_372 : decode cL_law 372 = .ok (.iconst 1, 1) := by decide +kernel
theorem dL_law_373 : decode cL_law 373 = .ok (.iadd, 1) := by decide +kernel
theorem dL_law_374 : decode cL_law 374 = .ok (.iaload, 1) := by decide +kernel
theorem dL_law_375 : decode cL_law 375 = .ok (.aload_n 0, 1) := by decide +kernel
theorem dL_law_376 : decode cL_law 376 = .ok (.iload_n 3, 1) := by decide +kernel
theorem dL_law_377 : decode cL_law 377 = .ok (.iconst 2, 1) := by decide +kernel
theorem dL_law_378 : decode cL_law 378 = .ok (.iadd, 1) := by decide +kernel
theorem dL_law_379 : decode cL_law 379 = .ok (.iaload, 1) := by decide +kernel
theorem dL_law_380 : decode cL_law 380 = .ok (.invokevirtual 53, 3) := by decide +kernel
theorem dL_law_383 : decode cL_law 383 = .ok (.aload_n 2, 1) := by decide +kernel
theorem dL_law_384 : decode cL_law 384 = .ok (.aload_n 0, 1) := by decide +kernel
theorem dL_law_385 : decode cL_law 385 = .ok (.iload_n 3, 1) := by decide +kernel
theorem dL_law_386 : decode cL_law 386 = .ok (.iconst 1, 1) := by decide +kernel
theorem dL_law_387 : decode cL_law 387 = .ok (.iadd, 1) := by decide +kernel
theorem dL_law_388 : decode cL_law 388 = .ok (.iaload, 1) := by decide +kernel
theorem dL_law_389 : decode cL_law 389 = .ok (.aload_n 0, 1) := by decide +kernel
theorem dL_law_390 : decode cL_law 390 = .ok (.iload_n 3, 1) := by decide +kernel
theorem dL_law_391 : decode cL_law 391 = .ok (.iconst 2, 1) := by decide +kernel
theorem dL_law_392 : decode cL_law 392 = .ok (.iadd, 1) := by decide +kernel
theorem dL_law_393 : decode cL_law 393 = .ok (.iaload, 1) := by decide +kernel
theorem dL_law_394 : decode cL_law 394 = .ok (.invokevirtual 56, 3) := by decide +kernel
theorem dL_law_397 : decode cL_law 397 = .ok (.if_icmp .eq 378, 3) := by decide +kernel
theorem dL_law_400 : decode cL_law 400 = .ok (.iconst 0, 1) := by decide +kernel
theorem dL_law_401 : decode cL_law 401 = .ok (.ireturn, 1) := by decide +kernel
theorem dL_law_402 : decode cL_law 402 = .ok (.aload_n 1, 1) := by decide +kernel
theorem dL_law_403 : decode cL_law 403 = .ok (.aload_n 0, 1) := by decide +kernel
theorem dL_law_404 : decode cL_law 404 = .ok (.iload_n 3, 1) := by decide +kernel
theorem dL_law_405 : decode cL_law 405 = .ok (.iconst 1, 1) := by decide +kernel
theorem dL_law_406 : decode cL_law 406 = .ok (.iadd, 1) := by decide +kernel
theorem dL_law_407 : decode cL_law 407 = .ok (.iaload, 1) := by decide +kernel
theorem dL_law_408 : decode cL_law 408 = .ok (.aload_n 0, 1) := by decide +kernel
theorem dL_law_409 : decode cL_law 409 = .ok (.iload_n 3, 1) := by decide +kernel
theorem dL_law_410 : decode cL_law 410 = .ok (.iconst 2, 1) := by decide +kernel
theorem dL_law_411 : decode cL_law 411 = .ok (.iadd, 1) := by decide +kernel
theorem dL_law_412 : decode cL_law 412 = .ok (.iaload, 1) := by decide +kernel
theorem dL_law_413 : decode cL_law 413 = .ok (.invokevirtual 57, 3) := by decide +kernel
theorem dL_law_416 : decode cL_law 416 = .ok (.aload_n 2, 1) := by decide +kernel
theorem dL_law_417 : decode cL_law 417 = .ok (.aload_n 0, 1) := by decide +kernel
theorem dL_law_418 : decode cL_law 418 = .ok (.iload_n 3, 1) := by decide +kernel
theorem dL_law_419 : decode cL_law 419 = .ok (.iconst 1, 1) := by decide +kernel
theorem dL_law_420 : decode cL_law 420 = .ok (.iadd, 1) := by decide +kernel
theorem dL_law_421 : decode cL_law 421 = .ok (.iaload, 1) := by decide +kernel
theorem dL_law_422 : decode cL_law 422 = .ok (.aload_n 0, 1) := by decide +kernel
theorem dL_law_423 : decode cL_law 423 = .ok (.iload_n 3, 1) := by decide +kernel
theorem dL_law_424 : decode cL_law 424 = .ok (.iconst 2, 1) := by decide +kernel
theorem dL_law_425 : decode cL_law 425 = .ok (.iadd, 1) := by decide +kernel
theorem dL_law_426 : decode cL_law 426 = .ok (.iaload, 1) := by decide +kernel
theorem dL_law_427 : decode cL_law 427 = .ok (.invokevirtual 60, 3) := by decide +kernel
theorem dL_law_430 : decode cL_law 430 = .ok (.if_icmp .eq 345, 3) := by decide +kernel
theorem dL_law_433 : decode cL_law 433 = .ok (.iconst 0, 1) := by decide +kernel
theorem dL_law_434 : decode cL_law 434 = .ok (.ireturn, 1) := by decide +kernel
theorem dL_law_435 : decode cL_law 435 = .ok (.aload_n 1, 1) := by decide +kernel
theorem dL_law_436 : decode cL_law 436 = .ok (.aload_n 0, 1) := by decide +kernel
theorem dL_law_437 : decode cL_law 437 = .ok (.iload_n 3, 1) := by decide +kernel
theorem dL_law_438 : decode cL_law 438 = .ok (.iconst 1, 1) := by decide +kernel
theorem dL_law_439 : decode cL_law 439 = .ok (.iadd, 1) := by decide +kernel
theorem dL_law_440 : decode cL_law 440 = .ok (.iaload, 1) := by decide +kernel
theorem dL_law_441 : decode cL_law 441 = .ok (.invokevirtual 61, 3) := by decide +kernel
theorem dL_law_444 : decode cL_law 444 = .ok (.aload_n 2, 1) := by decide +kernel
theorem dL_law_445 : decode cL_law 445 = .ok (.aload_n 0, 1) := by decide +kernel
theorem dL_law_446 : decode cL_law 446 = .ok (.iload_n 3, 1) := by decide +kernel
theorem dL_law_447 : decode cL_law 447 = .ok (.iconst 1, 1) := by decide +kernel
theorem dL_law_448 : decode cL_law 448 = .ok (.iadd, 1) := by decide +kernel
theorem dL_law_449 : decode cL_law 449 = .ok (.iaload, 1) := by decide +kernel
theorem dL_law_450 : decode cL_law 450 = .ok (.invokevirtual 64, 3) := by decide +kernel
theorem dL_law_453 : decode cL_law 453 = .ok (.if_icmp .eq 322, 3) := by decide +kernel
theorem dL_law_456 : decode cL_law 456 = .ok (.iconst 0, 1) := by decide +kernel
theorem dL_law_457 : decode cL_law 457 = .ok (.ireturn, 1) := by decide +kernel
theorem dL_law_458 : decode cL_law 458 = .ok (.aload_n 1, 1) := by decide +kernel
theorem dL_law_459 : decode cL_law 459 = .ok (.aload_n 0, 1) := by decide +kernel
theorem dL_law_460 : decode cL_law 460 = .ok (.iload_n 3, 1) := by decide +kernel
theorem dL_law_461 : decode cL_law 461 = .ok (.iconst 1, 1) := by decide +kernel
theorem dL_law_462 : decode cL_law 462 = .ok (.iadd, 1) := by decide +kernel
theorem dL_law_463 : decode cL_law 463 = .ok (.iaload, 1) := by decide +kernel
theorem dL_law_464 : decode cL_law 464 = .ok (.aload_n 0, 1) := by decide +kernel
theorem dL_law_465 : decode cL_law 465 = .ok (.iload_n 3, 1) := by decide +kernel
theorem dL_law_466 : decode cL_law 466 = .ok (.iconst 2, 1) := by decide +kernel
theorem dL_law_467 : decode cL_law 467 = .ok (.iadd, 1) := by decide +kernel
theorem dL_law_468 : decode cL_law 468 = .ok (.iaload, 1) := by decide +kernel
theorem dL_law_469 : decode cL_law 469 = .ok (.aload_n 0, 1) := by decide +kernel
theorem dL_law_470 : decode cL_law 470 = .ok (.iload_n 3, 1) := by decide +kernel
theorem dL_law_471 : decode cL_law 471 = .ok (.iconst 3, 1) := by decide +kernel
theorem dL_law_472 : decode cL_law 472 = .ok (.iadd, 1) := by decide +kernel
theorem dL_law_473 : decode cL_law 473 = .ok (.iaload, 1) := by decide +kernel
theorem dL_law_474 : decode cL_law 474 = .ok (.aload_n 0, 1) := by decide +kernel
theorem dL_law_475 : decode cL_law 475 = .ok (.iload_n 3, 1) := by decide +kernel
theorem dL_law_476 : decode cL_law 476 = .ok (.iconst 4, 1) := by decide +kernel
theorem dL_law_477 : decode cL_law 477 = .ok (.iadd, 1) := by decide +kernel
theorem dL_law_478 : decode cL_law 478 = .ok (.iaload, 1) := by decide +kernel
theorem dL_law_479 : decode cL_law 479 = .ok (.invokevirtual 65, 3) := by decide +kernel
theorem dL_law_482 : decode cL_law 482 = .ok (.aload_n 2, 1) := by decide +kernel
theorem dL_law_483 : decode cL_law 483 = .ok (.aload_n 0, 1) := by decide +kernel
theorem dL_law_484 : decode cL_law 484 = .ok (.iload_n 3, 1) := by decide +kernel
theorem dL_law_485 : decode cL_law 485 = .ok (.iconst 1, 1) := by decide +kernel
theorem dL_law_486 : decode cL_law 486 = .ok (.iadd, 1) := by decide +kernel
theorem dL_law_487 : decode cL_law 487 = .ok (.iaload, 1) := by decide +kernel
theorem dL_law_488 : decode cL_law 488 = .ok (.aload_n 0, 1) := by decide +kernel
theorem dL_law_489 : decode cL_law 489 = .ok (.iload_n 3, 1) := by decide +kernel
theorem dL_law_490 : decode cL_law 490 = .ok (.iconst 2, 1) := by decide +kernel
theorem dL_law_491 : decode cL_law 491 = .ok (.iadd, 1) := by decide +kernel
theorem dL_law_492 : decode cL_law 492 = .ok (.iaload, 1) := by decide +kernel
theorem dL_law_493 : decode cL_law 493 = .ok (.aload_n 0, 1) := by decide +kernel
theorem dL_law_494 : decode cL_law 494 = .ok (.iload_n 3, 1) := by decide +kernel
theorem dL_law_495 : decode cL_law 495 = .ok (.iconst 3, 1) := by decide +kernel
theorem dL_law_496 : decode cL_law 496 = .ok (.iadd, 1) := by decide +kernel
theorem dL_law_497 : decode cL_law 497 = .ok (.iaload, 1) := by decide +kernel
theorem dL_law_498 : decode cL_law 498 = .ok (.aload_n 0, 1) := by decide +kernel
theorem dL_law_499 : decode cL_law 499 = .ok (.iload_n 3, 1) := by decide +kernel
theorem dL_law_500 : decode cL_law 500 = .ok (.iconst 4, 1) := by decide +kernel
theorem dL_law_501 : decode cL_law 501 = .ok (.iadd, 1) := by decide +kernel
theorem dL_law_502 : decode cL_law 502 = .ok (.iaload, 1) := by decide +kernel
theorem dL_law_503 : decode cL_law 503 = .ok (.invokevirtual 69, 3) := by decide +kernel
theorem dL_law_506 : decode cL_law 506 = .ok (.if_icmp .eq 269, 3) := by decide +kernel
theorem dL_law_509 : decode cL_law 509 = .ok (.iconst 0, 1) := by decide +kernel
theorem dL_law_510 : decode cL_law 510 = .ok (.ireturn, 1) := by decide +kernel
theorem dL_law_511 : decode cL_law 511 = .ok (.aload_n 1, 1) := by decide +kernel
theorem dL_law_512 : decode cL_law 512 = .ok (.aload_n 0, 1) := by decide +kernel
theorem dL_law_513 : decode cL_law 513 = .ok (.iload_n 3, 1) := by decide +kernel
theorem dL_law_514 : decode cL_law 514 = .ok (.iconst 1, 1) := by decide +kernel
theorem dL_law_515 : decode cL_law 515 = .ok (.iadd, 1) := by decide +kernel
theorem dL_law_516 : decode cL_law 516 = .ok (.iaload, 1) := by decide +kernel
theorem dL_law_517 : decode cL_law 517 = .ok (.invokevirtual 70, 3) := by decide +kernel
theorem dL_law_520 : decode cL_law 520 = .ok (.aload_n 2, 1) := by decide +kernel
theorem dL_law_521 : decode cL_law 521 = .ok (.aload_n 0, 1) := by decide +kernel
theorem dL_law_522 : decode cL_law 522 = .ok (.iload_n 3, 1) := by decide +kernel
theorem dL_law_523 : decode cL_law 523 = .ok (.iconst 1, 1) := by decide +kernel
theorem dL_law_524 : decode cL_law 524 = .ok (.iadd, 1) := by decide +kernel
theorem dL_law_525 : decode cL_law 525 = .ok (.iaload, 1) := by decide +kernel
theorem dL_law_526 : decode cL_law 526 = .ok (.invokevirtual 73, 3) := by decide +kernel
theorem dL_law_529 : decode cL_law 529 = .ok (.if_icmp .eq 246, 3) := by decide +kernel
theorem dL_law_532 : decode cL_law 532 = .ok (.iconst 0, 1) := by decide +kernel
theorem dL_law_533 : decode cL_law 533 = .ok (.ireturn, 1) := by decide +kernel
theorem dL_law_534 : decode cL_law 534 = .ok (.aload_n 1, 1) := by decide +kernel
theorem dL_law_535 : decode cL_law 535 = .ok (.aload_n 0, 1) := by decide +kernel
theorem dL_law_536 : decode cL_law 536 = .ok (.iload_n 3, 1) := by decide +kernel
theorem dL_law_537 : decode cL_law 537 = .ok (.iconst 1, 1) := by decide +kernel
theorem dL_law_538 : decode cL_law 538 = .ok (.iadd, 1) := by decide +kernel
theorem dL_law_539 : decode cL_law 539 = .ok (.iaload, 1) := by decide +kernel
theorem dL_law_540 : decode cL_law 540 = .ok (.invokevirtual 74, 3) := by decide +kernel
theorem dL_law_543 : decode cL_law 543 = .ok (.aload_n 2, 1) := by decide +kernel
theorem dL_law_544 : decode cL_law 544 = .ok (.aload_n 0, 1) := by decide +kernel
theorem dL_law_545 : decode cL_law 545 = .ok (.iload_n 3, 1) := by decide +kernel
theorem dL_law_546 : decode cL_law 546 = .ok (.iconst 1, 1) := by decide +kernel
theorem dL_law_547 : decode cL_law 547 = .ok (.iadd, 1) := by decide +kernel
theorem dL_law_548 : decode cL_law 548 = .ok (.iaload, 1) := by decide +kernel
theorem dL_law_549 : decode cL_law 549 = .ok (.invokevirtual 77, 3) := by decide +kernel
theorem dL_law_552 : decode cL_law 552 = .ok (.if_icmp .eq 223, 3) := by decide +kernel
theorem dL_law_555 : decode cL_law 555 = .ok (.iconst 0, 1) := by decide +kernel
theorem dL_law_556 : decode cL_law 556 = .ok (.ireturn, 1) := by decide +kernel
theorem dL_law_557 : decode cL_law 557 = .ok (.aload_n 1, 1) := by decide +kernel
theorem dL_law_558 : decode cL_law 558 = .ok (.aload_n 0, 1) := by decide +kernel
theorem dL_law_559 : decode cL_law 559 = .ok (.iload_n 3, 1) := by decide +kernel
theorem dL_law_560 : decode cL_law 560 = .ok (.iconst 1, 1) := by decide +kernel
theorem dL_law_561 : decode cL_law 561 = .ok (.iadd, 1) := by decide +kernel
theorem dL_law_562 : decode cL_law 562 = .ok (.iaload, 1) := by decide +kernel
theorem dL_law_563 : decode cL_law 563 = .ok (.aload_n 0, 1) := by decide +kernel
theorem dL_law_564 : decode cL_law 564 = .ok (.iload_n 3, 1) := by decide +kernel
theorem dL_law_565 : decode cL_law 565 = .ok (.iconst 2, 1) := by decide +kernel
theorem dL_law_566 : decode cL_law 566 = .ok (.iadd, 1) := by decide +kernel
theorem dL_law_567 : decode cL_law 567 = .ok (.iaload, 1) := by decide +kernel
theorem dL_law_568 : decode cL_law 568 = .ok (.aload_n 0, 1) := by decide +kernel
theorem dL_law_569 : decode cL_law 569 = .ok (.iload_n 3, 1) := by decide +kernel
theorem dL_law_570 : decode cL_law 570 = .ok (.iconst 3, 1) := by decide +kernel
theorem dL_law_571 : decode cL_law 571 = .ok (.iadd, 1) := by decide +kernel
theorem dL_law_572 : decode cL_law 572 = .ok (.iaload, 1) := by decide +kernel
theorem dL_law_573 : decode cL_law 573 = .ok (.invokevirtual 78, 3) := by decide +kernel
theorem dL_law_576 : decode cL_law 576 = .ok (.aload_n 2, 1) := by decide +kernel
theorem dL_law_577 : decode cL_law 577 = .ok (.aload_n 0, 1) := by decide +kernel
theorem dL_law_578 : decode cL_law 578 = .ok (.iload_n 3, 1) := by decide +kernel
theorem dL_law_579 : decode cL_law 579 = .ok (.iconst 1, 1) := by decide +kernel
theorem dL_law_580 : decode cL_law 580 = .ok (.iadd, 1) := by decide +kernel
theorem dL_law_581 : decode cL_law 581 = .ok (.iaload, 1) := by decide +kernel
theorem dL_law_582 : decode cL_law 582 = .ok (.aload_n 0, 1) := by decide +kernel
theorem dL_law_583 : decode cL_law 583 = .ok (.iload_n 3, 1) := by decide +kernel
theorem dL_law_584 : decode cL_law 584 = .ok (.iconst 2, 1) := by decide +kernel
theorem dL_law_585 : decode cL_law 585 = .ok (.iadd, 1) := by decide +kernel
theorem dL_law_586 : decode cL_law 586 = .ok (.iaload, 1) := by decide +kernel
theorem dL_law_587 : decode cL_law 587 = .ok (.aload_n 0, 1) := by decide +kernel
theorem dL_law_588 : decode cL_law 588 = .ok (.iload_n 3, 1) := by decide +kernel
theorem dL_law_589 : decode cL_law 589 = .ok (.iconst 3, 1) := by decide +kernel
theorem dL_law_590 : decode cL_law 590 = .ok (.iadd, 1) := by decide +kernel
theorem dL_law_591 : decode cL_law 591 = .ok (.iaload, 1) := by decide +kernel
theorem dL_law_592 : decode cL_law 592 = .ok (.invokevirtual 81, 3) := by decide +kernel
theorem dL_law_595 : decode cL_law 595 = .ok (.if_icmp .eq 180, 3) := by decide +kernel
theorem dL_law_598 : decode cL_law 598 = .ok (.iconst 0, 1) := by decide +kernel
theorem dL_law_599 : decode cL_law 599 = .ok (.ireturn, 1) := by decide +kernel
theorem dL_law_600 : decode cL_law 600 = .ok (.aload_n 1, 1) := by decide +kernel
theorem dL_law_601 : decode cL_law 601 = .ok (.aload_n 0, 1) := by decide +kernel
theorem dL_law_602 : decode cL_law 602 = .ok (.iload_n 3, 1) := by decide +kernel
theorem dL_law_603 : decode cL_law 603 = .ok (.iconst 1, 1) := by decide +kernel
theorem dL_law_604 : decode cL_law 604 = .ok (.iadd, 1) := by decide +kernel
theorem dL_law_605 : decode cL_law 605 = .ok (.iaload, 1) := by decide +kernel
theorem dL_law_606 : decode cL_law 606 = .ok (.aload_n 0, 1) := by decide +kernel
theorem dL_law_607 : decode cL_law 607 = .ok (.iload_n 3, 1) := by decide +kernel
theorem dL_law_608 : decode cL_law 608 = .ok (.iconst 2, 1) := by decide +kernel
theorem dL_law_609 : decode cL_law 609 = .ok (.iadd, 1) := by decide +kernel
theorem dL_law_610 : decode cL_law 610 = .ok (.iaload, 1) := by decide +kernel
theorem dL_law_611 : decode cL_law 611 = .ok (.aload_n 0, 1) := by decide +kernel
theorem dL_law_612 : decode cL_law 612 = .ok (.iload_n 3, 1) := by decide +kernel
theorem dL_law_613 : decode cL_law 613 = .ok (.iconst 3, 1) := by decide +kernel
theorem dL_law_614 : decode cL_law 614 = .ok (.iadd, 1) := by decide +kernel
theorem dL_law_615 : decode cL_law 615 = .ok (.iaload, 1) := by decide +kernel
theorem dL_law_616 : decode cL_law 616 = .ok (.aload_n 0, 1) := by decide +kernel
theorem dL_law_617 : decode cL_law 617 = .ok (.iload_n 3, 1) := by decide +kernel
theorem dL_law_618 : decode cL_law 618 = .ok (.iconst 4, 1) := by decide +kernel
theorem dL_law_619 : decode cL_law 619 = .ok (.iadd, 1) := by decide +kernel
theorem dL_law_620 : decode cL_law 620 = .ok (.iaload, 1) := by decide +kernel
theorem dL_law_621 : decode cL_law 621 = .ok (.aload_n 0, 1) := by decide +kernel
theorem dL_law_622 : decode cL_law 622 = .ok (.iload_n 3, 1) := by decide +kernel
theorem dL_law_623 : decode cL_law 623 = .ok (.iconst 5, 1) := by decide +kernel
theorem dL_law_624 : decode cL_law 624 = .ok (.iadd, 1) := by decide +kernel
theorem dL_law_625 : decode cL_law 625 = .ok (.iaload, 1) := by decide +kernel
theorem dL_law_626 : decode cL_law 626 = .ok (.invokevirtual 82, 3) := by decide +kernel
theorem dL_law_629 : decode cL_law 629 = .ok (.aload_n 2, 1) := by decide +kernel
theorem dL_law_630 : decode cL_law 630 = .ok (.aload_n 0, 1) := by decide +kernel
theorem dL_law_631 : decode cL_law 631 = .ok (.iload_n 3, 1) := by decide +kernel
theorem dL_law_632 : decode cL_law 632 = .ok (.iconst 1, 1) := by decide +kernel
theorem dL_law_633 : decode cL_law 633 = .ok (.iadd, 1) := by decide +kernel
theorem dL_law_634 : decode cL_law 634 = .ok (.iaload, 1) := by decide +kernel
theorem dL_law_635 : decode cL_law 635 = .ok (.aload_n 0, 1) := by decide +kernel
theorem dL_law_636 : decode cL_law 636 = .ok (.iload_n 3, 1) := by decide +kernel
theorem dL_law_637 : decode cL_law 637 = .ok (.iconst 2, 1) := by decide +kernel
theorem dL_law_638 : decode cL_law 638 = .ok (.iadd, 1) := by decide +kernel
theorem dL_law_639 : decode cL_law 639 = .ok (.iaload, 1) := by decide +kernel
theorem dL_law_640 : decode cL_law 640 = .ok (.aload_n 0, 1) := by decide +kernel
theorem dL_law_641 : decode cL_law 641 = .ok (.iload_n 3, 1) := by decide +kernel
theorem dL_law_642 : decode cL_law 642 = .ok (.iconst 3, 1) := by decide +kernel
theorem dL_law_643 : decode cL_law 643 = .ok (.iadd, 1) := by decide +kernel
theorem dL_law_644 : decode cL_law 644 = .ok (.iaload, 1) := by decide +kernel
theorem dL_law_645 : decode cL_law 645 = .ok (.aload_n 0, 1) := by decide +kernel
theorem dL_law_646 : decode cL_law 646 = .ok (.iload_n 3, 1) := by decide +kernel
theorem dL_law_647 : decode cL_law 647 = .ok (.iconst 4, 1) := by decide +kernel
theorem dL_law_648 : decode cL_law 648 = .ok (.iadd, 1) := by decide +kernel
theorem dL_law_649 : decode cL_law 649 = .ok (.iaload, 1) := by decide +kernel
theorem dL_law_650 : decode cL_law 650 = .ok (.aload_n 0, 1) := by decide +kernel
theorem dL_law_651 : decode cL_law 651 = .ok (.iload_n 3, 1) := by decide +kernel
theorem dL_law_652 : decode cL_law 652 = .ok (.iconst 5, 1) := by decide +kernel
theorem dL_law_653 : decode cL_law 653 = .ok (.iadd, 1) := by decide +kernel
theorem dL_law_654 : decode cL_law 654 = .ok (.iaload, 1) := by decide +kernel
theorem dL_law_655 : decode cL_law 655 = .ok (.invokevirtual 86, 3) := by decide +kernel
theorem dL_law_658 : decode cL_law 658 = .ok (.if_icmp .eq 117, 3) := by decide +kernel
theorem dL_law_661 : decode cL_law 661 = .ok (.iconst 0, 1) := by decide +kernel
theorem dL_law_662 : decode cL_law 662 = .ok (.ireturn, 1) := by decide +kernel
theorem dL_law_663 : decode cL_law 663 = .ok (.aload_n 1, 1) := by decide +kernel
theorem dL_law_664 : decode cL_law 664 = .ok (.aload_n 0, 1) := by decide +kernel
theorem dL_law_665 : decode cL_law 665 = .ok (.iload_n 3, 1) := by decide +kernel
theorem dL_law_666 : decode cL_law 666 = .ok (.iconst 1, 1) := by decide +kernel
theorem dL_law_667 : decode cL_law 667 = .ok (.iadd, 1) := by decide +kernel
theorem dL_law_668 : decode cL_law 668 = .ok (.iaload, 1) := by decide +kernel
theorem dL_law_669 : decode cL_law 669 = .ok (.aload_n 0, 1) := by decide +kernel
theorem dL_law_670 : decode cL_law 670 = .ok (.iload_n 3, 1) := by decide +kernel
theorem dL_law_671 : decode cL_law 671 = .ok (.iconst 2, 1) := by decide +kernel
theorem dL_law_672 : decode cL_law 672 = .ok (.iadd, 1) := by decide +kernel
theorem dL_law_673 : decode cL_law 673 = .ok (.iaload, 1) := by decide +kernel
theorem dL_law_674 : decode cL_law 674 = .ok (.invokevirtual 87, 3) := by decide +kernel
theorem dL_law_677 : decode cL_law 677 = .ok (.aload_n 2, 1) := by decide +kernel
theorem dL_law_678 : decode cL_law 678 = .ok (.aload_n 0, 1) := by decide +kernel
theorem dL_law_679 : decode cL_law 679 = .ok (.iload_n 3, 1) := by decide +kernel
theorem dL_law_680 : decode cL_law 680 = .ok (.iconst 1, 1) := by decide +kernel
theorem dL_law_681 : decode cL_law 681 = .ok (.iadd, 1) := by decide +kernel
theorem dL_law_682 : decode cL_law 682 = .ok (.iaload, 1) := by decide +kernel
theorem dL_law_683 : decode cL_law 683 = .ok (.aload_n 0, 1) := by decide +kernel
theorem dL_law_684 : decode cL_law 684 = .ok (.iload_n 3, 1) := by decide +kernel
theorem dL_law_685 : decode cL_law 685 = .ok (.iconst 2, 1) := by decide +kernel
theorem dL_law_686 : decode cL_law 686 = .ok (.iadd, 1) := by decide +kernel
theorem dL_law_687 : decode cL_law 687 = .ok (.iaload, 1) := by decide +kernel
theorem dL_law_688 : decode cL_law 688 = .ok (.invokevirtual 90, 3) := by decide +kernel
theorem dL_law_691 : decode cL_law 691 = .ok (.if_icmp .eq 84, 3) := by decide +kernel
theorem dL_law_694 : decode cL_law 694 = .ok (.iconst 0, 1) := by decide +kernel
theorem dL_law_695 : decode cL_law 695 = .ok (.ireturn, 1) := by decide +kernel
theorem dL_law_696 : decode cL_law 696 = .ok (.aload_n 1, 1) := by decide +kernel
theorem dL_law_697 : decode cL_law 697 = .ok (.aload_n 0, 1) := by decide +kernel
theorem dL_law_698 : decode cL_law 698 = .ok (.iload_n 3, 1) := by decide +kernel
theorem dL_law_699 : decode cL_law 699 = .ok (.iconst 1, 1) := by decide +kernel
theorem dL_law_700 : decode cL_law 700 = .ok (.iadd, 1) := by decide +kernel
theorem dL_law_701 : decode cL_law 701 = .ok (.iaload, 1) := by decide +kernel
theorem dL_law_702 : decode cL_law 702 = .ok (.aload_n 0, 1) := by decide +kernel
theorem dL_law_703 : decode cL_law 703 = .ok (.iload_n 3, 1) := by decide +kernel
theorem dL_law_704 : decode cL_law 704 = .ok (.iconst 2, 1) := by decide +kernel
theorem dL_law_705 : decode cL_law 705 = .ok (.iadd, 1) := by decide +kernel
theorem dL_law_706 : decode cL_law 706 = .ok (.iaload, 1) := by decide +kernel
theorem dL_law_707 : decode cL_law 707 = .ok (.invokevirtual 91, 3) := by decide +kernel
theorem dL_law_710 : decode cL_law 710 = .ok (.aload_n 2, 1) := by decide +kernel
theorem dL_law_711 : decode cL_law 711 = .ok (.aload_n 0, 1) := by decide +kernel
theorem dL_law_712 : decode cL_law 712 = .ok (.iload_n 3, 1) := by decide +kernel
theorem dL_law_713 : decode cL_law 713 = .ok (.iconst 1, 1) := by decide +kernel
theorem dL_law_714 : decode cL_law 714 = .ok (.iadd, 1) := by decide +kernel
theorem dL_law_715 : decode cL_law 715 = .ok (.iaload, 1) := by decide +kernel
theorem dL_law_716 : decode cL_law 716 = .ok (.aload_n 0, 1) := by decide +kernel
theorem dL_law_717 : decode cL_law 717 = .ok (.iload_n 3, 1) := by decide +kernel
theorem dL_law_718 : decode cL_law 718 = .ok (.iconst 2, 1) := by decide +kernel
theorem dL_law_719 : decode cL_law 719 = .ok (.iadd, 1) := by decide +kernel
theorem dL_law_720 : decode cL_law 720 = .ok (.iaload, 1) := by decide +kernel
theorem dL_law_721 : decode cL_law 721 = .ok (.invokevirtual 94, 3) := by decide +kernel
theorem dL_law_724 : decode cL_law 724 = .ok (.if_icmp .eq 51, 3) := by decide +kernel
theorem dL_law_727 : decode cL_law 727 = .ok (.iconst 0, 1) := by decide +kernel
theorem dL_law_728 : decode cL_law 728 = .ok (.ireturn, 1) := by decide +kernel
theorem dL_law_729 : decode cL_law 729 = .ok (.aload_n 1, 1) := by decide +kernel
theorem dL_law_730 : decode cL_law 730 = .ok (.aload_n 0, 1) := by decide +kernel
theorem dL_law_731 : decode cL_law 731 = .ok (.iload_n 3, 1) := by decide +kernel
theorem dL_law_732 : decode cL_law 732 = .ok (.iconst 1, 1) := by decide +kernel
theorem dL_law_733 : decode cL_law 733 = .ok (.iadd, 1) := by decide +kernel
theorem dL_law_734 : decode cL_law 734 = .ok (.iaload, 1) := by decide +kernel
theorem dL_law_735 : decode cL_law 735 = .ok (.invokevirtual 95, 3) := by decide +kernel
theorem dL_law_738 : decode cL_law 738 = .ok (.aload_n 2, 1) := by decide +kernel
theorem dL_law_739 : decode cL_law 739 = .ok (.aload_n 0, 1) := by decide +kernel
theorem dL_law_740 : decode cL_law 740 = .ok (.iload_n 3, 1) := by decide +kernel
theorem dL_law_741 : decode cL_law 741 = .ok (.iconst 1, 1) := by decide +kernel
theorem dL_law_742 : decode cL_law 742 = .ok (.iadd, 1) := by decide +kernel
theorem dL_law_743 : decode cL_law 743 = .ok (.iaload, 1) := by decide +kernel
theorem dL_law_744 : decode cL_law 744 = .ok (.invokevirtual 98, 3) := by decide +kernel
theorem dL_law_747 : decode cL_law 747 = .ok (.if_icmp .eq 28, 3) := by decide +kernel
theorem dL_law_750 : decode cL_law 750 = .ok (.iconst 0, 1) := by decide +kernel
theorem dL_law_751 : decode cL_law 751 = .ok (.ireturn, 1) := by decide +kernel
theorem dL_law_752 : decode cL_law 752 = .ok (.aload_n 1, 1) := by decide +kernel
theorem dL_law_753 : decode cL_law 753 = .ok (.aload_n 0, 1) := by decide +kernel
theorem dL_law_754 : decode cL_law 754 = .ok (.iload_n 3, 1) := by decide +kernel
theorem dL_law_755 : decode cL_law 755 = .ok (.iconst 1, 1) := by decide +kernel
theorem dL_law_756 : decode cL_law 756 = .ok (.iadd, 1) := by decide +kernel
theorem dL_law_757 : decode cL_law 757 = .ok (.iaload, 1) := by decide +kernel
theorem dL_law_758 : decode cL_law 758 = .ok (.invokevirtual 99, 3) := by decide +kernel
theorem dL_law_761 : decode cL_law 761 = .ok (.aload_n 2, 1) := by decide +kernel
theorem dL_law_762 : decode cL_law 762 = .ok (.aload_n 0, 1) := by decide +kernel
theorem dL_law_763 : decode cL_law 763 = .ok (.iload_n 3, 1) := by decide +kernel
theorem dL_law_764 : decode cL_law 764 = .ok (.iconst 1, 1) := by decide +kernel
theorem dL_law_765 : decode cL_law 765 = .ok (.iadd, 1) := by decide +kernel
theorem dL_law_766 : decode cL_law 766 = .ok (.iaload, 1) := by decide +kernel
theorem dL_law_767 : decode cL_law 767 = .ok (.invokevirtual 102, 3) := by decide +kernel
theorem dL_law_770 : decode cL_law 770 = .ok (.if_icmp .eq 5, 3) := by decide +kernel
theorem dL_law_773 : decode cL_law 773 = .ok (.iconst 0, 1) := by decide +kernel
theorem dL_law_774 : decode cL_law 774 = .ok (.ireturn, 1) := by decide +kernel
theorem dL_law_775 : decode cL_law 775 = .ok (.iinc 3 6, 3) := by decide +kernel
theorem dL_law_778 : decode cL_law 778 = .ok (.goto (-760), 3) := by decide +kernel
theorem dL_law_781 : decode cL_law 781 = .ok (.iconst 1, 1) := by decide +kernel
theorem dL_law_782 : decode cL_law 782 = .ok (.ireturn, 1) := by decide +kernel
