theorem dX5_text_13 : decode cX5_text 13 = .ok (.putfield 49, 3) := by decide +kernel
theorem dX5_text_16 : decode cX5_text 16 = .ok (.aload_n 0, 1) := by decide +kernel
theorem dX5_text_17 : decode cX5_text 17 = .ok (.getfield 21, 3) := by decide +kernel
theorem dX5_text_20 : decode cX5_text 20 = .ok (.getfield 61, 3) := by decide +kernel
theorem dX5_text_23 : decode cX5_text 23 = .ok (.ifCond .eq 14, 3) := by decide +kernel
theorem dX5_text_26 : decode cX5_text 26 = .ok (.bipush (-10), 2) := by decide +kernel
theorem dX5_text_28 : decode cX5_text 28 = .ok (.aload_n 0, 1) := by decide +kernel
theorem dX5_text_29 : decode cX5_text 29 = .ok (.getfield 21, 3) := by decide +kernel
theorem dX5_text_32 : decode cX5_text 32 = .ok (.getfield 64, 3) := by decide +kernel
theorem dX5_text_35 : decode cX5_text 35 = .ok (.isub, 1) := by decide +kernel
theorem dX5_text_36 : decode cX5_text 36 = .ok (.ireturn, 1) := by decide +kernel
theorem dX5_text_37 : decode cX5_text 37 = .ok (.aload_n 0, 1) := by decide +kernel
theorem dX5_text_38 : decode cX5_text 38 = .ok (.getfield 28, 3) := by decide +kernel
theorem dX5_text_41 : decode cX5_text 41 = .ok (.getfield 67, 3) := by decide +kernel
theorem dX5_text_44 : decode cX5_text 44 = .ok (.aload_n 0, 1) := by decide +kernel
theorem dX5_text_45 : decode cX5_text 45 = .ok (.getfield 21, 3) := by decide +kernel
theorem dX5_text_48 : decode cX5_text 48 = .ok (.getfield 71, 3) := by decide +kernel
theorem dX5_text_51 : decode cX5_text 51 = .ok (.invokevirtual 72, 3) := by decide +kernel
theorem dX5_text_54 : decode cX5_text 54 = .ok (.aload_n 0, 1) := by decide +kernel
theorem dX5_text_55 : decode cX5_text 55 = .ok (.getfield 28, 3) := by decide +kernel
theorem dX5_text_58 : decode cX5_text 58 = .ok (.invokevirtual 78, 3) := by decide +kernel
theorem dX5_text_61 : decode cX5_text 61 = .ok (.iconst 0, 1) := by decide +kernel
theorem dX5_text_62 : decode cX5_text 62 = .ok (.istore_n 2, 1) := by decide +kernel
theorem dX5_text_63 : decode cX5_text 63 = .ok (.iload_n 2, 1) := by decide +kernel
theorem dX5_text_64 : decode cX5_text 64 = .ok (.iconst 2, 1) := by decide +kernel
theorem dX5_text_65 : decode cX5_text 65 = .ok (.if_icmp .ge 16, 3) := by decide +kernel
theorem dX5_text_68 : decode cX5_text 68 = .ok (.aload_n 0, 1) := by decide +kernel
theorem dX5_text_69 : decode cX5_text 69 = .ok (.getfield 45, 3) := by decide +kernel
theorem dX5_text_72 : decode cX5_text 72 = .ok (.iload_n 2, 1) := by decide +kernel
theorem dX5_text_73 : decode cX5_text 73 = .ok (.iconst 0, 1) := by decide +kernel
theorem dX5_text_74 : decode cX5_text 74 = .ok (.bastore, 1) := by decide +kernel
theorem dX5_text_75 : decode cX5_text 75 = .ok (.iinc 2 1, 3) := by decide +kernel
theorem dX5_text_78 : decode cX5_text 78 = .ok (.goto (-15), 3) := by decide +kernel
theorem dX5_text_81 : decode cX5_text 81 = .ok (.iload_n 1, 1) := by decide +kernel
theorem dX5_text_82 : decode cX5_text 82 = .ok (.ireturn, 1) := by decide +kernel
theorem dX5_fault_0 : decode cX5_fault 0 = .ok (.aload_n 0, 1) := by decide +kernel
theorem dX5_fault_1 : decode cX5_fault 1 = .ok (.getfield 21, 3) := by decide +kernel
theorem dX5_fault_4 : decode cX5_fault 4 = .ok (.getfield 61, 3) := by decide +kernel
theorem dX5_fault_7 : decode cX5_fault 7 = .ok (.ireturn, 1) := by decide +kernel
theorem dX5_rule_0 : decode cX5_rule 0 = .ok (.iload_n 1, 1) := by decide +kernel
theorem dX5_rule_1 : decode cX5_rule 1 = .ok (.tableswitch 153 0 18 #[91, 102, 113, 124, 153, 153, 153, 153, 132, 153, 153, 153, 153, 153, 153, 153, 153, 140, 148], 91) := by decide +kernel
theorem dX5_rule_92 : decode cX5_rule 92 = .ok (.aload_n 0, 1) := by decide +kernel
theorem dX5_rule_93 : decode cX5_rule 93 = .ok (.getfield 28, 3) := by decide +kernel
theorem dX5_rule_96 : decode cX5_rule 96 = .ok (.getfield 67, 3) := by decide +kernel
theorem dX5_rule_99 : decode cX5_rule 99 = .ok (.getfield 81, 3) := by decide +kernel
theorem dX5_rule_102 : decode cX5_rule 102 = .ok (.ireturn, 1) := by decide +kernel
theorem dX5_rule_103 : decode cX5_rule 103 = .ok (.aload_n 0, 1) := by decide +kernel
theorem dX5_rule_104 : decode cX5_rule 104 = .ok (.getfield 28, 3) := by decide +kernel
theorem dX5_rule_107 : decode cX5_rule 107 = .ok (.getfield 67, 3) := by decide +kernel
theorem dX5_rule_110 : decode cX5_rule 110 = .ok (.getfield 84, 3) := by decide +kernel
theorem dX5_rule_113 : decode cX5_rule 113 = .ok (.ireturn, 1) := by decide +kernel
theorem dX5_rule_114 : decode cX5_rule 114 = .ok (.aload_n 0, 1) := by decide +kernel
theorem dX5_rule_115 : decode cX5_rule 115 = .ok (.getfield 28, 3) := by decide +kernel
theorem dX5_rule_118 : decode cX5_rule 118 = .ok (.getfield 67, 3) := by decide +kernel
theorem dX5_rule_121 : decode cX5_rule 121 = .ok (.getfield 87, 3) := by decide +kernel
theorem dX5_rule_124 : decode cX5_rule 124 = .ok (.ireturn, 1) := by decide +kernel
theorem dX5_rule_125 : decode cX5_rule 125 = .ok (.aload_n 0, 1) := by decide +kernel
theorem dX5_rule_126 : decode cX5_rule 126 = .ok (.getfield 28, 3) := by decide +kernel
theorem dX5_rule_129 : decode cX5_rule 129 = .ok (.getfield 90, 3) := by decide +kernel
theorem dX5_rule_132 : decode cX5_rule 132 = .ok (.ireturn, 1) := by decide +kernel
theorem dX5_rule_133 : decode cX5_rule 133 = .ok (.aload_n 0, 1) := by decide +kernel
theorem dX5_rule_134 : decode cX5_rule 134 = .ok (.getfield 28, 3) := by decide +kernel
theorem dX5_rule_137 : decode cX5_rule 137 = .ok (.invokevirtual 93, 3) := by decide +kernel
theorem dX5_rule_140 : decode cX5_rule 140 = .ok (.ireturn, 1) := by decide +kernel
theorem dX5_rule_141 : decode cX5_rule 141 = .ok (.aload_n 0, 1) := by decide +kernel
theorem dX5_rule_142 : decode cX5_rule 142 = .ok (.getfield 10, 3) := by decide +kernel
theorem dX5_rule_145 : decode cX5_rule 145 = .ok (.getfield 49, 3) := by decide +kernel
theorem dX5_rule_148 : decode cX5_rule 148 = .ok (.ireturn, 1) := by decide +kernel
theorem dX5_rule_149 : decode cX5_rule 149 = .ok (.aload_n 0, 1) := by decide +kernel
theorem dX5_rule_150 : decode cX5_rule 150 = .ok (.invokevirtual 96, 3) := by decide +kernel
theorem dX5_rule_153 : decode cX5_rule 153 = .ok (.ireturn, 1) := by decide +kernel
theorem dX5_rule_154 : decode cX5_rule 154 = .ok (.iload_n 1, 1) := by decide +kernel
theorem dX5_rule_155 : decode cX5_rule 155 = .ok (.iconst 4, 1) := by decide +kernel
theorem dX5_rule_156 : decode cX5_rule 156 = .ok (.if_icmp .lt 21, 3) := by decide +kernel
theorem dX5_rule_159 : decode cX5_rule 159 = .ok (.iload_n 1, 1) := by decide +kernel
theorem dX5_rule_160 : decode cX5_rule 160 = .ok (.bipush 7, 2) := by decide +kernel
theorem dX5_rule_162 : decode cX5_rule 162 = .ok (.if_icmp .gt 15, 3) := by decide +kernel
theorem dX5_rule_165 : decode cX5_rule 165 = .ok (.aload_n 0, 1) := by decide +kernel
theorem dX5_rule_166 : decode cX5_rule 166 = .ok (.getfield 28, 3) := by decide +kernel
theorem dX5_rule_169 : decode cX5_rule 169 = .ok (.getfield 99, 3) := by decide +kernel
theorem dX5_rule_172 : decode cX5_rule 172 = .ok (.iload_n 1, 1) := by decide +kernel
theorem dX5_rule_173 : decode cX5_rule 173 = .ok (.iconst 4, 1) := by decide +kernel
theorem dX5_rule_174 : decode cX5_rule 174 = .ok (.isub, 1) := by decide +kernel
theorem dX5_rule_175 : decode cX5_rule 175 = .ok (.iaload, 1) := by decide +kernel
theorem dX5_rule_176 : decode cX5_rule 176 = .ok (.ireturn, 1) := by decide +kernel
theorem dX5_rule_177 : decode cX5_rule 177 = .ok (.iload_n 1, 1) := by decide +kernel
theorem dX5_rule_178 : decode cX5_rule 178 = .ok (.bipush 9, 2) := by decide +kernel
theorem dX5_rule_180 : decode cX5_rule 180 = .ok (.if_icmp .lt 22, 3) := by decide +kernel
theorem dX5_rule_183 : decode cX5_rule 183 = .ok (.iload_n 1, 1) := by decide +kernel
theorem dX5_rule_184 : decode cX5_rule 184 = .ok (.bipush 16, 2) := by decide +kernel
theorem dX5_rule_186 : decode cX5_rule 186 = .ok (.if_icmp .gt 16, 3) := by decide +kernel
theorem dX5_rule_189 : decode cX5_rule 189 = .ok (.aload_n 0, 1) := by decide +kernel
theorem dX5_rule_190 : decode cX5_rule 190 = .ok (.getfield 28, 3) := by decide +kernel
theorem dX5_rule_193 : decode cX5_rule 193 = .ok (.getfield 103, 3) := by decide +kernel
theorem dX5_rule_196 : decode cX5_rule 196 = .ok (.iload_n 1, 1) := by decide +kernel
theorem dX5_rule_197 : decode cX5_rule 197 = .ok (.bipush 9, 2) := by decide +kernel
theorem dX5_rule_199 : decode cX5_rule 199 = .ok (.isub, 1) := by decide +kernel
theorem dX5_rule_200 : decode cX5_rule 200 = .ok (.iaload, 1) := by decide +kernel
theorem dX5_rule_201 : decode cX5_rule 201 = .ok (.ireturn, 1) := by decide +kernel
theorem dX5_rule_202 : decode cX5_rule 202 = .ok (.iconst (-1), 1) := by decide +kernel
theorem dX5_rule_203 : decode cX5_rule 203 = .ok (.ireturn, 1) := by decide +kernel
theorem dX5_node_0 : decode cX5_node 0 = .ok (.aload_n 0, 1) := by decide +kernel
theorem dX5_node_1 : decode cX5_node 1 = .ok (.getfield 28, 3) := by decide +kernel
theorem dX5_node_4 : decode cX5_node 4 = .ok (.getfield 67, 3) := by decide +kernel
theorem dX5_node_7 : decode cX5_node 7 = .ok (.iload_n 1, 1) := by decide +kernel
theorem dX5_node_8 : decode cX5_node 8 = .ok (.invokevirtual 106, 3) := by decide +kernel
theorem dX5_node_11 : decode cX5_node 11 = .ok (.ifCond .ne 5, 3) := by decide +kernel
theorem dX5_node_14 : decode cX5_node 14 = .ok (.iconst (-1), 1) := by decide +kernel
theorem dX5_node_15 : decode cX5_node 15 = .ok (.ireturn, 1) := by decide +kernel
theorem dX5_node_16 : decode cX5_node 16 = .ok (.iload_n 2, 1) := by decide +kernel
theorem dX5_node_17 : decode cX5_node 17 = .ok (.tableswitch 88 0 4 #[35, 48, 57, 66, 79], 35) := by decide +kernel
theorem dX5_node_52 : decode cX5_node 52 = .ok (.aload_n 0, 1) := by decide +kernel
theorem dX5_node_53 : decode cX5_node 53 = .ok (.getfield 28, 3) := by decide +kernel
theorem dX5_node_56 : decode cX5_node 56 = .ok (.getfield 67, 3) := by decide +kernel
theorem dX5_node_59 : decode cX5_node 59 = .ok (.getfield 110, 3) := by decide +kernel
theorem dX5_node_62 : decode cX5_node 62 = .ok (.iload_n 1, 1) := by decide +kernel
theorem dX5_node_63 : decode cX5_node 63 = .ok (.iaload, 1) := by decide +kernel
theorem dX5_node_64 : decode cX5_node 64 = .ok (.ireturn, 1) := by decide +kernel
theorem dX5_node_65 : decode cX5_node 65 = .ok (.aload_n 0, 1) := by decide +kernel
theorem dX5_node_66 : decode cX5_node 66 = .ok (.getfield 28, 3) := by decide +kernel
theorem dX5_node_69 : decode cX5_node 69 = .ok (.iload_n 1, 1) := by decide +kernel
theorem dX5_node_70 : decode cX5_node 70 = .ok (.invokevirtual 113, 3) := by decide +kernel
theorem dX5_node_73 : decode cX5_node 73 = .ok (.ireturn, 1) := by decide +kernel
theorem dX5_node_74 : decode cX5_node 74 = .ok (.aload_n 0, 1) := by decide +kernel
theorem dX5_node_75 : decode cX5_node 75 = .ok (.getfield 28, 3) := by decide +kernel
theorem dX5_node_78 : decode cX5_node 78 = .ok (.iload_n 1, 1) := by decide +kernel
theorem dX5_node_79 : decode cX5_node 79 = .ok (.invokevirtual 117, 3) := by decide +kernel
theorem dX5_node_82 : decode cX5_node 82 = .ok (.ireturn, 1) := by decide +kernel
theorem dX5_node_83 : decode cX5_node 83 = .ok (.aload_n 0, 1) := by decide +kernel
theorem dX5_node_84 : decode cX5_node 84 = .ok (.getfield 28, 3) := by decide +kernel
theorem dX5_node_87 : decode cX5_node 87 = .ok (.getfield 120, 3) := by decide +kernel
theorem dX5_node_90 : decode cX5_node 90 = .ok (.iload_n 1, 1) := by decide +kernel
theorem dX5_node_91 : decode cX5_node 91 = .ok (.iaload, 1) := by decide +kernel
theorem dX5_node_92 : decode cX5_node 92 = .ok (.invokestatic 123, 3) := by decide +kernel
theorem dX5_node_95 : decode cX5_node 95 = .ok (.ireturn, 1) := by decide +kernel
theorem dX5_node_96 : decode cX5_node 96 = .ok (.aload_n 0, 1) := by decide +kernel
theorem dX5_node_97 : decode cX5_node 97 = .ok (.getfield 28, 3) := by decide +kernel
theorem dX5_node_100 : decode cX5_node 100 = .ok (.iload_n 1, 1) := by decide +kernel
theorem dX5_node_101 : decode cX5_node 101 = .ok (.invokevirtual 128, 3) := by decide +kernel
theorem dX5_node_104 : decode cX5_node 104 = .ok (.ireturn, 1) := by decide +kernel
theorem dX5_node_105 : decode cX5_node 105 = .ok (.iconst (-1), 1) := by decide +kernel
theorem dX5_node_106 : decode cX5_node 106 = .ok (.ireturn, 1) := by decide +kernel
theorem dX5_meeting_0 : decode cX5_meeting 0 = .ok (.iload_n 1, 1) := by decide +kernel
theorem dX5_meeting_1 : decode cX5_meeting 1 = .ok (.ifCond .lt 26, 3) := by decide +kernel
theorem dX5_meeting_4 : decode cX5_meeting 4 = .ok (.iload_n 1, 1) := by decide +kernel
theorem dX5_meeting_5 : decode cX5_meeting 5 = .ok (.aload_n 0, 1) := by decide +kernel
theorem dX5_meeting_6 : decode cX5_meeting 6 = .ok (.getfield 28, 3) := by decide +kernel
theorem dX5_meeting_9 : decode cX5_meeting 9 = .ok (.getfield 67, 3) := by decide +kernel
theorem dX5_meeting_12 : decode cX5_meeting 12 = .ok (.getfield 84, 3) := by decide +kernel
theorem dX5_meeting_15 : decode cX5_meeting 15 = .ok (.if_icmp .ge 12, 3) := by decide +kernel
theorem dX5_meeting_18 : decode cX5_meeting 18 = .ok (.iload_n 2, 1) := by decide +kernel
theorem dX5_meeting_19 : decode cX5_meeting 19 = .ok (.ifCond .lt 8, 3) := by decide +kernel
theorem dX5_meeting_22 : decode cX5_meeting 22 = .ok (.iload_n 2, 1) := by decide +kernel
theorem dX5_meeting_23 : decode cX5_meeting 23 = .ok (.iconst 4, 1) := by decide +kernel
theorem dX5_meeting_24 : decode cX5_meeting 24 = .ok (.if_icmp .le 5, 3) := by decide +kernel
theorem dX5_meeting_27 : decode cX5_meeting 27 = .ok (.iconst (-1), 1) := by decide +kernel
theorem dX5_meeting_28 : decode cX5_meeting 28 = .ok (.ireturn, 1) := by decide +kernel
theorem dX5_meeting_29 : decode cX5_meeting 29 = .ok (.iload_n 2, 1) := by decide +kernel
theorem dX5_meeting_30 : decode cX5_meeting 30 = .ok (.iconst 4, 1) := by decide +kernel
theorem dX5_meeting_31 : decode cX5_meeting 31 = .ok (.if_icmp .ne 31, 3) := by decide +kernel
theorem dX5_meeting_34 : decode cX5_meeting 34 = .ok (.aload_n 0, 1) := by decide +kernel
theorem dX5_meeting_35 : decode cX5_meeting 35 = .ok (.getfield 28, 3) := by decide +kernel
theorem dX5_meeting_38 : decode cX5_meeting 38 = .ok (.getfield 67, 3) := by decide +kernel
theorem dX5_meeting_41 : decode cX5_meeting 41 = .ok (.iload_n 1, 1) := by decide +kernel
theorem dX5_meeting_42 : decode cX5_meeting 42 = .ok (.aload_n 0, 1) := by decide +kernel
theorem dX5_meeting_43 : decode cX5_meeting 43 = .ok (.getfield 28, 3) := by decide +kernel
theorem dX5_meeting_46 : decode cX5_meeting 46 = .ok (.getfield 90, 3) := by decide +kernel
theorem dX5_meeting_49 : decode cX5_meeting 49 = .ok (.aload_n 0, 1) := by decide +kernel
theorem dX5_meeting_50 : decode cX5_meeting 50 = .ok (.getfield 28, 3) := by decide +kernel
theorem dX5_meeting_53 : decode cX5_meeting 53 = .ok (.getfield 99, 3) := by decide +kernel
theorem dX5_meeting_56 : decode cX5_meeting 56 = .ok (.iconst 0, 1) := by decide +kernel
theorem dX5_meeting_57 : decode cX5_meeting 57 = .ok (.iaload, 1) := by decide +kernel
theorem dX5_meeting_58 : decode cX5_meeting 58 = .ok (.invokevirtual 131, 3) := by decide +kernel
theorem dX5_meeting_61 : decode cX5_meeting 61 = .ok (.ireturn, 1) := by decide +kernel
theorem dX5_meeting_62 : decode cX5_meeting 62 = .ok (.aload_n 0, 1) := by decide +kernel
theorem dX5_meeting_63 : decode cX5_meeting 63 = .ok (.getfield 28, 3) := by decide +kernel
theorem dX5_meeting_66 : decode cX5_meeting 66 = .ok (.getfield 67, 3) := by decide +kernel
theorem dX5_meeting_69 : decode cX5_meeting 69 = .ok (.iload_n 1, 1) := by decide +kernel
theorem dX5_meeting_70 : decode cX5_meeting 70 = .ok (.iload_n 2, 1) := by decide +kernel
theorem dX5_meeting_71 : decode cX5_meeting 71 = .ok (.invokevirtual 135, 3) := by decide +kernel
theorem dX5_meeting_74 : decode cX5_meeting 74 = .ok (.ireturn, 1) := by decide +kernel
theorem dX5_letter_0 : decode cX5_letter 0 = .ok (.aload_n 0, 1) := by decide +kernel
theorem dX5_letter_1 : decode cX5_letter 1 = .ok (.getfield 28, 3) := by decide +kernel
theorem dX5_letter_4 : decode cX5_letter 4 = .ok (.getfield 67, 3) := by decide +kernel
theorem dX5_letter_7 : decode cX5_letter 7 = .ok (.iload_n 1, 1) := by decide +kernel
theorem dX5_letter_8 : decode cX5_letter 8 = .ok (.invokevirtual 139, 3) := by decide +kernel
theorem dX5_letter_11 : decode cX5_letter 11 = .ok (.ifCond .eq 13, 3) := by decide +kernel
theorem dX5_letter_14 : decode cX5_letter 14 = .ok (.iload_n 2, 1) := by decide +kernel
theorem dX5_letter_15 : decode cX5_letter 15 = .ok (.ifCond .lt 9, 3) := by decide +kernel
theorem dX5_letter_18 : decode cX5_letter 18 = .ok (.iload_n 2, 1) := by decide +kernel
theorem dX5_letter_19 : decode cX5_letter 19 = .ok (.bipush 10, 2) := by decide +kernel
theorem dX5_letter_21 : decode cX5_letter 21 = .ok (.if_icmp .le 5, 3) := by decide +kernel
theorem dX5_letter_24 : decode cX5_letter 24 = .ok (.iconst (-1), 1) := by decide +kernel
theorem dX5_letter_25 : decode cX5_letter 25 = .ok (.ireturn, 1) := by decide +kernel
theorem dX5_letter_26 : decode cX5_letter 26 = .ok (.iload_n 2, 1) := by decide +kernel
theorem dX5_letter_27 : decode cX5_letter 27 = .ok (.tableswitch 80 6 10 #[33, 42, 52, 62, 71], 33) := by decide +kernel
theorem dX5_letter_60 : decode cX5_letter 60 = .ok (.aload_n 0, 1) := by decide +kernel
theorem dX5_letter_61 : decode cX5_letter 61 = .ok (.getfield 28, 3) := by decide +kernel
theorem dX5_letter_64 : decode cX5_letter 64 = .ok (.iload_n 1, 1) := by decide +kernel
theorem dX5_letter_65 : decode cX5_letter 65 = .ok (.invokevirtual 142, 3) := by decide +kernel
theorem dX5_letter_68 : decode cX5_letter 68 = .ok (.ireturn, 1) := by decide +kernel
theorem dX5_letter_69 : decode cX5_letter 69 = .ok (.aload_n 0, 1) := by decide +kernel
theorem dX5_letter_70 : decode cX5_letter 70 = .ok (.getfield 28, 3) := by decide +kernel
theorem dX5_letter_73 : decode cX5_letter 73 = .ok (.getfield 145, 3) := by decide +kernel
theorem dX5_letter_76 : decode cX5_letter 76 = .ok (.iload_n 1, 1) := by decide +kernel
theorem dX5_letter_77 : decode cX5_letter 77 = .ok (.iaload, 1) := by decide +kernel
theorem dX5_letter_78 : decode cX5_letter 78 = .ok (.ireturn, 1) := by decide +kernel
theorem dX5_letter_79 : decode cX5_letter 79 = .ok (.aload_n 0, 1) := by decide +kernel
theorem dX5_letter_80 : decode cX5_letter 80 = .ok (.getfield 28, 3) := by decide +kernel
theorem dX5_letter_83 : decode cX5_letter 83 = .ok (.getfield 148, 3) := by decide +kernel
theorem dX5_letter_86 : decode cX5_letter 86 = .ok (.iload_n 1, 1) := by decide +kernel
theorem dX5_letter_87 : decode cX5_letter 87 = .ok (.iaload, 1) := by decide +kernel
theorem dX5_letter_88 : decode cX5_letter 88 = .ok (.ireturn, 1) := by decide +kernel
theorem dX5_letter_89 : decode cX5_letter 89 = .ok (.aload_n 0, 1) := by decide +kernel
theorem dX5_letter_90 : decode cX5_letter 90 = .ok (.getfield 28, 3) := by decide +kernel
theorem dX5_letter_93 : decode cX5_letter 93 = .ok (.iload_n 1, 1) := by decide +kernel
theorem dX5_letter_94 : decode cX5_letter 94 = .ok (.invokevirtual 151, 3) := by decide +kernel
theorem dX5_letter_97 : decode cX5_letter 97 = .ok (.ireturn, 1) := by decide +kernel
theorem dX5_letter_98 : decode cX5_letter 98 = .ok (.aload_n 0, 1) := by decide +kernel
theorem dX5_letter_99 : decode cX5_letter 99 = .ok (.getfield 28, 3) := by decide +kernel
theorem dX5_letter_102 : decode cX5_letter 102 = .ok (.iload_n 1, 1) := by decide +kernel
theorem dX5_letter_103 : decode cX5_letter 103 = .ok (.invokevirtual 154, 3) := by decide +kernel
theorem dX5_letter_106 : decode cX5_letter 106 = .ok (.ireturn, 1) := by decide +kernel
theorem dX5_letter_107 : decode cX5_letter 107 = .ok (.aload_n 0, 1) := by decide +kernel
theorem dX5_letter_108 : decode cX5_letter 108 = .ok (.getfield 28, 3) := by decide +kernel
theorem dX5_letter_111 : decode cX5_letter 111 = .ok (.getfield 67, 3) := by decide +kernel
theorem dX5_letter_114 : decode cX5_letter 114 = .ok (.iload_n 1, 1) := by decide +kernel
theorem dX5_letter_115 : decode cX5_letter 115 = .ok (.iload_n 2, 1) := by decide +kernel
theorem dX5_letter_116 : decode cX5_letter 116 = .ok (.invokevirtual 157, 3) := by decide +kernel
theorem dX5_letter_119 : decode cX5_letter 119 = .ok (.ireturn, 1) := by decide +kernel
theorem dX5_copy_0 : decode cX5_copy 0 = .ok (.aload_n 0, 1) := by decide +kernel
theorem dX5_copy_1 : decode cX5_copy 1 = .ok (.getfield 28, 3) := by decide +kernel
theorem dX5_copy_4 : decode cX5_copy 4 = .ok (.getfield 67, 3) := by decide +kernel
theorem dX5_copy_7 : decode cX5_copy 7 = .ok (.iload_n 1, 1) := by decide +kernel
theorem dX5_copy_8 : decode cX5_copy 8 = .ok (.invokevirtual 106, 3) := by decide +kernel
theorem dX5_copy_11 : decode cX5_copy 11 = .ok (.ifCond .eq 16, 3) := by decide +kernel
theorem dX5_copy_14 : decode cX5_copy 14 = .ok (.iload_n 2, 1) := by decide +kernel
theorem dX5_copy_15 : decode cX5_copy 15 = .ok (.ifCond .lt 12, 3) := by decide +kernel
theorem dX5_copy_18 : decode cX5_copy 18 = .ok (.iload_n 3, 1) := by decide +kernel
theorem dX5_copy_19 : decode cX5_copy 19 = .ok (.ifCond .lt 8, 3) := by decide +kernel
theorem dX5_copy_22 : decode cX5_copy 22 = .ok (.iload_n 3, 1) := by decide +kernel
theorem dX5_copy_23 : decode cX5_copy 23 = .ok (.iconst 3, 1) := by decide +kernel
theorem dX5_copy_24 : decode cX5_copy 24 = .ok (.if_icmp .le 5, 3) := by decide +kernel
theorem dX5_copy_27 : decode cX5_copy 27 = .ok (.iconst (-1), 1) := by decide +kernel
theorem dX5_copy_28 : decode cX5_copy 28 = .ok (.ireturn, 1) := by decide +kernel
theorem dX5_copy_29 : decode cX5_copy 29 = .ok (.aload_n 0, 1) := by decide +kernel
theorem dX5_copy_30 : decode cX5_copy 30 = .ok (.getfield 37, 3) := by decide +kernel
theorem dX5_copy_33 : decode cX5_copy 33 = .ok (.iload_n 1, 1) := by decide +kernel
theorem dX5_copy_34 : decode cX5_copy 34 = .ok (.iload_n 2, 1) := by decide +kernel
theorem dX5_copy_35 : decode cX5_copy 35 = .ok (.invokevirtual 160, 3) := by decide +kernel
theorem dX5_copy_38 : decode cX5_copy 38 = .ok (.istore 4, 2) := by decide +kernel
theorem dX5_copy_40 : decode cX5_copy 40 = .ok (.iload 4, 2) := by decide +kernel
theorem dX5_copy_42 : decode cX5_copy 42 = .ok (.ifCond .ge 6, 3) := by decide +kernel
theorem dX5_copy_45 : decode cX5_copy 45 = .ok (.bipush (-4), 2) := by decide +kernel
theorem dX5_copy_47 : decode cX5_copy 47 = .ok (.ireturn, 1) := by decide +kernel
theorem dX5_copy_48 : decode cX5_copy 48 = .ok (.iload_n 1, 1) := by decide +kernel
theorem dX5_copy_49 : decode cX5_copy 49 = .ok (.iload 4, 2) := by decide +kernel
theorem dX5_copy_51 : decode cX5_copy 51 = .ok (.invokestatic 163, 3) := by decide +kernel
theorem dX5_copy_54 : decode cX5_copy 54 = .ok (.istore 5, 2) := by decide +kernel
theorem dX5_copy_56 : decode cX5_copy 56 = .ok (.iload_n 3, 1) := by decide +kernel
theorem dX5_copy_57 : decode cX5_copy 57 = .ok (.tableswitch 52 0 2 #[27, 30, 41], 27) := by decide +kernel
theorem dX5_copy_84 : decode cX5_copy 84 = .ok (.iload 4, 2) := by decide +kernel
theorem dX5_copy_86 : decode cX5_copy 86 = .ok (.ireturn, 1) := by decide +kernel
theorem dX5_copy_87 : decode cX5_copy 87 = .ok (.aload_n 0, 1) := by decide +kernel
theorem dX5_copy_88 : decode cX5_copy 88 = .ok (.getfield 28, 3) := by decide +kernel
theorem dX5_copy_91 : decode cX5_copy 91 = .ok (.getfield 166, 3) := by decide +kernel
theorem dX5_copy_94 : decode cX5_copy 94 = .ok (.iload 5, 2) := by decide +kernel
theorem dX5_copy_96 : decode cX5_copy 96 = .ok (.iaload, 1) := by decide +kernel
theorem dX5_copy_97 : decode cX5_copy 97 = .ok (.ireturn, 1) := by decide +kernel
theorem dX5_copy_98 : decode cX5_copy 98 = .ok (.aload_n 0, 1) := by decide +kernel
theorem dX5_copy_99 : decode cX5_copy 99 = .ok (.getfield 28, 3) := by decide +kernel
theorem dX5_copy_102 : decode cX5_copy 102 = .ok (.getfield 169, 3) := by decide +kernel
theorem dX5_copy_105 : decode cX5_copy 105 = .ok (.iload 5, 2) := by decide +kernel
theorem dX5_copy_107 : decode cX5_copy 107 = .ok (.iaload, 1) := by decide +kernel
theorem dX5_copy_108 : decode cX5_copy 108 = .ok (.ireturn, 1) := by decide +kernel
theorem dX5_copy_109 : decode cX5_copy 109 = .ok (.aload_n 0, 1) := by decide +kernel
theorem dX5_copy_110 : decode cX5_copy 110 = .ok (.getfield 28, 3) := by decide +kernel
theorem dX5_copy_113 : decode cX5_copy 113 = .ok (.getfield 172, 3) := by decide +kernel
theorem dX5_copy_116 : decode cX5_copy 116 = .ok (.iload 5, 2) := by decide +kernel
theorem dX5_copy_118 : decode cX5_copy 118 = .ok (.iaload, 1) := by decide +kernel
theorem dX5_copy_119 : decode cX5_copy 119 = .ok (.ireturn, 1) := by decide +kernel
theorem dX5_note_0 : decode cX5_note 0 = .ok (.aload_n 0, 1) := by decide +kernel
theorem dX5_note_1 : decode cX5_note 1 = .ok (.getfield 28, 3) := by decide +kernel
theorem dX5_note_4 : decode cX5_note 4 = .ok (.getfield 67, 3) := by decide +kernel
theorem dX5_note_7 : decode cX5_note 7 = .ok (.iload_n 1, 1) := by decide +kernel
theorem dX5_note_8 : decode cX5_note 8 = .ok (.invokevirtual 106, 3) := by decide +kernel
theorem dX5_note_11 : decode cX5_note 11 = .ok (.ifCond .eq 17, 3) := by decide +kernel
theorem dX5_note_14 : decode cX5_note 14 = .ok (.aload_n 0, 1) := by decide +kernel
theorem dX5_note_15 : decode cX5_note 15 = .ok (.getfield 28, 3) := by decide +kernel
theorem dX5_note_18 : decode cX5_note 18 = .ok (.getfield 67, 3) := by decide +kernel
theorem dX5_note_21 : decode cX5_note 21 = .ok (.iload_n 2, 1) := by decide +kernel
theorem dX5_note_22 : decode cX5_note 22 = .ok (.invokevirtual 139, 3) := by decide +kernel
theorem dX5_note_25 : decode cX5_note 25 = .ok (.ifCond .ne 5, 3) := by decide +kernel
theorem dX5_note_28 : decode cX5_note 28 = .ok (.iconst (-1), 1) := by decide +kernel
theorem dX5_note_29 : decode cX5_note 29 = .ok (.ireturn, 1) := by decide +kernel
theorem dX5_note_30 : decode cX5_note 30 = .ok (.aload_n 0, 1) := by decide +kernel
theorem dX5_note_31 : decode cX5_note 31 = .ok (.getfield 28, 3) := by decide +kernel
theorem dX5_note_34 : decode cX5_note 34 = .ok (.getfield 120, 3) := by decide +kernel
theorem dX5_note_37 : decode cX5_note 37 = .ok (.iload_n 1, 1) := by decide +kernel
theorem dX5_note_38 : decode cX5_note 38 = .ok (.iaload, 1) := by decide +kernel
theorem dX5_note_39 : decode cX5_note 39 = .ok (.iload_n 2, 1) := by decide +kernel
theorem dX5_note_40 : decode cX5_note 40 = .ok (.ishr, 1) := by decide +kernel
theorem dX5_note_41 : decode cX5_note 41 = .ok (.iconst 1, 1) := by decide +kernel
theorem dX5_note_42 : decode cX5_note 42 = .ok (.iand, 1) := by decide +kernel
theorem dX5_note_43 : decode cX5_note 43 = .ok (.ireturn, 1) := by decide +kernel
theorem dX5_last_0 : decode cX5_last 0 = .ok (.aload_n 0, 1) := by decide +kernel
theorem dX5_last_1 : decode cX5_last 1 = .ok (.getfield 28, 3) := by decide +kernel
theorem dX5_last_4 : decode cX5_last 4 = .ok (.getfield 67, 3) := by decide +kernel
theorem dX5_last_7 : decode cX5_last 7 = .ok (.iload_n 1, 1) := by decide +kernel
theorem dX5_last_8 : decode cX5_last 8 = .ok (.iload_n 2, 1) := by decide +kernel
theorem dX5_last_9 : decode cX5_last 9 = .ok (.invokevirtual 175, 3) := by decide +kernel
theorem dX5_last_12 : decode cX5_last 12 = .ok (.ifCond .ne 5, 3) := by decide +kernel
theorem dX5_last_15 : decode cX5_last 15 = .ok (.iconst (-1), 1) := by decide +kernel
theorem dX5_last_16 : decode cX5_last 16 = .ok (.ireturn, 1) := by decide +kernel
theorem dX5_last_17 : decode cX5_last 17 = .ok (.aload_n 0, 1) := by decide +kernel
theorem dX5_last_18 : decode cX5_last 18 = .ok (.getfield 28, 3) := by decide +kernel
theorem dX5_last_21 : decode cX5_last 21 = .ok (.iload_n 1, 1) := by decide +kernel
theorem dX5_last_22 : decode cX5_last 22 = .ok (.iload_n 2, 1) := by decide +kernel
theorem dX5_last_23 : decode cX5_last 23 = .ok (.invokevirtual 179, 3) := by decide +kernel
theorem dX5_last_26 : decode cX5_last 26 = .ok (.istore_n 3, 1) := by decide +kernel
theorem dX5_last_27 : decode cX5_last 27 = .ok (.iload_n 3, 1) := by decide +kernel
theorem dX5_last_28 : decode cX5_last 28 = .ok (.iconst (-1), 1) := by decide +kernel
theorem dX5_last_29 : decode cX5_last 29 = .ok (.if_icmp .ne 8, 3) := by decide +kernel
theorem dX5_last_32 : decode cX5_last 32 = .ok (.bipush (-4), 2) := by decide +kernel
theorem dX5_last_34 : decode cX5_last 34 = .ok (.goto 4, 3) := by decide +kernel
theorem dX5_last_37 : decode cX5_last 37 = .ok (.iload_n 3, 1) := by decide +kernel
theorem dX5_last_38 : decode cX5_last 38 = .ok (.ireturn, 1) := by decide +kernel
theorem dX5_soonest_0 : decode cX5_soonest 0 = .ok (.aload_n 0, 1) := by decide +kernel
theorem dX5_soonest_1 : decode cX5_soonest 1 = .ok (.getfield 28, 3) := by decide +kernel
theorem dX5_soonest_4 : decode cX5_soonest 4 = .ok (.getfield 67, 3) := by decide +kernel
theorem dX5_soonest_7 : decode cX5_soonest 7 = .ok (.iload_n 1, 1) := by decide +kernel
theorem dX5_soonest_8 : decode cX5_soonest 8 = .ok (.invokevirtual 139, 3) := by decide +kernel
theorem dX5_soonest_11 : decode cX5_soonest 11 = .ok (.ifCond .ne 5, 3) := by decide +kernel
theorem dX5_soonest_14 : decode cX5_soonest 14 = .ok (.iconst (-1), 1) := by decide +kernel
theorem dX5_soonest_15 : decode cX5_soonest 15 = .ok (.ireturn, 1) := by decide +kernel
theorem dX5_soonest_16 : decode cX5_soonest 16 = .ok (.aload_n 0, 1) := by decide +kernel
theorem dX5_soonest_17 : decode cX5_soonest 17 = .ok (.getfield 37, 3) := by decide +kernel
theorem dX5_soonest_20 : decode cX5_soonest 20 = .ok (.iload_n 1, 1) := by decide +kernel
theorem dX5_soonest_21 : decode cX5_soonest 21 = .ok (.invokevirtual 182, 3) := by decide +kernel
theorem dX5_soonest_24 : decode cX5_soonest 24 = .ok (.ireturn, 1) := by decide +kernel
theorem dX5_why_0 : decode cX5_why 0 = .ok (.aload_n 0, 1) := by decide +kernel
theorem dX5_why_1 : decode cX5_why 1 = .ok (.getfield 28, 3) := by decide +kernel
theorem dX5_why_4 : decode cX5_why 4 = .ok (.getfield 67, 3) := by decide +kernel
theorem dX5_why_7 : decode cX5_why 7 = .ok (.iload_n 1, 1) := by decide +kernel
theorem dX5_why_8 : decode cX5_why 8 = .ok (.iload_n 2, 1) := by decide +kernel
theorem dX5_why_9 : decode cX5_why 9 = .ok (.invokevirtual 175, 3) := by decide +kernel
theorem dX5_why_12 : decode cX5_why 12 = .ok (.ifCond .eq 29, 3) := by decide +kernel
theorem dX5_why_15 : decode cX5_why 15 = .ok (.aload_n 0, 1) := by decide +kernel
theorem dX5_why_16 : decode cX5_why 16 = .ok (.getfield 28, 3) := by decide +kernel
theorem dX5_why_19 : decode cX5_why 19 = .ok (.getfield 67, 3) := by decide +kernel
theorem dX5_why_22 : decode cX5_why 22 = .ok (.iload_n 3, 1) := by decide +kernel
theorem dX5_why_23 : decode cX5_why 23 = .ok (.invokevirtual 139, 3) := by decide +kernel
theorem dX5_why_26 : decode cX5_why 26 = .ok (.ifCond .eq 15, 3) := by decide +kernel
theorem dX5_why_29 : decode cX5_why 29 = .ok (.iload 4, 2) := by decide +kernel
theorem dX5_why_31 : decode cX5_why 31 = .ok (.ifCond .lt 10, 3) := by decide +kernel
theorem dX5_why_34 : decode cX5_why 34 = .ok (.iload 4, 2) := by decide +kernel
theorem dX5_why_36 : decode cX5_why 36 = .ok (.bipush 99, 2) := by decide +kernel
theorem dX5_why_38 : decode cX5_why 38 = .ok (.if_icmp .le 5, 3) := by decide +kernel
theorem dX5_why_41 : decode cX5_why 41 = .ok (.iconst (-1), 1) := by decide +kernel
theorem dX5_why_42 : decode cX5_why 42 = .ok (.ireturn, 1) := by decide +kernel
theorem dX5_why_43 : decode cX5_why 43 = .ok (.aload_n 0, 1) := by decide +kernel
theorem dX5_why_44 : decode cX5_why 44 = .ok (.getfield 28, 3) := by decide +kernel
theorem dX5_why_47 : decode cX5_why 47 = .ok (.iload_n 1, 1) := by decide +kernel
theorem dX5_why_48 : decode cX5_why 48 = .ok (.iload_n 3, 1) := by decide +kernel
theorem dX5_why_49 : decode cX5_why 49 = .ok (.invokevirtual 185, 3) := by decide +kernel
theorem dX5_why_52 : decode cX5_why 52 = .ok (.ifCond .ne 5, 3) := by decide +kernel
theorem dX5_why_55 : decode cX5_why 55 = .ok (.iconst (-1), 1) := by decide +kernel
theorem dX5_why_56 : decode cX5_why 56 = .ok (.ireturn, 1) := by decide +kernel
theorem dX5_why_57 : decode cX5_why 57 = .ok (.aload_n 0, 1) := by decide +kernel
theorem dX5_why_58 : decode cX5_why 58 = .ok (.getfield 37, 3) := by decide +kernel
theorem dX5_why_61 : decode cX5_why 61 = .ok (.iload_n 1, 1) := by decide +kernel
theorem dX5_why_62 : decode cX5_why 62 = .ok (.iload_n 2, 1) := by decide +kernel
theorem dX5_why_63 : decode cX5_why 63 = .ok (.iload_n 3, 1) := by decide +kernel
theorem dX5_why_64 : decode cX5_why 64 = .ok (.iload 4, 2) := by decide +kernel
theorem dX5_why_66 : decode cX5_why 66 = .ok (.invokevirtual 188, 3) := by decide +kernel
theorem dX5_why_69 : decode cX5_why 69 = .ok (.ireturn, 1) := by decide +kernel
theorem dX5_refusal_0 : decode cX5_refusal 0 = .ok (.iload_n 1, 1) := by decide +kernel
theorem dX5_refusal_1 : decode cX5_refusal 1 = .ok (.ifCond .lt 9, 3) := by decide +kernel
theorem dX5_refusal_4 : decode cX5_refusal 4 = .ok (.iload_n 1, 1) := by decide +kernel
theorem dX5_refusal_5 : decode cX5_refusal 5 = .ok (.bipush 6, 2) := by decide +kernel
theorem dX5_refusal_7 : decode cX5_refusal 7 = .ok (.if_icmp .lt 5, 3) := by decide +kernel
theorem dX5_refusal_10 : decode cX5_refusal 10 = .ok (.iconst (-1), 1) := by decide +kernel
theorem dX5_refusal_11 : decode cX5_refusal 11 = .ok (.ireturn, 1) := by decide +kernel
theorem dX5_refusal_12 : decode cX5_refusal 12 = .ok (.aload_n 0, 1) := by decide +kernel
theorem dX5_refusal_13 : decode cX5_refusal 13 = .ok (.getfield 28, 3) := by decide +kernel
theorem dX5_refusal_16 : decode cX5_refusal 16 = .ok (.getfield 192, 3) := by decide +kernel
theorem dX5_refusal_19 : decode cX5_refusal 19 = .ok (.iconst 0, 1) := by decide +kernel
theorem dX5_refusal_20 : decode cX5_refusal 20 = .ok (.iaload, 1) := by decide +kernel
theorem dX5_refusal_21 : decode cX5_refusal 21 = .ok (.ifCond .ne 6, 3) := by decide +kernel
theorem dX5_refusal_24 : decode cX5_refusal 24 = .ok (.bipush (-2), 2) := by decide +kernel
theorem dX5_refusal_26 : decode cX5_refusal 26 = .ok (.ireturn, 1) := by decide +kernel
theorem dX5_refusal_27 : decode cX5_refusal 27 = .ok (.aload_n 0, 1) := by decide +kernel
theorem dX5_refusal_28 : decode cX5_refusal 28 = .ok (.getfield 28, 3) := by decide +kernel
theorem dX5_refusal_31 : decode cX5_refusal 31 = .ok (.getfield 192, 3) := by decide +kernel
theorem dX5_refusal_34 : decode cX5_refusal 34 = .ok (.iload_n 1, 1) := by decide +kernel
theorem dX5_refusal_35 : decode cX5_refusal 35 = .ok (.iaload, 1) := by decide +kernel
theorem dX5_refusal_36 : decode cX5_refusal 36 = .ok (.ireturn, 1) := by decide +kernel
theorem dX5_tick_0 : decode cX5_tick 0 = .ok (.iload_n 1, 1) := by decide +kernel
theorem dX5_tick_1 : decode cX5_tick 1 = .ok (.iconst 1, 1) := by decide +kernel
theorem dX5_tick_2 : decode cX5_tick 2 = .ok (.if_icmp .lt 9, 3) := by decide +kernel
theorem dX5_tick_5 : decode cX5_tick 5 = .ok (.iload_n 1, 1) := by decide +kernel
theorem dX5_tick_6 : decode cX5_tick 6 = .ok (.bipush 50, 2) := by decide +kernel
theorem dX5_tick_8 : decode cX5_tick 8 = .ok (.if_icmp .le 5, 3) := by decide +kernel
theorem dX5_tick_11 : decode cX5_tick 11 = .ok (.iconst (-1), 1) := by decide +kernel
theorem dX5_tick_12 : decode cX5_tick 12 = .ok (.ireturn, 1) := by decide +kernel
theorem dX5_tick_13 : decode cX5_tick 13 = .ok (.aload_n 0, 1) := by decide +kernel
theorem dX5_tick_14 : decode cX5_tick 14 = .ok (.getfield 28, 3) := by decide +kernel
theorem dX5_tick_17 : decode cX5_tick 17 = .ok (.getfield 103, 3) := by decide +kernel
theorem dX5_tick_20 : decode cX5_tick 20 = .ok (.iconst 0, 1) := by decide +kernel
theorem dX5_tick_21 : decode cX5_tick 21 = .ok (.iaload, 1) := by decide +kernel
theorem dX5_tick_22 : decode cX5_tick 22 = .ok (.istore_n 2, 1) := by decide +kernel
theorem dX5_tick_23 : decode cX5_tick 23 = .ok (.iconst 0, 1) := by decide +kernel
theorem dX5_tick_24 : decode cX5_tick 24 = .ok (.istore_n 3, 1) := by decide +kernel
theorem dX5_tick_25 : decode cX5_tick 25 = .ok (.iload_n 3, 1) := by decide +kernel
theorem dX5_tick_26 : decode cX5_tick 26 = .ok (.iload_n 1, 1) := by decide +kernel
theorem dX5_tick_27 : decode cX5_tick 27 = .ok (.if_icmp .ge 16, 3) := by decide +kernel
theorem dX5_tick_30 : decode cX5_tick 30 = .ok (.aload_n 0, 1) := by decide +kernel
theorem dX5_tick_31 : decode cX5_tick 31 = .ok (.getfield 37, 3) := by decide +kernel
theorem dX5_tick_34 : decode cX5_tick 34 = .ok (.invokevirtual 195, 3) := by decide +kernel
theorem dX5_tick_37 : decode cX5_tick 37 = .ok (.iinc 3 1, 3) := by decide +kernel
theorem dX5_tick_40 : decode cX5_tick 40 = .ok (.goto (-15), 3) := by decide +kernel
theorem dX5_tick_43 : decode cX5_tick 43 = .ok (.aload_n 0, 1) := by decide +kernel
theorem dX5_tick_44 : decode cX5_tick 44 = .ok (.getfield 28, 3) := by decide +kernel
theorem dX5_tick_47 : decode cX5_tick 47 = .ok (.getfield 103, 3) := by decide +kernel
theorem dX5_tick_50 : decode cX5_tick 50 = .ok (.iconst 0, 1) := by decide +kernel
theorem dX5_tick_51 : decode cX5_tick 51 = .ok (.iaload, 1) := by decide +kernel
theorem dX5_tick_52 : decode cX5_tick 52 = .ok (.iload_n 2, 1) := by decide +kernel
theorem dX5_tick_53 : decode cX5_tick 53 = .ok (.isub, 1) := by decide +kernel
theorem dX5_tick_54 : decode cX5_tick 54 = .ok (.ireturn, 1) := by decide +kernel
theorem dX5_meet_0 : decode cX5_meet 0 = .ok (.aload_n 0, 1) := by decide +kernel
theorem dX5_meet_1 : decode cX5_meet 1 = .ok (.getfield 28, 3) := by decide +kernel
theorem dX5_meet_4 : decode cX5_meet 4 = .ok (.getfield 67, 3) := by decide +kernel
theorem dX5_meet_7 : decode cX5_meet 7 = .ok (.iload_n 1, 1) := by decide +kernel
theorem dX5_meet_8 : decode cX5_meet 8 = .ok (.iload_n 2, 1) := by decide +kernel
theorem dX5_meet_9 : decode cX5_meet 9 = .ok (.invokevirtual 175, 3) := by decide +kernel
theorem dX5_meet_12 : decode cX5_meet 12 = .ok (.ifCond .eq 13, 3) := by decide +kernel
theorem dX5_meet_15 : decode cX5_meet 15 = .ok (.iload_n 3, 1) := by decide +kernel
theorem dX5_meet_16 : decode cX5_meet 16 = .ok (.ifCond .lt 9, 3) := by decide +kernel
theorem dX5_meet_19 : decode cX5_meet 19 = .ok (.iload_n 3, 1) := by decide +kernel
theorem dX5_meet_20 : decode cX5_meet 20 = .ok (.bipush 99, 2) := by decide +kernel
theorem dX5_meet_22 : decode cX5_meet 22 = .ok (.if_icmp .le 5, 3) := by decide +kernel
theorem dX5_meet_25 : decode cX5_meet 25 = .ok (.iconst (-1), 1) := by decide +kernel
theorem dX5_meet_26 : decode cX5_meet 26 = .ok (.ireturn, 1) := by decide +kernel
theorem dX5_meet_27 : decode cX5_meet 27 = .ok (.aload_n 0, 1) := by decide +kernel
theorem dX5_meet_28 : decode cX5_meet 28 = .ok (.getfield 28, 3) := by decide +kernel
theorem dX5_meet_31 : decode cX5_meet 31 = .ok (.getfield 103, 3) := by decide +kernel
theorem dX5_meet_34 : decode cX5_meet 34 = .ok (.iconst 0, 1) := by decide +kernel
theorem dX5_meet_35 : decode cX5_meet 35 = .ok (.iaload, 1) := by decide +kernel
theorem dX5_meet_36 : decode cX5_meet 36 = .ok (.istore 4, 2) := by decide +kernel
theorem dX5_meet_38 : decode cX5_meet 38 = .ok (.aload_n 0, 1) := by decide +kernel
theorem dX5_meet_39 : decode cX5_meet 39 = .ok (.getfield 37, 3) := by decide +kernel
theorem dX5_meet_42 : decode cX5_meet 42 = .ok (.iload_n 1, 1) := by decide +kernel
theorem dX5_meet_43 : decode cX5_meet 43 = .ok (.iload_n 2, 1) := by decide +kernel
theorem dX5_meet_44 : decode cX5_meet 44 = .ok (.iload_n 3, 1) := by decide +kernel
theorem dX5_meet_45 : decode cX5_meet 45 = .ok (.invokevirtual 198, 3) := by decide +kernel
theorem dX5_meet_48 : decode cX5_meet 48 = .ok (.aload_n 0, 1) := by decide +kernel
theorem dX5_meet_49 : decode cX5_meet 49 = .ok (.getfield 28, 3) := by decide +kernel
theorem dX5_meet_52 : decode cX5_meet 52 = .ok (.getfield 103, 3) := by decide +kernel
theorem dX5_meet_55 : decode cX5_meet 55 = .ok (.iconst 0, 1) := by decide +kernel
theorem dX5_meet_56 : decode cX5_meet 56 = .ok (.iaload, 1) := by decide +kernel
theorem dX5_meet_57 : decode cX5_meet 57 = .ok (.iload 4, 2) := by decide +kernel
theorem dX5_meet_59 : decode cX5_meet 59 = .ok (.isub, 1) := by decide +kernel
theorem dX5_meet_60 : decode cX5_meet 60 = .ok (.ireturn, 1) := by decide +kernel
theorem dX5_send_0 : decode cX5_send 0 = .ok (.aload_n 0, 1) := by decide +kernel
theorem dX5_send_1 : decode cX5_send 1 = .ok (.getfield 28, 3) := by decide +kernel
theorem dX5_send_4 : decode cX5_send 4 = .ok (.getfield 67, 3) := by decide +kernel
theorem dX5_send_7 : decode cX5_send 7 = .ok (.iload_n 1, 1) := by decide +kernel
theorem dX5_send_8 : decode cX5_send 8 = .ok (.iload_n 2, 1) := by decide +kernel
theorem dX5_send_9 : decode cX5_send 9 = .ok (.invokevirtual 175, 3) := by decide +kernel
theorem dX5_send_12 : decode cX5_send 12 = .ok (.ifCond .eq 14, 3) := by decide +kernel
theorem dX5_send_15 : decode cX5_send 15 = .ok (.iload_n 3, 1) := by decide +kernel
theorem dX5_send_16 : decode cX5_send 16 = .ok (.iconst 1, 1) := by decide +kernel
theorem dX5_send_17 : decode cX5_send 17 = .ok (.if_icmp .lt 9, 3) := by decide +kernel
theorem dX5_send_20 : decode cX5_send 20 = .ok (.iload_n 3, 1) := by decide +kernel
theorem dX5_send_21 : decode cX5_send 21 = .ok (.bipush 99, 2) := by decide +kernel
theorem dX5_send_23 : decode cX5_send 23 = .ok (.if_icmp .le 5, 3) := by decide +kernel
theorem dX5_send_26 : decode cX5_send 26 = .ok (.iconst (-1), 1) := by decide +kernel
theorem dX5_send_27 : decode cX5_send 27 = .ok (.ireturn, 1) := by decide +kernel
theorem dX5_send_28 : decode cX5_send 28 = .ok (.iload 4, 2) := by decide +kernel
theorem dX5_send_30 : decode cX5_send 30 = .ok (.iconst 1, 1) := by decide +kernel
theorem dX5_send_31 : decode cX5_send 31 = .ok (.if_icmp .lt 23, 3) := by decide +kernel
theorem dX5_send_34 : decode cX5_send 34 = .ok (.iload 4, 2) := by decide +kernel
theorem dX5_send_36 : decode cX5_send 36 = .ok (.bipush 64, 2) := by decide +kernel
theorem dX5_send_38 : decode cX5_send 38 = .ok (.if_icmp .gt 16, 3) := by decide +kernel
theorem dX5_send_41 : decode cX5_send 41 = .ok (.iload 5, 2) := by decide +kernel
theorem dX5_send_43 : decode cX5_send 43 = .ok (.iconst 1, 1) := by decide +kernel
theorem dX5_send_44 : decode cX5_send 44 = .ok (.if_icmp .lt 10, 3) := by decide +kernel
theorem dX5_send_47 : decode cX5_send 47 = .ok (.iload 5, 2) := by decide +kernel
theorem dX5_send_49 : decode cX5_send 49 = .ok (.bipush 99, 2) := by decide +kernel
theorem dX5_send_51 : decode cX5_send 51 = .ok (.if_icmp .le 5, 3) := by decide +kernel
theorem dX5_send_54 : decode cX5_send 54 = .ok (.iconst (-1), 1) := by decide +kernel
theorem dX5_send_55 : decode cX5_send 55 = .ok (.ireturn, 1) := by decide +kernel
theorem dX5_send_56 : decode cX5_send 56 = .ok (.aload_n 0, 1) := by decide +kernel
theorem dX5_send_57 : decode cX5_send 57 = .ok (.getfield 28, 3) := by decide +kernel
theorem dX5_send_60 : decode cX5_send 60 = .ok (.getfield 67, 3) := by decide +kernel
theorem dX5_send_63 : decode cX5_send 63 = .ok (.getfield 87, 3) := by decide +kernel
theorem dX5_send_66 : decode cX5_send 66 = .ok (.bipush 16, 2) := by decide +kernel
theorem dX5_send_68 : decode cX5_send 68 = .ok (.if_icmp .lt 6, 3) := by decide +kernel
theorem dX5_send_71 : decode cX5_send 71 = .ok (.bipush (-3), 2) := by decide +kernel
theorem dX5_send_73 : decode cX5_send 73 = .ok (.ireturn, 1) := by decide +kernel
theorem dX5_send_74 : decode cX5_send 74 = .ok (.aload_n 0, 1) := by decide +kernel
theorem dX5_send_75 : decode cX5_send 75 = .ok (.getfield 28, 3) := by decide +kernel
theorem dX5_send_78 : decode cX5_send 78 = .ok (.getfield 67, 3) := by decide +kernel
theorem dX5_send_81 : decode cX5_send 81 = .ok (.getfield 87, 3) := by decide +kernel
theorem dX5_send_84 : decode cX5_send 84 = .ok (.istore 6, 2) := by decide +kernel
theorem dX5_send_86 : decode cX5_send 86 = .ok (.aload_n 0, 1) := by decide +kernel
theorem dX5_send_87 : decode cX5_send 87 = .ok (.getfield 28, 3) := by decide +kernel
theorem dX5_send_90 : decode cX5_send 90 = .ok (.getfield 67, 3) := by decide +kernel
theorem dX5_send_93 : decode cX5_send 93 = .ok (.aload_n 0, 1) := by decide +kernel
theorem dX5_send_94 : decode cX5_send 94 = .ok (.getfield 28, 3) := by decide +kernel
theorem dX5_send_97 : decode cX5_send 97 = .ok (.getfield 90, 3) := by decide +kernel
theorem dX5_send_100 : decode cX5_send 100 = .ok (.iload_n 1, 1) := by decide +kernel
theorem dX5_send_101 : decode cX5_send 101 = .ok (.iload_n 2, 1) := by decide +kernel
theorem dX5_send_102 : decode cX5_send 102 = .ok (.iload_n 3, 1) := by decide +kernel
theorem dX5_send_103 : decode cX5_send 103 = .ok (.iload 4, 2) := by decide +kernel
theorem dX5_send_105 : decode cX5_send 105 = .ok (.iload 5, 2) := by decide +kernel
theorem dX5_send_107 : decode cX5_send 107 = .ok (.invokevirtual 202, 3) := by decide +kernel
theorem dX5_send_110 : decode cX5_send 110 = .ok (.aload_n 0, 1) := by decide +kernel
theorem dX5_send_111 : decode cX5_send 111 = .ok (.getfield 37, 3) := by decide +kernel
theorem dX5_send_114 : decode cX5_send 114 = .ok (.iload 6, 2) := by decide +kernel
theorem dX5_send_116 : decode cX5_send 116 = .ok (.invokevirtual 206, 3) := by decide +kernel
theorem dX5_send_119 : decode cX5_send 119 = .ok (.iload 6, 2) := by decide +kernel
theorem dX5_send_121 : decode cX5_send 121 = .ok (.ireturn, 1) := by decide +kernel
theorem dX5_set_0 : decode cX5_set 0 = .ok (.iload_n 1, 1) := by decide +kernel
theorem dX5_set_1 : decode cX5_set 1 = .ok (.ifCond .lt 21, 3) := by decide +kernel
theorem dX5_set_4 : decode cX5_set 4 = .ok (.iload_n 1, 1) := by decide +kernel
theorem dX5_set_5 : decode cX5_set 5 = .ok (.iconst 4, 1) := by decide +kernel
theorem dX5_set_6 : decode cX5_set 6 = .ok (.if_icmp .ge 16, 3) := by decide +kernel
theorem dX5_set_9 : decode cX5_set 9 = .ok (.iload_n 2, 1) := by decide +kernel
theorem dX5_set_10 : decode cX5_set 10 = .ok (.ifCond .lt 12, 3) := by decide +kernel
theorem dX5_set_13 : decode cX5_set 13 = .ok (.iload_n 2, 1) := by decide +kernel
theorem dX5_set_14 : decode cX5_set 14 = .ok (.getstatic 210, 3) := by decide +kernel
theorem dX5_set_17 : decode cX5_set 17 = .ok (.iload_n 1, 1) := by decide +kernel
theorem dX5_set_18 : decode cX5_set 18 = .ok (.iaload, 1) := by decide +kernel
theorem dX5_set_19 : decode cX5_set 19 = .ok (.if_icmp .le 5, 3) := by decide +kernel
theorem dX5_set_22 : decode cX5_set 22 = .ok (.iconst (-1), 1) := by decide +kernel
theorem dX5_set_23 : decode cX5_set 23 = .ok (.ireturn, 1) := by decide +kernel
theorem dX5_set_24 : decode cX5_set 24 = .ok (.aload_n 0, 1) := by decide +kernel
theorem dX5_set_25 : decode cX5_set 25 = .ok (.getfield 28, 3) := by decide +kernel
theorem dX5_set_28 : decode cX5_set 28 = .ok (.getfield 99, 3) := by decide +kernel
theorem dX5_set_31 : decode cX5_set 31 = .ok (.iload_n 1, 1) := by decide +kernel
theorem dX5_set_32 : decode cX5_set 32 = .ok (.iaload, 1) := by decide +kernel
theorem dX5_set_33 : decode cX5_set 33 = .ok (.istore_n 3, 1) := by decide +kernel
theorem dX5_set_34 : decode cX5_set 34 = .ok (.aload_n 0, 1) := by decide +kernel
theorem dX5_set_35 : decode cX5_set 35 = .ok (.getfield 28, 3) := by decide +kernel
theorem dX5_set_38 : decode cX5_set 38 = .ok (.getfield 99, 3) := by decide +kernel
theorem dX5_set_41 : decode cX5_set 41 = .ok (.iload_n 1, 1) := by decide +kernel
theorem dX5_set_42 : decode cX5_set 42 = .ok (.iload_n 2, 1) := by decide +kernel
theorem dX5_set_43 : decode cX5_set 43 = .ok (.iastore, 1) := by decide +kernel
theorem dX5_set_44 : decode cX5_set 44 = .ok (.iload_n 3, 1) := by decide +kernel
theorem dX5_set_45 : decode cX5_set 45 = .ok (.ireturn, 1) := by decide +kernel
theorem dX5_draw_0 : decode cX5_draw 0 = .ok (.iload_n 2, 1) := by decide +kernel
theorem dX5_draw_1 : decode cX5_draw 1 = .ok (.iconst 1, 1) := by decide +kernel
theorem dX5_draw_2 : decode cX5_draw 2 = .ok (.if_icmp .lt 9, 3) := by decide +kernel
theorem dX5_draw_5 : decode cX5_draw 5 = .ok (.iload_n 2, 1) := by decide +kernel
theorem dX5_draw_6 : decode cX5_draw 6 = .ok (.bipush 20, 2) := by decide +kernel
theorem dX5_draw_8 : decode cX5_draw 8 = .ok (.if_icmp .le 5, 3) := by decide +kernel
theorem dX5_draw_11 : decode cX5_draw 11 = .ok (.iconst (-1), 1) := by decide +kernel
theorem dX5_draw_12 : decode cX5_draw 12 = .ok (.ireturn, 1) := by decide +kernel
theorem dX5_draw_13 : decode cX5_draw 13 = .ok (.aload_n 0, 1) := by decide +kernel
theorem dX5_draw_14 : decode cX5_draw 14 = .ok (.getfield 28, 3) := by decide +kernel
theorem dX5_draw_17 : decode cX5_draw 17 = .ok (.getfield 67, 3) := by decide +kernel
theorem dX5_draw_20 : decode cX5_draw 20 = .ok (.getfield 81, 3) := by decide +kernel
theorem dX5_draw_23 : decode cX5_draw 23 = .ok (.istore_n 3, 1) := by decide +kernel
theorem dX5_draw_24 : decode cX5_draw 24 = .ok (.iload_n 3, 1) := by decide +kernel
theorem dX5_draw_25 : decode cX5_draw 25 = .ok (.iconst 2, 1) := by decide +kernel
theorem dX5_draw_26 : decode cX5_draw 26 = .ok (.if_icmp .ge 6, 3) := by decide +kernel
theorem dX5_draw_29 : decode cX5_draw 29 = .ok (.bipush (-2), 2) := by decide +kernel
theorem dX5_draw_31 : decode cX5_draw 31 = .ok (.ireturn, 1) := by decide +kernel
theorem dX5_draw_32 : decode cX5_draw 32 = .ok (.aload_n 0, 1) := by decide +kernel
theorem dX5_draw_33 : decode cX5_draw 33 = .ok (.getfield 28, 3) := by decide +kernel
theorem dX5_draw_36 : decode cX5_draw 36 = .ok (.getfield 103, 3) := by decide +kernel
theorem dX5_draw_39 : decode cX5_draw 39 = .ok (.iconst 0, 1) := by decide +kernel
theorem dX5_draw_40 : decode cX5_draw 40 = .ok (.iaload, 1) := by decide +kernel
theorem dX5_draw_41 : decode cX5_draw 41 = .ok (.istore 4, 2) := by decide +kernel
theorem dX5_draw_43 : decode cX5_draw 43 = .ok (.iload_n 1, 1) := by decide +kernel
theorem dX5_draw_44 : decode cX5_draw 44 = .ok (.istore 5, 2) := by decide +kernel
theorem dX5_draw_46 : decode cX5_draw 46 = .ok (.iconst 0, 1) := by decide +kernel
theorem dX5_draw_47 : decode cX5_draw 47 = .ok (.istore 6, 2) := by decide +kernel
theorem dX5_draw_49 : decode cX5_draw 49 = .ok (.iload 6, 2) := by decide +kernel
theorem dX5_draw_51 : decode cX5_draw 51 = .ok (.iload_n 2, 1) := by decide +kernel
theorem dX5_draw_52 : decode cX5_draw 52 = .ok (.if_icmp .ge 83, 3) := by decide +kernel
theorem dX5_draw_55 : decode cX5_draw 55 = .ok (.aload_n 0, 1) := by decide +kernel
theorem dX5_draw_56 : decode cX5_draw 56 = .ok (.getfield 37, 3) := by decide +kernel
theorem dX5_draw_59 : decode cX5_draw 59 = .ok (.invokevirtual 195, 3) := by decide +kernel
theorem dX5_draw_62 : decode cX5_draw 62 = .ok (.iload 5, 2) := by decide +kernel
theorem dX5_draw_64 : decode cX5_draw 64 = .ok (.invokestatic 213, 3) := by decide +kernel
theorem dX5_draw_67 : decode cX5_draw 67 = .ok (.istore 5, 2) := by decide +kernel
theorem dX5_draw_69 : decode cX5_draw 69 = .ok (.iload 5, 2) := by decide +kernel
theorem dX5_draw_71 : decode cX5_draw 71 = .ok (.invokestatic 216, 3) := by decide +kernel
theorem dX5_draw_74 : decode cX5_draw 74 = .ok (.iload_n 3, 1) := by decide +kernel
theorem dX5_draw_75 : decode cX5_draw 75 = .ok (.irem, 1) := by decide +kernel
theorem dX5_draw_76 : decode cX5_draw 76 = .ok (.istore 7, 2) := by decide +kernel
theorem dX5_draw_78 : decode cX5_draw 78 = .ok (.iload 5, 2) := by decide +kernel
theorem dX5_draw_80 : decode cX5_draw 80 = .ok (.invokestatic 213, 3) := by decide +kernel
theorem dX5_draw_83 : decode cX5_draw 83 = .ok (.istore 5, 2) := by decide +kernel
theorem dX5_draw_85 : decode cX5_draw 85 = .ok (.iload 7, 2) := by decide +kernel
theorem dX5_draw_87 : decode cX5_draw 87 = .ok (.iconst 1, 1) := by decide +kernel
theorem dX5_draw_88 : decode cX5_draw 88 = .ok (.iadd, 1) := by decide +kernel
theorem dX5_draw_89 : decode cX5_draw 89 = .ok (.iload 5, 2) := by decide +kernel
theorem dX5_draw_91 : decode cX5_draw 91 = .ok (.invokestatic 216, 3) := by decide +kernel
theorem dX5_draw_94 : decode cX5_draw 94 = .ok (.iload_n 3, 1) := by decide +kernel
theorem dX5_draw_95 : decode cX5_draw 95 = .ok (.iconst 1, 1) := by decide +kernel
theorem dX5_draw_96 : decode cX5_draw 96 = .ok (.isub, 1) := by decide +kernel
theorem dX5_draw_97 : decode cX5_draw 97 = .ok (.irem, 1) := by decide +kernel
theorem dX5_draw_98 : decode cX5_draw 98 = .ok (.iadd, 1) := by decide +kernel
theorem dX5_draw_99 : decode cX5_draw 99 = .ok (.iload_n 3, 1) := by decide +kernel
theorem dX5_draw_100 : decode cX5_draw 100 = .ok (.irem, 1) := by decide +kernel
theorem dX5_draw_101 : decode cX5_draw 101 = .ok (.istore 8, 2) := by decide +kernel
theorem dX5_draw_103 : decode cX5_draw 103 = .ok (.iload 5, 2) := by decide +kernel
theorem dX5_draw_105 : decode cX5_draw 105 = .ok (.invokestatic 213, 3) := by decide +kernel
theorem dX5_draw_108 : decode cX5_draw 108 = .ok (.istore 5, 2) := by decide +kernel
theorem dX5_draw_110 : decode cX5_draw 110 = .ok (.aload_n 0, 1) := by decide +kernel
theorem dX5_draw_111 : decode cX5_draw 111 = .ok (.getfield 37, 3) := by decide +kernel
theorem dX5_draw_114 : decode cX5_draw 114 = .ok (.iload 7, 2) := by decide +kernel
theorem dX5_draw_116 : decode cX5_draw 116 = .ok (.iload 8, 2) := by decide +kernel
theorem dX5_draw_118 : decode cX5_draw 118 = .ok (.iload 5, 2) := by decide +kernel
theorem dX5_draw_120 : decode cX5_draw 120 = .ok (.invokestatic 216, 3) := by decide +kernel
theorem dX5_draw_123 : decode cX5_draw 123 = .ok (.bipush 100, 2) := by decide +kernel
theorem dX5_draw_125 : decode cX5_draw 125 = .ok (.irem, 1) := by decide +kernel
theorem dX5_draw_126 : decode cX5_draw 126 = .ok (.invokevirtual 198, 3) := by decide +kernel
theorem dX5_draw_129 : decode cX5_draw 129 = .ok (.iinc 6 1, 3) := by decide +kernel
theorem dX5_draw_132 : decode cX5_draw 132 = .ok (.goto (-83), 3) := by decide +kernel
theorem dX5_draw_135 : decode cX5_draw 135 = .ok (.aload_n 0, 1) := by decide +kernel
theorem dX5_draw_136 : decode cX5_draw 136 = .ok (.getfield 28, 3) := by decide +kernel
theorem dX5_draw_139 : decode cX5_draw 139 = .ok (.getfield 103, 3) := by decide +kernel
theorem dX5_draw_142 : decode cX5_draw 142 = .ok (.iconst 0, 1) := by decide +kernel
theorem dX5_draw_143 : decode cX5_draw 143 = .ok (.iaload, 1) := by decide +kernel
theorem dX5_draw_144 : decode cX5_draw 144 = .ok (.iload 4, 2) := by decide +kernel
theorem dX5_draw_146 : decode cX5_draw 146 = .ok (.isub, 1) := by decide +kernel
theorem dX5_draw_147 : decode cX5_draw 147 = .ok (.ireturn, 1) := by decide +kernel
theorem dX5_keep_0 : decode cX5_keep 0 = .ok (.iload_n 1, 1) := by decide +kernel
theorem dX5_keep_1 : decode cX5_keep 1 = .ok (.ifCond .lt 8, 3) := by decide +kernel
theorem dX5_keep_4 : decode cX5_keep 4 = .ok (.iload_n 1, 1) := by decide +kernel
theorem dX5_keep_5 : decode cX5_keep 5 = .ok (.iconst 2, 1) := by decide +kernel
theorem dX5_keep_6 : decode cX5_keep 6 = .ok (.if_icmp .lt 5, 3) := by decide +kernel
theorem dX5_keep_9 : decode cX5_keep 9 = .ok (.iconst (-1), 1) := by decide +kernel
theorem dX5_keep_10 : decode cX5_keep 10 = .ok (.ireturn, 1) := by decide +kernel
theorem dX5_keep_11 : decode cX5_keep 11 = .ok (.aload_n 0, 1) := by decide +kernel
theorem dX5_keep_12 : decode cX5_keep 12 = .ok (.getfield 45, 3) := by decide +kernel
theorem dX5_keep_15 : decode cX5_keep 15 = .ok (.iload_n 1, 1) := by decide +kernel
theorem dX5_keep_16 : decode cX5_keep 16 = .ok (.baload, 1) := by decide +kernel
theorem dX5_keep_17 : decode cX5_keep 17 = .ok (.ifCond .eq 7, 3) := by decide +kernel
theorem dX5_keep_20 : decode cX5_keep 20 = .ok (.iconst 1, 1) := by decide +kernel
theorem dX5_keep_21 : decode cX5_keep 21 = .ok (.goto 4, 3) := by decide +kernel
theorem dX5_keep_24 : decode cX5_keep 24 = .ok (.iconst 0, 1) := by decide +kernel
theorem dX5_keep_25 : decode cX5_keep 25 = .ok (.istore_n 2, 1) := by decide +kernel
theorem dX5_keep_26 : decode cX5_keep 26 = .ok (.aload_n 0, 1) := by decide +kernel
theorem dX5_keep_27 : decode cX5_keep 27 = .ok (.getfield 41, 3) := by decide +kernel
theorem dX5_keep_30 : decode cX5_keep 30 = .ok (.iload_n 1, 1) := by decide +kernel
theorem dX5_keep_31 : decode cX5_keep 31 = .ok (.aaload, 1) := by decide +kernel
theorem dX5_keep_32 : decode cX5_keep 32 = .ok (.aload_n 0, 1) := by decide +kernel
theorem dX5_keep_33 : decode cX5_keep 33 = .ok (.getfield 28, 3) := by decide +kernel
theorem dX5_keep_36 : decode cX5_keep 36 = .ok (.invokevirtual 219, 3) := by decide +kernel
theorem dX5_keep_39 : decode cX5_keep 39 = .ok (.aload_n 0, 1) := by decide +kernel
theorem dX5_keep_40 : decode cX5_keep 40 = .ok (.getfield 45, 3) := by decide +kernel
theorem dX5_keep_43 : decode cX5_keep 43 = .ok (.iload_n 1, 1) := by decide +kernel
theorem dX5_keep_44 : decode cX5_keep 44 = .ok (.iconst 1, 1) := by decide +kernel
theorem dX5_keep_45 : decode cX5_keep 45 = .ok (.bastore, 1) := by decide +kernel
theorem dX5_keep_46 : decode cX5_keep 46 = .ok (.iload_n 2, 1) := by decide +kernel
theorem dX5_keep_47 : decode cX5_keep 47 = .ok (.ireturn, 1) := by decide +kernel
theorem dX5_back_0 : decode cX5_back 0 = .ok (.iload_n 1, 1) := by decide +kernel
theorem dX5_back_1 : decode cX5_back 1 = .ok (.ifCond .lt 8, 3) := by decide +kernel
theorem dX5_back_4 : decode cX5_back 4 = .ok (.iload_n 1, 1) := by decide +kernel
theorem dX5_back_5 : decode cX5_back 5 = .ok (.iconst 2, 1) := by decide +kernel
theorem dX5_back_6 : decode cX5_back 6 = .ok (.if_icmp .lt 5, 3) := by decide +kernel
theorem dX5_back_9 : decode cX5_back 9 = .ok (.iconst (-1), 1) := by decide +kernel
theorem dX5_back_10 : decode cX5_back 10 = .ok (.ireturn, 1) := by decide +kernel
theorem dX5_back_11 : decode cX5_back 11 = .ok (.aload_n 0, 1) := by decide +kernel
theorem dX5_back_12 : decode cX5_back 12 = .ok (.getfield 45, 3) := by decide +kernel
theorem dX5_back_15 : decode cX5_back 15 = .ok (.iload_n 1, 1) := by decide +kernel
theorem dX5_back_16 : decode cX5_back 16 = .ok (.baload, 1) := by decide +kernel
theorem dX5_back_17 : decode cX5_back 17 = .ok (.ifCond .ne 6, 3) := by decide +kernel
theorem dX5_back_20 : decode cX5_back 20 = .ok (.bipush (-2), 2) := by decide +kernel
theorem dX5_back_22 : decode cX5_back 22 = .ok (.ireturn, 1) := by decide +kernel
theorem dX5_back_23 : decode cX5_back 23 = .ok (.aload_n 0, 1) := by decide +kernel
theorem dX5_back_24 : decode cX5_back 24 = .ok (.getfield 28, 3) := by decide +kernel
theorem dX5_back_27 : decode cX5_back 27 = .ok (.aload_n 0, 1) := by decide +kernel
theorem dX5_back_28 : decode cX5_back 28 = .ok (.getfield 41, 3) := by decide +kernel
theorem dX5_back_31 : decode cX5_back 31 = .ok (.iload_n 1, 1) := by decide +kernel
theorem dX5_back_32 : decode cX5_back 32 = .ok (.aaload, 1) := by decide +kernel
theorem dX5_back_33 : decode cX5_back 33 = .ok (.invokevirtual 219, 3) := by decide +kernel
theorem dX5_back_36 : decode cX5_back 36 = .ok (.aload_n 0, 1) := by decide +kernel
theorem dX5_back_37 : decode cX5_back 37 = .ok (.getfield 28, 3) := by decide +kernel
theorem dX5_back_40 : decode cX5_back 40 = .ok (.getfield 90, 3) := by decide +kernel
theorem dX5_back_43 : decode cX5_back 43 = .ok (.ireturn, 1) := by decide +kernel
theorem dX5_imagesKept_0 : decode cX5_imagesKept 0 = .ok (.iconst 0, 1) := by decide +kernel
theorem dX5_imagesKept_1 : decode cX5_imagesKept 1 = .ok (.istore_n 1, 1) := by decide +kernel
theorem dX5_imagesKept_2 : decode cX5_imagesKept 2 = .ok (.iconst 0, 1) := by decide +kernel
theorem dX5_imagesKept_3 : decode cX5_imagesKept 3 = .ok (.istore_n 2, 1) := by decide +kernel
theorem dX5_imagesKept_4 : decode cX5_imagesKept 4 = .ok (.iload_n 2, 1) := by decide +kernel
theorem dX5_imagesKept_5 : decode cX5_imagesKept 5 = .ok (.iconst 2, 1) := by decide +kernel
theorem dX5_imagesKept_6 : decode cX5_imagesKept 6 = .ok (.if_icmp .ge 21, 3) := by decide +kernel
theorem dX5_imagesKept_9 : decode cX5_imagesKept 9 = .ok (.aload_n 0, 1) := by decide +kernel
theorem dX5_imagesKept_10 : decode cX5_imagesKept 10 = .ok (.getfield 45, 3) := by decide +kernel
theorem dX5_imagesKept_13 : decode cX5_imagesKept 13 = .ok (.iload_n 2, 1) := by decide +kernel
theorem dX5_imagesKept_14 : decode cX5_imagesKept 14 = .ok (.baload, 1) := by decide +kernel
theorem dX5_imagesKept_15 : decode cX5_imagesKept 15 = .ok (.ifCond .eq 6, 3) := by decide +kernel
theorem dX5_imagesKept_18 : decode cX5_imagesKept 18 = .ok (.iinc 1 1, 3) := by decide +kernel
theorem dX5_imagesKept_21 : decode cX5_imagesKept 21 = .ok (.iinc 2 1, 3) := by decide +kernel
theorem dX5_imagesKept_24 : decode cX5_imagesKept 24 = .ok (.goto (-20), 3) := by decide +kernel
theorem dX5_imagesKept_27 : decode cX5_imagesKept 27 = .ok (.iload_n 1, 1) := by decide +kernel
theorem dX5_imagesKept_28 : decode cX5_imagesKept 28 = .ok (.ireturn, 1) := by decide +kernel
theorem dX5_nextSeed_0 : decode cX5_nextSeed 0 = .ok (.iload_n 0, 1) := by decide +kernel
theorem dX5_nextSeed_1 : decode cX5_nextSeed 1 = .ok (.ldc 221, 2) := by decide +kernel
theorem dX5_nextSeed_3 : decode cX5_nextSeed 3 = .ok (.imul, 1) := by decide +kernel
theorem dX5_nextSeed_4 : decode cX5_nextSeed 4 = .ok (.sipush 12345, 3) := by decide +kernel
theorem dX5_nextSeed_7 : decode cX5_nextSeed 7 = .ok (.iadd, 1) := by decide +kernel
theorem dX5_nextSeed_8 : decode cX5_nextSeed 8 = .ok (.ireturn, 1) := by decide +kernel
theorem dX5_bitsGot_0 : decode cX5_bitsGot 0 = .ok (.iload_n 0, 1) := by decide +kernel
theorem dX5_bitsGot_1 : decode cX5_bitsGot 1 = .ok (.bipush 16, 2) := by decide +kernel
theorem dX5_bitsGot_3 : decode cX5_bitsGot 3 = .ok (.iushr, 1) := by decide +kernel
theorem dX5_bitsGot_4 : decode cX5_bitsGot 4 = .ok (.sipush 32767, 3) := by decide +kernel
theorem dX5_bitsGot_7 : decode cX5_bitsGot 7 = .ok (.iand, 1) := by decide +kernel
theorem dX5_bitsGot_8 : decode cX5_bitsGot 8 = .ok (.ireturn, 1) := by decide +kernel
theorem dX6_init_0 : decode cX6_init 0 = .ok (.aload_n 0, 1) := by decide +kernel
theorem dX6_init_1 : decode cX6_init 1 = .ok (.invokespecial 1, 3) := by decide +kernel
theorem dX6_init_4 : decode cX6_init 4 = .ok (.aload_n 0, 1) := by decide +kernel
theorem dX6_init_5 : decode cX6_init 5 = .ok (.sipush 831, 3) := by decide +kernel
theorem dX6_init_8 : decode cX6_init 8 = .ok (.newarray .int, 2) := by decide +kernel
theorem dX6_init_10 : decode cX6_init 10 = .ok (.putfield 7, 3) := by decide +kernel
theorem dX6_init_13 : decode cX6_init 13 = .ok (.aload_n 0, 1) := by decide +kernel
theorem dX6_init_14 : decode cX6_init 14 = .ok (.sipush 831, 3) := by decide +kernel
theorem dX6_init_17 : decode cX6_init 17 = .ok (.newarray .int, 2) := by decide +kernel
theorem dX6_init_19 : decode cX6_init 19 = .ok (.putfield 13, 3) := by decide +kernel
theorem dX6_init_22 : decode cX6_init 22 = .ok (.aload_n 0, 1) := by decide +kernel
theorem dX6_init_23 : decode cX6_init 23 = .ok (.sipush 1662, 3) := by decide +kernel
theorem dX6_init_26 : decode cX6_init 26 = .ok (.newarray .int, 2) := by decide +kernel
theorem dX6_init_28 : decode cX6_init 28 = .ok (.putfield 16, 3) := by decide +kernel
theorem dX6_init_31 : decode cX6_init 31 = .ok (.aload_n 0, 1) := by decide +kernel
theorem dX6_init_32 : decode cX6_init 32 = .ok (.iconst 2, 1) := by decide +kernel
theorem dX6_init_33 : decode cX6_init 33 = .ok (.newarray .boolean, 2) := by decide +kernel
theorem dX6_init_35 : decode cX6_init 35 = .ok (.putfield 19, 3) := by decide +kernel
theorem dX6_init_38 : decode cX6_init 38 = .ok (.aload_n 0, 1) := by decide +kernel
theorem dX6_init_39 : decode cX6_init 39 = .ok (.sipush 300, 3) := by decide +kernel
theorem dX6_init_42 : decode cX6_init 42 = .ok (.newarray .int, 2) := by decide +kernel
theorem dX6_init_44 : decode cX6_init 44 = .ok (.putfield 23, 3) := by decide +kernel
theorem dX6_init_47 : decode cX6_init 47 = .ok (.aload_n 0, 1) := by decide +kernel
theorem dX6_init_48 : decode cX6_init 48 = .ok (.iconst 4, 1) := by decide +kernel
theorem dX6_init_49 : decode cX6_init 49 = .ok (.newarray .int, 2) := by decide +kernel
theorem dX6_init_51 : decode cX6_init 51 = .ok (.dup, 1) := by decide +kernel
theorem dX6_init_52 : decode cX6_init 52 = .ok (.iconst 0, 1) := by decide +kernel
theorem dX6_init_53 : decode cX6_init 53 = .ok (.iconst 0, 1) := by decide +kernel
theorem dX6_init_54 : decode cX6_init 54 = .ok (.iastore, 1) := by decide +kernel
theorem dX6_init_55 : decode cX6_init 55 = .ok (.dup, 1) := by decide +kernel
theorem dX6_init_56 : decode cX6_init 56 = .ok (.iconst 1, 1) := by decide +kernel
theorem dX6_init_57 : decode cX6_init 57 = .ok (.iconst 4, 1) := by decide +kernel
theorem dX6_init_58 : decode cX6_init 58 = .ok (.iastore, 1) := by decide +kernel
theorem dX6_init_59 : decode cX6_init 59 = .ok (.dup, 1) := by decide +kernel
theorem dX6_init_60 : decode cX6_init 60 = .ok (.iconst 2, 1) := by decide +kernel
theorem dX6_init_61 : decode cX6_init 61 = .ok (.bipush 8, 2) := by decide +kernel
theorem dX6_init_63 : decode cX6_init 63 = .ok (.iastore, 1) := by decide +kernel
theorem dX6_init_64 : decode cX6_init 64 = .ok (.dup, 1) := by decide +kernel
theorem dX6_init_65 : decode cX6_init 65 = .ok (.iconst 3, 1) := by decide +kernel
theorem dX6_init_66 : decode cX6_init 66 = .ok (.bipush 14, 2) := by decide +kernel
theorem dX6_init_68 : decode cX6_init 68 = .ok (.iastore, 1) := by decide +kernel
theorem dX6_init_69 : decode cX6_init 69 = .ok (.putfield 26, 3) := by decide +kernel
theorem dX6_init_72 : decode cX6_init 72 = .ok (.aload_n 0, 1) := by decide +kernel
theorem dX6_init_73 : decode cX6_init 73 = .ok (.bipush 14, 2) := by decide +kernel
theorem dX6_init_75 : decode cX6_init 75 = .ok (.newarray .int, 2) := by decide +kernel
theorem dX6_init_77 : decode cX6_init 77 = .ok (.dup, 1) := by decide +kernel
theorem dX6_init_78 : decode cX6_init 78 = .ok (.iconst 0, 1) := by decide +kernel
theorem dX6_init_79 : decode cX6_init 79 = .ok (.bipush 110, 2) := by decide +kernel
theorem dX6_init_81 : decode cX6_init 81 = .ok (.iastore, 1) := by decide +kernel
theorem dX6_init_82 : decode cX6_init 82 = .ok (.dup, 1) := by decide +kernel
theorem dX6_init_83 : decode cX6_init 83 = .ok (.iconst 1, 1) := by decide +kernel
theorem dX6_init_84 : decode cX6_init 84 = .ok (.bipush 111, 2) := by decide +kernel
theorem dX6_init_86 : decode cX6_init 86 = .ok (.iastore, 1) := by decide +kernel
theorem dX6_init_87 : decode cX6_init 87 = .ok (.dup, 1) := by decide +kernel
theorem dX6_init_88 : decode cX6_init 88 = .ok (.iconst 2, 1) := by decide +kernel
theorem dX6_init_89 : decode cX6_init 89 = .ok (.bipush 100, 2) := by decide +kernel
theorem dX6_init_91 : decode cX6_init 91 = .ok (.iastore, 1) := by decide +kernel
theorem dX6_init_92 : decode cX6_init 92 = .ok (.dup, 1) := by decide +kernel
theorem dX6_init_93 : decode cX6_init 93 = .ok (.iconst 3, 1) := by decide +kernel
theorem dX6_init_94 : decode cX6_init 94 = .ok (.bipush 101, 2) := by decide +kernel
theorem dX6_init_96 : decode cX6_init 96 = .ok (.iastore, 1) := by decide +kernel
theorem dX6_init_97 : decode cX6_init 97 = .ok (.dup, 1) := by decide +kernel
theorem dX6_init_98 : decode cX6_init 98 = .ok (.iconst 4, 1) := by decide +kernel
theorem dX6_init_99 : decode cX6_init 99 = .ok (.bipush 109, 2) := by decide +kernel
theorem dX6_init_101 : decode cX6_init 101 = .ok (.iastore, 1) := by decide +kernel
theorem dX6_init_102 : decode cX6_init 102 = .ok (.dup, 1) := by decide +kernel
theorem dX6_init_103 : decode cX6_init 103 = .ok (.iconst 5, 1) := by decide +kernel
theorem dX6_init_104 : decode cX6_init 104 = .ok (.bipush 101, 2) := by decide +kernel
theorem dX6_init_106 : decode cX6_init 106 = .ok (.iastore, 1) := by decide +kernel
theorem dX6_init_107 : decode cX6_init 107 = .ok (.dup, 1) := by decide +kernel
theorem dX6_init_108 : decode cX6_init 108 = .ok (.bipush 6, 2) := by decide +kernel
theorem dX6_init_110 : decode cX6_init 110 = .ok (.bipush 101, 2) := by decide +kernel
theorem dX6_init_112 : decode cX6_init 112 = .ok (.iastore, 1) := by decide +kernel
theorem dX6_init_113 : decode cX6_init 113 = .ok (.dup, 1) := by decide +kernel
theorem dX6_init_114 : decode cX6_init 114 = .ok (.bipush 7, 2) := by decide +kernel
theorem dX6_init_116 : decode cX6_init 116 = .ok (.bipush 116, 2) := by decide +kernel
theorem dX6_init_118 : decode cX6_init 118 = .ok (.iastore, 1) := by decide +kernel
theorem dX6_init_119 : decode cX6_init 119 = .ok (.dup, 1) := by decide +kernel
theorem dX6_init_120 : decode cX6_init 120 = .ok (.bipush 8, 2) := by decide +kernel
theorem dX6_init_122 : decode cX6_init 122 = .ok (.bipush 108, 2) := by decide +kernel
theorem dX6_init_124 : decode cX6_init 124 = .ok (.iastore, 1) := by decide +kernel
theorem dX6_init_125 : decode cX6_init 125 = .ok (.dup, 1) := by decide +kernel
theorem dX6_init_126 : decode cX6_init 126 = .ok (.bipush 9, 2) := by decide +kernel
theorem dX6_init_128 : decode cX6_init 128 = .ok (.bipush 101, 2) := by decide +kernel
theorem dX6_init_130 : decode cX6_init 130 = .ok (.iastore, 1) := by decide +kernel
theorem dX6_init_131 : decode cX6_init 131 = .ok (.dup, 1) := by decide +kernel
theorem dX6_init_132 : decode cX6_init 132 = .ok (.bipush 10, 2) := by decide +kernel
theorem dX6_init_134 : decode cX6_init 134 = .ok (.bipush 116, 2) := by decide +kernel
theorem dX6_init_136 : decode cX6_init 136 = .ok (.iastore, 1) := by decide +kernel
theorem dX6_init_137 : decode cX6_init 137 = .ok (.dup, 1) := by decide +kernel
theorem dX6_init_138 : decode cX6_init 138 = .ok (.bipush 11, 2) := by decide +kernel
theorem dX6_init_140 : decode cX6_init 140 = .ok (.bipush 116, 2) := by decide +kernel
theorem dX6_init_142 : decode cX6_init 142 = .ok (.iastore, 1) := by decide +kernel
theorem dX6_init_143 : decode cX6_init 143 = .ok (.dup, 1) := by decide +kernel
theorem dX6_init_144 : decode cX6_init 144 = .ok (.bipush 12, 2) := by decide +kernel
theorem dX6_init_146 : decode cX6_init 146 = .ok (.bipush 101, 2) := by decide +kernel
theorem dX6_init_148 : decode cX6_init 148 = .ok (.iastore, 1) := by decide +kernel
theorem dX6_init_149 : decode cX6_init 149 = .ok (.dup, 1) := by decide +kernel
theorem dX6_init_150 : decode cX6_init 150 = .ok (.bipush 13, 2) := by decide +kernel
theorem dX6_init_152 : decode cX6_init 152 = .ok (.bipush 114, 2) := by decide +kernel
theorem dX6_init_154 : decode cX6_init 154 = .ok (.iastore, 1) := by decide +kernel
theorem dX6_init_155 : decode cX6_init 155 = .ok (.putfield 29, 3) := by decide +kernel
theorem dX6_init_158 : decode cX6_init 158 = .ok (.aload_n 0, 1) := by decide +kernel
theorem dX6_init_159 : decode cX6_init 159 = .ok (.bipush 16, 2) := by decide +kernel
theorem dX6_init_161 : decode cX6_init 161 = .ok (.newarray .boolean, 2) := by decide +kernel
theorem dX6_init_163 : decode cX6_init 163 = .ok (.putfield 32, 3) := by decide +kernel
theorem dX6_init_166 : decode cX6_init 166 = .ok (.aload_n 0, 1) := by decide +kernel
theorem dX6_init_167 : decode cX6_init 167 = .ok (.bipush 8, 2) := by decide +kernel
theorem dX6_init_169 : decode cX6_init 169 = .ok (.newarray .boolean, 2) := by decide +kernel
theorem dX6_init_171 : decode cX6_init 171 = .ok (.putfield 35, 3) := by decide +kernel
theorem dX6_init_174 : decode cX6_init 174 = .ok (.aload_n 0, 1) := by decide +kernel
theorem dX6_init_175 : decode cX6_init 175 = .ok (.getfield 7, 3) := by decide +kernel
theorem dX6_init_178 : decode cX6_init 178 = .ok (.iconst 5, 1) := by decide +kernel
theorem dX6_init_179 : decode cX6_init 179 = .ok (.iconst 1, 1) := by decide +kernel
theorem dX6_init_180 : decode cX6_init 180 = .ok (.iastore, 1) := by decide +kernel
theorem dX6_init_181 : decode cX6_init 181 = .ok (.aload_n 0, 1) := by decide +kernel
theorem dX6_init_182 : decode cX6_init 182 = .ok (.getfield 7, 3) := by decide +kernel
theorem dX6_init_185 : decode cX6_init 185 = .ok (.bipush 6, 2) := by decide +kernel
theorem dX6_init_187 : decode cX6_init 187 = .ok (.iconst 1, 1) := by decide +kernel
theorem dX6_init_188 : decode cX6_init 188 = .ok (.iastore, 1) := by decide +kernel
theorem dX6_init_189 : decode cX6_init 189 = .ok (.return_, 1) := by decide +kernel
theorem dX6_in_0 : decode cX6_in 0 = .ok (.lload_n 0, 1) := by decide +kernel
theorem dX6_in_1 : decode cX6_in 1 = .ok (.lload_n 2, 1) := by decide +kernel
theorem dX6_in_2 : decode cX6_in 2 = .ok (.lcmp, 1) := by decide +kernel
theorem dX6_in_3 : decode cX6_in 3 = .ok (.ifCond .lt 14, 3) := by decide +kernel
theorem dX6_in_6 : decode cX6_in 6 = .ok (.lload_n 0, 1) := by decide +kernel
theorem dX6_in_7 : decode cX6_in 7 = .ok (.lload 4, 2) := by decide +kernel
theorem dX6_in_9 : decode cX6_in 9 = .ok (.lcmp, 1) := by decide +kernel
theorem dX6_in_10 : decode cX6_in 10 = .ok (.ifCond .gt 7, 3) := by decide +kernel
theorem dX6_in_13 : decode cX6_in 13 = .ok (.iconst 1, 1) := by decide +kernel
theorem dX6_in_14 : decode cX6_in 14 = .ok (.goto 4, 3) := by decide +kernel
theorem dX6_in_17 : decode cX6_in 17 = .ok (.iconst 0, 1) := by decide +kernel
theorem dX6_in_18 : decode cX6_in 18 = .ok (.ireturn, 1) := by decide +kernel
theorem dX6_feed_0 : decode cX6_feed 0 = .ok (.iload_n 1, 1) := by decide +kernel
theorem dX6_feed_1 : decode cX6_feed 1 = .ok (.i2l, 1) := by decide +kernel
theorem dX6_feed_2 : decode cX6_feed 2 = .ok (.lconst 0, 1) := by decide +kernel
theorem dX6_feed_3 : decode cX6_feed 3 = .ok (.ldc2_w 38, 3) := by decide +kernel
theorem dX6_feed_6 : decode cX6_feed 6 = .ok (.invokestatic 40, 3) := by decide +kernel
theorem dX6_feed_9 : decode cX6_feed 9 = .ok (.ifCond .ne 5, 3) := by decide +kernel
theorem dX6_feed_12 : decode cX6_feed 12 = .ok (.iconst (-1), 1) := by decide +kernel
theorem dX6_feed_13 : decode cX6_feed 13 = .ok (.ireturn, 1) := by decide +kernel
theorem dX6_feed_14 : decode cX6_feed 14 = .ok (.aload_n 0, 1) := by decide +kernel
theorem dX6_feed_15 : decode cX6_feed 15 = .ok (.getfield 44, 3) := by decide +kernel
theorem dX6_feed_18 : decode cX6_feed 18 = .ok (.sipush 300, 3) := by decide +kernel
theorem dX6_feed_21 : decode cX6_feed 21 = .ok (.if_icmp .ne 6, 3) := by decide +kernel
theorem dX6_feed_24 : decode cX6_feed 24 = .ok (.bipush (-3), 2) := by decide +kernel
theorem dX6_feed_26 : decode cX6_feed 26 = .ok (.ireturn, 1) := by decide +kernel
theorem dX6_feed_27 : decode cX6_feed 27 = .ok (.aload_n 0, 1) := by decide +kernel
theorem dX6_feed_28 : decode cX6_feed 28 = .ok (.getfield 23, 3) := by decide +kernel
theorem dX6_feed_31 : decode cX6_feed 31 = .ok (.aload_n 0, 1) := by decide +kernel
theorem dX6_feed_32 : decode cX6_feed 32 = .ok (.getfield 44, 3) := by decide +kernel
theorem dX6_feed_35 : decode cX6_feed 35 = .ok (.iload_n 1, 1) := by decide +kernel
theorem dX6_feed_36 : decode cX6_feed 36 = .ok (.iastore, 1) := by decide +kernel
theorem dX6_feed_37 : decode cX6_feed 37 = .ok (.aload_n 0, 1) := by decide +kernel
theorem dX6_feed_38 : decode cX6_feed 38 = .ok (.dup, 1) := by decide +kernel
theorem dX6_feed_39 : decode cX6_feed 39 = .ok (.getfield 44, 3) := by decide +kernel
theorem dX6_feed_42 : decode cX6_feed 42 = .ok (.iconst 1, 1) := by decide +kernel
theorem dX6_feed_43 : decode cX6_feed 43 = .ok (.iadd, 1) := by decide +kernel
theorem dX6_feed_44 : decode cX6_feed 44 = .ok (.putfield 44, 3) := by decide +kernel
theorem dX6_feed_47 : decode cX6_feed 47 = .ok (.aload_n 0, 1) := by decide +kernel
theorem dX6_feed_48 : decode cX6_feed 48 = .ok (.getfield 44, 3) := by decide +kernel
theorem dX6_feed_51 : decode cX6_feed 51 = .ok (.ireturn, 1) := by decide +kernel
theorem dX6_end_0 : decode cX6_end 0 = .ok (.iload_n 1, 1) := by decide +kernel
theorem dX6_end_1 : decode cX6_end 1 = .ok (.i2l, 1) := by decide +kernel
theorem dX6_end_2 : decode cX6_end 2 = .ok (.lconst 0, 1) := by decide +kernel
theorem dX6_end_3 : decode cX6_end 3 = .ok (.aload_n 0, 1) := by decide +kernel
theorem dX6_end_4 : decode cX6_end 4 = .ok (.getfield 44, 3) := by decide +kernel
theorem dX6_end_7 : decode cX6_end 7 = .ok (.i2l, 1) := by decide +kernel
theorem dX6_end_8 : decode cX6_end 8 = .ok (.invokestatic 40, 3) := by decide +kernel
theorem dX6_end_11 : decode cX6_end 11 = .ok (.ifCond .ne 5, 3) := by decide +kernel
theorem dX6_end_14 : decode cX6_end 14 = .ok (.iconst (-1), 1) := by decide +kernel
theorem dX6_end_15 : decode cX6_end 15 = .ok (.ireturn, 1) := by decide +kernel
theorem dX6_end_16 : decode cX6_end 16 = .ok (.aload_n 0, 1) := by decide +kernel
theorem dX6_end_17 : decode cX6_end 17 = .ok (.getfield 44, 3) := by decide +kernel
theorem dX6_end_20 : decode cX6_end 20 = .ok (.istore_n 2, 1) := by decide +kernel
theorem dX6_end_21 : decode cX6_end 21 = .ok (.aload_n 0, 1) := by decide +kernel
theorem dX6_end_22 : decode cX6_end 22 = .ok (.iload_n 1, 1) := by decide +kernel
theorem dX6_end_23 : decode cX6_end 23 = .ok (.putfield 44, 3) := by decide +kernel
theorem dX6_end_26 : decode cX6_end 26 = .ok (.iload_n 2, 1) := by decide +kernel
theorem dX6_end_27 : decode cX6_end 27 = .ok (.ireturn, 1) := by decide +kernel
theorem dX6_byteAt_0 : decode cX6_byteAt 0 = .ok (.iload_n 1, 1) := by decide +kernel
theorem dX6_byteAt_1 : decode cX6_byteAt 1 = .ok (.aload_n 0, 1) := by decide +kernel
theorem dX6_byteAt_2 : decode cX6_byteAt 2 = .ok (.getfield 44, 3) := by decide +kernel
theorem dX6_byteAt_5 : decode cX6_byteAt 5 = .ok (.if_icmp .ge 12, 3) := by decide +kernel
theorem dX6_byteAt_8 : decode cX6_byteAt 8 = .ok (.aload_n 0, 1) := by decide +kernel
theorem dX6_byteAt_9 : decode cX6_byteAt 9 = .ok (.getfield 23, 3) := by decide +kernel
theorem dX6_byteAt_12 : decode cX6_byteAt 12 = .ok (.iload_n 1, 1) := by decide +kernel
theorem dX6_byteAt_13 : decode cX6_byteAt 13 = .ok (.iaload, 1) := by decide +kernel
theorem dX6_byteAt_14 : decode cX6_byteAt 14 = .ok (.goto 5, 3) := by decide +kernel
theorem dX6_byteAt_17 : decode cX6_byteAt 17 = .ok (.bipush (-4), 2) := by decide +kernel
theorem dX6_byteAt_19 : decode cX6_byteAt 19 = .ok (.ireturn, 1) := by decide +kernel
theorem dX6_must_0 : decode cX6_must 0 = .ok (.iload_n 1, 1) := by decide +kernel
theorem dX6_must_1 : decode cX6_must 1 = .ok (.ifCond .ne 23, 3) := by decide +kernel
theorem dX6_must_4 : decode cX6_must 4 = .ok (.aload_n 0, 1) := by decide +kernel
theorem dX6_must_5 : decode cX6_must 5 = .ok (.getfield 48, 3) := by decide +kernel
theorem dX6_must_8 : decode cX6_must 8 = .ok (.ifCond .ne 16, 3) := by decide +kernel
theorem dX6_must_11 : decode cX6_must 11 = .ok (.aload_n 0, 1) := by decide +kernel
theorem dX6_must_12 : decode cX6_must 12 = .ok (.iload_n 2, 1) := by decide +kernel
theorem dX6_must_13 : decode cX6_must 13 = .ok (.putfield 48, 3) := by decide +kernel
theorem dX6_must_16 : decode cX6_must 16 = .ok (.aload_n 0, 1) := by decide +kernel
theorem dX6_must_17 : decode cX6_must 17 = .ok (.aload_n 0, 1) := by decide +kernel
theorem dX6_must_18 : decode cX6_must 18 = .ok (.getfield 51, 3) := by decide +kernel
theorem dX6_must_21 : decode cX6_must 21 = .ok (.putfield 54, 3) := by decide +kernel
theorem dX6_must_24 : decode cX6_must 24 = .ok (.return_, 1) := by decide +kernel
theorem dX6_reads_0 : decode cX6_reads 0 = .ok (.aload_n 0, 1) := by decide +kernel
theorem dX6_reads_1 : decode cX6_reads 1 = .ok (.getfield 48, 3) := by decide +kernel
theorem dX6_reads_4 : decode cX6_reads 4 = .ok (.ifCond .le 4, 3) := by decide +kernel
theorem dX6_reads_7 : decode cX6_reads 7 = .ok (.return_, 1) := by decide +kernel
theorem dX6_reads_8 : decode cX6_reads 8 = .ok (.aload_n 0, 1) := by decide +kernel
theorem dX6_reads_9 : decode cX6_reads 9 = .ok (.aload_n 0, 1) := by decide +kernel
theorem dX6_reads_10 : decode cX6_reads 10 = .ok (.getfield 57, 3) := by decide +kernel
theorem dX6_reads_13 : decode cX6_reads 13 = .ok (.invokevirtual 60, 3) := by decide +kernel
theorem dX6_reads_16 : decode cX6_reads 16 = .ok (.bipush 32, 2) := by decide +kernel
theorem dX6_reads_18 : decode cX6_reads 18 = .ok (.if_icmp .ne 16, 3) := by decide +kernel
theorem dX6_reads_21 : decode cX6_reads 21 = .ok (.aload_n 0, 1) := by decide +kernel
theorem dX6_reads_22 : decode cX6_reads 22 = .ok (.dup, 1) := by decide +kernel
theorem dX6_reads_23 : decode cX6_reads 23 = .ok (.getfield 57, 3) := by decide +kernel
theorem dX6_reads_26 : decode cX6_reads 26 = .ok (.iconst 1, 1) := by decide +kernel
theorem dX6_reads_27 : decode cX6_reads 27 = .ok (.iadd, 1) := by decide +kernel
theorem dX6_reads_28 : decode cX6_reads 28 = .ok (.putfield 57, 3) := by decide +kernel
theorem dX6_reads_31 : decode cX6_reads 31 = .ok (.goto (-23), 3) := by decide +kernel
theorem dX6_reads_34 : decode cX6_reads 34 = .ok (.aload_n 0, 1) := by decide +kernel
theorem dX6_reads_35 : decode cX6_reads 35 = .ok (.aload_n 0, 1) := by decide +kernel
theorem dX6_reads_36 : decode cX6_reads 36 = .ok (.getfield 57, 3) := by decide +kernel
theorem dX6_reads_39 : decode cX6_reads 39 = .ok (.putfield 51, 3) := by decide +kernel
theorem dX6_reads_42 : decode cX6_reads 42 = .ok (.aload_n 0, 1) := by decide +kernel
theorem dX6_reads_43 : decode cX6_reads 43 = .ok (.aload_n 0, 1) := by decide +kernel
theorem dX6_reads_44 : decode cX6_reads 44 = .ok (.getfield 57, 3) := by decide +kernel
theorem dX6_reads_47 : decode cX6_reads 47 = .ok (.invokevirtual 60, 3) := by decide +kernel
theorem dX6_reads_50 : decode cX6_reads 50 = .ok (.istore_n 1, 1) := by decide +kernel
theorem dX6_reads_51 : decode cX6_reads 51 = .ok (.aload_n 0, 1) := by decide +kernel
theorem dX6_reads_52 : decode cX6_reads 52 = .ok (.iload_n 1, 1) := by decide +kernel
theorem dX6_reads_53 : decode cX6_reads 53 = .ok (.putfield 64, 3) := by decide +kernel
theorem dX6_reads_56 : decode cX6_reads 56 = .ok (.iload_n 1, 1) := by decide +kernel
theorem dX6_reads_57 : decode cX6_reads 57 = .ok (.bipush (-4), 2) := by decide +kernel
theorem dX6_reads_59 : decode cX6_reads 59 = .ok (.if_icmp .ne 11, 3) := by decide +kernel
theorem dX6_reads_62 : decode cX6_reads 62 = .ok (.aload_n 0, 1) := by decide +kernel
theorem dX6_reads_63 : decode cX6_reads 63 = .ok (.iconst 0, 1) := by decide +kernel
theorem dX6_reads_64 : decode cX6_reads 64 = .ok (.putfield 67, 3) := by decide +kernel
theorem dX6_reads_67 : decode cX6_reads 67 = .ok (.goto 214, 3) := by decide +kernel
theorem dX6_reads_70 : decode cX6_reads 70 = .ok (.iload_n 1, 1) := by decide +kernel
theorem dX6_reads_71 : decode cX6_reads 71 = .ok (.i2l, 1) := by decide +kernel
theorem dX6_reads_72 : decode cX6_reads 72 = .ok (.ldc2_w 70, 3) := by decide +kernel
theorem dX6_reads_75 : decode cX6_reads 75 = .ok (.ldc2_w 72, 3) := by decide +kernel
theorem dX6_reads_78 : decode cX6_reads 78 = .ok (.invokestatic 40, 3) := by decide +kernel
theorem dX6_reads_81 : decode cX6_reads 81 = .ok (.ifCond .eq 42, 3) := by decide +kernel
theorem dX6_reads_84 : decode cX6_reads 84 = .ok (.aload_n 0, 1) := by decide +kernel
theorem dX6_reads_85 : decode cX6_reads 85 = .ok (.iconst 1, 1) := by decide +kernel
theorem dX6_reads_86 : decode cX6_reads 86 = .ok (.putfield 67, 3) := by decide +kernel
theorem dX6_reads_89 : decode cX6_reads 89 = .ok (.aload_n 0, 1) := by decide +kernel
theorem dX6_reads_90 : decode cX6_reads 90 = .ok (.aload_n 0, 1) := by decide +kernel
theorem dX6_reads_91 : decode cX6_reads 91 = .ok (.getfield 57, 3) := by decide +kernel
theorem dX6_reads_94 : decode cX6_reads 94 = .ok (.invokevirtual 60, 3) := by decide +kernel
theorem dX6_reads_97 : decode cX6_reads 97 = .ok (.i2l, 1) := by decide +kernel
theorem dX6_reads_98 : decode cX6_reads 98 = .ok (.ldc2_w 70, 3) := by decide +kernel
theorem dX6_reads_101 : decode cX6_reads 101 = .ok (.ldc2_w 72, 3) := by decide +kernel
theorem dX6_reads_104 : decode cX6_reads 104 = .ok (.invokestatic 40, 3) := by decide +kernel
theorem dX6_reads_107 : decode cX6_reads 107 = .ok (.ifCond .eq 174, 3) := by decide +kernel
theorem dX6_reads_110 : decode cX6_reads 110 = .ok (.aload_n 0, 1) := by decide +kernel
theorem dX6_reads_111 : decode cX6_reads 111 = .ok (.dup, 1) := by decide +kernel
theorem dX6_reads_112 : decode cX6_reads 112 = .ok (.getfield 57, 3) := by decide +kernel
theorem dX6_reads_115 : decode cX6_reads 115 = .ok (.iconst 1, 1) := by decide +kernel
theorem dX6_reads_116 : decode cX6_reads 116 = .ok (.iadd, 1) := by decide +kernel
theorem dX6_reads_117 : decode cX6_reads 117 = .ok (.putfield 57, 3) := by decide +kernel
theorem dX6_reads_120 : decode cX6_reads 120 = .ok (.goto (-31), 3) := by decide +kernel
theorem dX6_reads_123 : decode cX6_reads 123 = .ok (.iload_n 1, 1) := by decide +kernel
theorem dX6_reads_124 : decode cX6_reads 124 = .ok (.i2l, 1) := by decide +kernel
theorem dX6_reads_125 : decode cX6_reads 125 = .ok (.ldc2_w 74, 3) := by decide +kernel
theorem dX6_reads_128 : decode cX6_reads 128 = .ok (.ldc2_w 76, 3) := by decide +kernel
theorem dX6_reads_131 : decode cX6_reads 131 = .ok (.invokestatic 40, 3) := by decide +kernel
theorem dX6_reads_134 : decode cX6_reads 134 = .ok (.ifCond .eq 116, 3) := by decide +kernel
theorem dX6_reads_137 : decode cX6_reads 137 = .ok (.aload_n 0, 1) := by decide +kernel
theorem dX6_reads_138 : decode cX6_reads 138 = .ok (.iconst 2, 1) := by decide +kernel
theorem dX6_reads_139 : decode cX6_reads 139 = .ok (.putfield 67, 3) := by decide +kernel
theorem dX6_reads_142 : decode cX6_reads 142 = .ok (.aload_n 0, 1) := by decide +kernel
theorem dX6_reads_143 : decode cX6_reads 143 = .ok (.iconst 0, 1) := by decide +kernel
theorem dX6_reads_144 : decode cX6_reads 144 = .ok (.putfield 64, 3) := by decide +kernel
theorem dX6_reads_147 : decode cX6_reads 147 = .ok (.aload_n 0, 1) := by decide +kernel
theorem dX6_reads_148 : decode cX6_reads 148 = .ok (.aload_n 0, 1) := by decide +kernel
theorem dX6_reads_149 : decode cX6_reads 149 = .ok (.getfield 57, 3) := by decide +kernel
theorem dX6_reads_152 : decode cX6_reads 152 = .ok (.invokevirtual 60, 3) := by decide +kernel
theorem dX6_reads_155 : decode cX6_reads 155 = .ok (.i2l, 1) := by decide +kernel
theorem dX6_reads_156 : decode cX6_reads 156 = .ok (.ldc2_w 74, 3) := by decide +kernel
theorem dX6_reads_159 : decode cX6_reads 159 = .ok (.ldc2_w 76, 3) := by decide +kernel
theorem dX6_reads_162 : decode cX6_reads 162 = .ok (.invokestatic 40, 3) := by decide +kernel
theorem dX6_reads_165 : decode cX6_reads 165 = .ok (.ifCond .eq 59, 3) := by decide +kernel
theorem dX6_reads_168 : decode cX6_reads 168 = .ok (.aload_n 0, 1) := by decide +kernel
theorem dX6_reads_169 : decode cX6_reads 169 = .ok (.aload_n 0, 1) := by decide +kernel
theorem dX6_reads_170 : decode cX6_reads 170 = .ok (.getfield 57, 3) := by decide +kernel
theorem dX6_reads_173 : decode cX6_reads 173 = .ok (.aload_n 0, 1) := by decide +kernel
theorem dX6_reads_174 : decode cX6_reads 174 = .ok (.getfield 51, 3) := by decide +kernel
theorem dX6_reads_177 : decode cX6_reads 177 = .ok (.isub, 1) := by decide +kernel
theorem dX6_reads_178 : decode cX6_reads 178 = .ok (.iconst 2, 1) := by decide +kernel
theorem dX6_reads_179 : decode cX6_reads 179 = .ok (.if_icmp .ge 25, 3) := by decide +kernel
theorem dX6_reads_182 : decode cX6_reads 182 = .ok (.bipush 10, 2) := by decide +kernel
theorem dX6_reads_184 : decode cX6_reads 184 = .ok (.aload_n 0, 1) := by decide +kernel
theorem dX6_reads_185 : decode cX6_reads 185 = .ok (.getfield 64, 3) := by decide +kernel
theorem dX6_reads_188 : decode cX6_reads 188 = .ok (.imul, 1) := by decide +kernel
theorem dX6_reads_189 : decode cX6_reads 189 = .ok (.aload_n 0, 1) := by decide +kernel
theorem dX6_reads_190 : decode cX6_reads 190 = .ok (.aload_n 0, 1) := by decide +kernel
theorem dX6_reads_191 : decode cX6_reads 191 = .ok (.getfield 57, 3) := by decide +kernel
theorem dX6_reads_194 : decode cX6_reads 194 = .ok (.invokevirtual 60, 3) := by decide +kernel
theorem dX6_reads_197 : decode cX6_reads 197 = .ok (.iadd, 1) := by decide +kernel
theorem dX6_reads_198 : decode cX6_reads 198 = .ok (.bipush 48, 2) := by decide +kernel
theorem dX6_reads_200 : decode cX6_reads 200 = .ok (.isub, 1) := by decide +kernel
theorem dX6_reads_201 : decode cX6_reads 201 = .ok (.goto 7, 3) := by decide +kernel
theorem dX6_reads_204 : decode cX6_reads 204 = .ok (.aload_n 0, 1) := by decide +kernel
theorem dX6_reads_205 : decode cX6_reads 205 = .ok (.getfield 64, 3) := by decide +kernel
theorem dX6_reads_208 : decode cX6_reads 208 = .ok (.putfield 64, 3) := by decide +kernel
theorem dX6_reads_211 : decode cX6_reads 211 = .ok (.aload_n 0, 1) := by decide +kernel
theorem dX6_reads_212 : decode cX6_reads 212 = .ok (.dup, 1) := by decide +kernel
theorem dX6_reads_213 : decode cX6_reads 213 = .ok (.getfield 57, 3) := by decide +kernel
theorem dX6_reads_216 : decode cX6_reads 216 = .ok (.iconst 1, 1) := by decide +kernel
theorem dX6_reads_217 : decode cX6_reads 217 = .ok (.iadd, 1) := by decide +kernel
theorem dX6_reads_218 : decode cX6_reads 218 = .ok (.putfield 57, 3) := by decide +kernel
theorem dX6_reads_221 : decode cX6_reads 221 = .ok (.goto (-74), 3) := by decide +kernel
theorem dX6_reads_224 : decode cX6_reads 224 = .ok (.aload_n 0, 1) := by decide +kernel
theorem dX6_reads_225 : decode cX6_reads 225 = .ok (.aload_n 0, 1) := by decide +kernel
theorem dX6_reads_226 : decode cX6_reads 226 = .ok (.getfield 57, 3) := by decide +kernel
theorem dX6_reads_229 : decode cX6_reads 229 = .ok (.aload_n 0, 1) := by decide +kernel
theorem dX6_reads_230 : decode cX6_reads 230 = .ok (.getfield 51, 3) := by decide +kernel
theorem dX6_reads_233 : decode cX6_reads 233 = .ok (.isub, 1) := by decide +kernel
theorem dX6_reads_234 : decode cX6_reads 234 = .ok (.iconst 2, 1) := by decide +kernel
theorem dX6_reads_235 : decode cX6_reads 235 = .ok (.if_icmp .gt 7, 3) := by decide +kernel
theorem dX6_reads_238 : decode cX6_reads 238 = .ok (.iconst 1, 1) := by decide +kernel
theorem dX6_reads_239 : decode cX6_reads 239 = .ok (.goto 4, 3) := by decide +kernel
theorem dX6_reads_242 : decode cX6_reads 242 = .ok (.iconst 0, 1) := by decide +kernel
theorem dX6_reads_243 : decode cX6_reads 243 = .ok (.iconst 1, 1) := by decide +kernel
theorem dX6_reads_244 : decode cX6_reads 244 = .ok (.invokevirtual 78, 3) := by decide +kernel
theorem dX6_reads_247 : decode cX6_reads 247 = .ok (.goto 34, 3) := by decide +kernel
theorem dX6_reads_250 : decode cX6_reads 250 = .ok (.aload_n 0, 1) := by decide +kernel
theorem dX6_reads_251 : decode cX6_reads 251 = .ok (.iconst 3, 1) := by decide +kernel
theorem dX6_reads_252 : decode cX6_reads 252 = .ok (.putfield 67, 3) := by decide +kernel
theorem dX6_reads_255 : decode cX6_reads 255 = .ok (.aload_n 0, 1) := by decide +kernel
theorem dX6_reads_256 : decode cX6_reads 256 = .ok (.iload_n 1, 1) := by decide +kernel
theorem dX6_reads_257 : decode cX6_reads 257 = .ok (.bipush 59, 2) := by decide +kernel
theorem dX6_reads_259 : decode cX6_reads 259 = .ok (.if_icmp .ne 7, 3) := by decide +kernel
theorem dX6_reads_262 : decode cX6_reads 262 = .ok (.iconst 1, 1) := by decide +kernel
theorem dX6_reads_263 : decode cX6_reads 263 = .ok (.goto 4, 3) := by decide +kernel
theorem dX6_reads_266 : decode cX6_reads 266 = .ok (.iconst 0, 1) := by decide +kernel
theorem dX6_reads_267 : decode cX6_reads 267 = .ok (.iconst 1, 1) := by decide +kernel
theorem dX6_reads_268 : decode cX6_reads 268 = .ok (.invokevirtual 78, 3) := by decide +kernel
theorem dX6_reads_271 : decode cX6_reads 271 = .ok (.aload_n 0, 1) := by decide +kernel
theorem dX6_reads_272 : decode cX6_reads 272 = .ok (.dup, 1) := by decide +kernel
theorem dX6_reads_273 : decode cX6_reads 273 = .ok (.getfield 57, 3) := by decide +kernel
theorem dX6_reads_276 : decode cX6_reads 276 = .ok (.iconst 1, 1) := by decide +kernel
theorem dX6_reads_277 : decode cX6_reads 277 = .ok (.iadd, 1) := by decide +kernel
theorem dX6_reads_278 : decode cX6_reads 278 = .ok (.putfield 57, 3) := by decide +kernel
theorem dX6_reads_281 : decode cX6_reads 281 = .ok (.return_, 1) := by decide +kernel
theorem dX6_wordNow_0 : decode cX6_wordNow 0 = .ok (.iconst 0, 1) := by decide +kernel
theorem dX6_wordNow_1 : decode cX6_wordNow 1 = .ok (.istore_n 1, 1) := by decide +kernel
theorem dX6_wordNow_2 : decode cX6_wordNow 2 = .ok (.iload_n 1, 1) := by decide +kernel
theorem dX6_wordNow_3 : decode cX6_wordNow 3 = .ok (.iconst 2, 1) := by decide +kernel
theorem dX6_wordNow_4 : decode cX6_wordNow 4 = .ok (.if_icmp .gt 117, 3) := by decide +kernel
theorem dX6_wordNow_7 : decode cX6_wordNow 7 = .ok (.aload_n 0, 1) := by decide +kernel
theorem dX6_wordNow_8 : decode cX6_wordNow 8 = .ok (.getfield 67, 3) := by decide +kernel
theorem dX6_wordNow_11 : decode cX6_wordNow 11 = .ok (.iconst 1, 1) := by decide +kernel
theorem dX6_wordNow_12 : decode cX6_wordNow 12 = .ok (.if_icmp .ne 34, 3) := by decide +kernel
theorem dX6_wordNow_15 : decode cX6_wordNow 15 = .ok (.aload_n 0, 1) := by decide +kernel
theorem dX6_wordNow_16 : decode cX6_wordNow 16 = .ok (.getfield 57, 3) := by decide +kernel
theorem dX6_wordNow_19 : decode cX6_wordNow 19 = .ok (.aload_n 0, 1) := by decide +kernel
theorem dX6_wordNow_20 : decode cX6_wordNow 20 = .ok (.getfield 51, 3) := by decide +kernel
theorem dX6_wordNow_23 : decode cX6_wordNow 23 = .ok (.isub, 1) := by decide +kernel
theorem dX6_wordNow_24 : decode cX6_wordNow 24 = .ok (.aload_n 0, 1) := by decide +kernel
theorem dX6_wordNow_25 : decode cX6_wordNow 25 = .ok (.getfield 26, 3) := by decide +kernel
theorem dX6_wordNow_28 : decode cX6_wordNow 28 = .ok (.iload_n 1, 1) := by decide +kernel
theorem dX6_wordNow_29 : decode cX6_wordNow 29 = .ok (.iconst 1, 1) := by decide +kernel
theorem dX6_wordNow_30 : decode cX6_wordNow 30 = .ok (.iadd, 1) := by decide +kernel
theorem dX6_wordNow_31 : decode cX6_wordNow 31 = .ok (.iaload, 1) := by decide +kernel
theorem dX6_wordNow_32 : decode cX6_wordNow 32 = .ok (.aload_n 0, 1) := by decide +kernel
theorem dX6_wordNow_33 : decode cX6_wordNow 33 = .ok (.getfield 26, 3) := by decide +kernel
theorem dX6_wordNow_36 : decode cX6_wordNow 36 = .ok (.iload_n 1, 1) := by decide +kernel
theorem dX6_wordNow_37 : decode cX6_wordNow 37 = .ok (.iaload, 1) := by decide +kernel
theorem dX6_wordNow_38 : decode cX6_wordNow 38 = .ok (.isub, 1) := by decide +kernel
theorem dX6_wordNow_39 : decode cX6_wordNow 39 = .ok (.if_icmp .ne 7, 3) := by decide +kernel
theorem dX6_wordNow_42 : decode cX6_wordNow 42 = .ok (.iconst 1, 1) := by decide +kernel
theorem dX6_wordNow_43 : decode cX6_wordNow 43 = .ok (.goto 4, 3) := by decide +kernel
theorem dX6_wordNow_46 : decode cX6_wordNow 46 = .ok (.iconst 0, 1) := by decide +kernel
theorem dX6_wordNow_47 : decode cX6_wordNow 47 = .ok (.istore_n 2, 1) := by decide +kernel
theorem dX6_wordNow_48 : decode cX6_wordNow 48 = .ok (.aload_n 0, 1) := by decide +kernel
theorem dX6_wordNow_49 : decode cX6_wordNow 49 = .ok (.getfield 26, 3) := by decide +kernel
theorem dX6_wordNow_52 : decode cX6_wordNow 52 = .ok (.iload_n 1, 1) := by decide +kernel
theorem dX6_wordNow_53 : decode cX6_wordNow 53 = .ok (.iaload, 1) := by decide +kernel
theorem dX6_wordNow_54 : decode cX6_wordNow 54 = .ok (.istore_n 3, 1) := by decide +kernel
theorem dX6_wordNow_55 : decode cX6_wordNow 55 = .ok (.iload_n 3, 1) := by decide +kernel
theorem dX6_wordNow_56 : decode cX6_wordNow 56 = .ok (.aload_n 0, 1) := by decide +kernel
theorem dX6_wordNow_57 : decode cX6_wordNow 57 = .ok (.getfield 26, 3) := by decide +kernel
theorem dX6_wordNow_60 : decode cX6_wordNow 60 = .ok (.iload_n 1, 1) := by decide +kernel
theorem dX6_wordNow_61 : decode cX6_wordNow 61 = .ok (.iconst 1, 1) := by decide +kernel
theorem dX6_wordNow_62 : decode cX6_wordNow 62 = .ok (.iadd, 1) := by decide +kernel
theorem dX6_wordNow_63 : decode cX6_wordNow 63 = .ok (.iaload, 1) := by decide +kernel
theorem dX6_wordNow_64 : decode cX6_wordNow 64 = .ok (.if_icmp .ge 45, 3) := by decide +kernel
theorem dX6_wordNow_67 : decode cX6_wordNow 67 = .ok (.iload_n 2, 1) := by decide +kernel
theorem dX6_wordNow_68 : decode cX6_wordNow 68 = .ok (.ifCond .eq 41, 3) := by decide +kernel
theorem dX6_wordNow_71 : decode cX6_wordNow 71 = .ok (.aload_n 0, 1) := by decide +kernel
theorem dX6_wordNow_72 : decode cX6_wordNow 72 = .ok (.aload_n 0, 1) := by decide +kernel
theorem dX6_wordNow_73 : decode cX6_wordNow 73 = .ok (.getfield 51, 3) := by decide +kernel
theorem dX6_wordNow_76 : decode cX6_wordNow 76 = .ok (.iload_n 3, 1) := by decide +kernel
theorem dX6_wordNow_77 : decode cX6_wordNow 77 = .ok (.iadd, 1) := by decide +kernel
theorem dX6_wordNow_78 : decode cX6_wordNow 78 = .ok (.aload_n 0, 1) := by decide +kernel
theorem dX6_wordNow_79 : decode cX6_wordNow 79 = .ok (.getfield 26, 3) := by decide +kernel
theorem dX6_wordNow_82 : decode cX6_wordNow 82 = .ok (.iload_n 1, 1) := by decide +kernel
theorem dX6_wordNow_83 : decode cX6_wordNow 83 = .ok (.iaload, 1) := by decide +kernel
theorem dX6_wordNow_84 : decode cX6_wordNow 84 = .ok (.isub, 1) := by decide +kernel
theorem dX6_wordNow_85 : decode cX6_wordNow 85 = .ok (.invokevirtual 60, 3) := by decide +kernel
theorem dX6_wordNow_88 : decode cX6_wordNow 88 = .ok (.aload_n 0, 1) := by decide +kernel
theorem dX6_wordNow_89 : decode cX6_wordNow 89 = .ok (.getfield 29, 3) := by decide +kernel
theorem dX6_wordNow_92 : decode cX6_wordNow 92 = .ok (.iload_n 3, 1) := by decide +kernel
theorem dX6_wordNow_93 : decode cX6_wordNow 93 = .ok (.iaload, 1) := by decide +kernel
theorem dX6_wordNow_94 : decode cX6_wordNow 94 = .ok (.if_icmp .ne 7, 3) := by decide +kernel
theorem dX6_wordNow_97 : decode cX6_wordNow 97 = .ok (.iconst 1, 1) := by decide +kernel
theorem dX6_wordNow_98 : decode cX6_wordNow 98 = .ok (.goto 4, 3) := by decide +kernel
theorem dX6_wordNow_101 : decode cX6_wordNow 101 = .ok (.iconst 0, 1) := by decide +kernel
theorem dX6_wordNow_102 : decode cX6_wordNow 102 = .ok (.istore_n 2, 1) := by decide +kernel
theorem dX6_wordNow_103 : decode cX6_wordNow 103 = .ok (.iinc 3 1, 3) := by decide +kernel
theorem dX6_wordNow_106 : decode cX6_wordNow 106 = .ok (.goto (-51), 3) := by decide +kernel
theorem dX6_wordNow_109 : decode cX6_wordNow 109 = .ok (.iload_n 2, 1) := by decide +kernel
theorem dX6_wordNow_110 : decode cX6_wordNow 110 = .ok (.ifCond .eq 5, 3) := by decide +kernel
theorem dX6_wordNow_113 : decode cX6_wordNow 113 = .ok (.iload_n 1, 1) := by decide +kernel
theorem dX6_wordNow_114 : decode cX6_wordNow 114 = .ok (.ireturn, 1) := by decide +kernel
theorem dX6_wordNow_115 : decode cX6_wordNow 115 = .ok (.iinc 1 1, 3) := by decide +kernel
theorem dX6_wordNow_118 : decode cX6_wordNow 118 = .ok (.goto (-116), 3) := by decide +kernel
theorem dX6_wordNow_121 : decode cX6_wordNow 121 = .ok (.bipush (-4), 2) := by decide +kernel
theorem dX6_wordNow_123 : decode cX6_wordNow 123 = .ok (.ireturn, 1) := by decide +kernel
theorem dX6_number_0 : decode cX6_number 0 = .ok (.aload_n 0, 1) := by decide +kernel
theorem dX6_number_1 : decode cX6_number 1 = .ok (.aload_n 0, 1) := by decide +kernel
theorem dX6_number_2 : decode cX6_number 2 = .ok (.getfield 67, 3) := by decide +kernel
theorem dX6_number_5 : decode cX6_number 5 = .ok (.iconst 2, 1) := by decide +kernel
theorem dX6_number_6 : decode cX6_number 6 = .ok (.if_icmp .ne 7, 3) := by decide +kernel
theorem dX6_number_9 : decode cX6_number 9 = .ok (.iconst 1, 1) := by decide +kernel
theorem dX6_number_10 : decode cX6_number 10 = .ok (.goto 4, 3) := by decide +kernel
theorem dX6_number_13 : decode cX6_number 13 = .ok (.iconst 0, 1) := by decide +kernel
theorem dX6_number_14 : decode cX6_number 14 = .ok (.iconst 2, 1) := by decide +kernel
theorem dX6_number_15 : decode cX6_number 15 = .ok (.invokevirtual 78, 3) := by decide +kernel
theorem dX6_number_18 : decode cX6_number 18 = .ok (.aload_n 0, 1) := by decide +kernel
theorem dX6_number_19 : decode cX6_number 19 = .ok (.aload_n 0, 1) := by decide +kernel
theorem dX6_number_20 : decode cX6_number 20 = .ok (.getfield 48, 3) := by decide +kernel
theorem dX6_number_23 : decode cX6_number 23 = .ok (.ifCond .gt 18, 3) := by decide +kernel
theorem dX6_number_26 : decode cX6_number 26 = .ok (.aload_n 0, 1) := by decide +kernel
theorem dX6_number_27 : decode cX6_number 27 = .ok (.getfield 64, 3) := by decide +kernel
theorem dX6_number_30 : decode cX6_number 30 = .ok (.i2l, 1) := by decide +kernel
theorem dX6_number_31 : decode cX6_number 31 = .ok (.iload_n 1, 1) := by decide +kernel
theorem dX6_number_32 : decode cX6_number 32 = .ok (.i2l, 1) := by decide +kernel
theorem dX6_number_33 : decode cX6_number 33 = .ok (.iload_n 2, 1) := by decide +kernel
theorem dX6_number_34 : decode cX6_number 34 = .ok (.i2l, 1) := by decide +kernel
theorem dX6_number_35 : decode cX6_number 35 = .ok (.invokestatic 40, 3) := by decide +kernel
theorem dX6_number_38 : decode cX6_number 38 = .ok (.ifCond .eq 7, 3) := by decide +kernel
theorem dX6_number_41 : decode cX6_number 41 = .ok (.iconst 1, 1) := by decide +kernel
theorem dX6_number_42 : decode cX6_number 42 = .ok (.goto 4, 3) := by decide +kernel
theorem dX6_number_45 : decode cX6_number 45 = .ok (.iconst 0, 1) := by decide +kernel
theorem dX6_number_46 : decode cX6_number 46 = .ok (.iconst 3, 1) := by decide +kernel
theorem dX6_number_47 : decode cX6_number 47 = .ok (.invokevirtual 78, 3) := by decide +kernel
theorem dX6_number_50 : decode cX6_number 50 = .ok (.aload_n 0, 1) := by decide +kernel
theorem dX6_number_51 : decode cX6_number 51 = .ok (.getfield 48, 3) := by decide +kernel
theorem dX6_number_54 : decode cX6_number 54 = .ok (.ifCond .le 7, 3) := by decide +kernel
theorem dX6_number_57 : decode cX6_number 57 = .ok (.iconst 0, 1) := by decide +kernel
theorem dX6_number_58 : decode cX6_number 58 = .ok (.goto 7, 3) := by decide +kernel
theorem dX6_number_61 : decode cX6_number 61 = .ok (.aload_n 0, 1) := by decide +kernel
theorem dX6_number_62 : decode cX6_number 62 = .ok (.getfield 64, 3) := by decide +kernel
theorem dX6_number_65 : decode cX6_number 65 = .ok (.istore_n 3, 1) := by decide +kernel
theorem dX6_number_66 : decode cX6_number 66 = .ok (.aload_n 0, 1) := by decide +kernel
theorem dX6_number_67 : decode cX6_number 67 = .ok (.invokevirtual 82, 3) := by decide +kernel
theorem dX6_number_70 : decode cX6_number 70 = .ok (.iload_n 3, 1) := by decide +kernel
theorem dX6_number_71 : decode cX6_number 71 = .ok (.ireturn, 1) := by decide +kernel
theorem dX6_readsNode_0 : decode cX6_readsNode 0 = .ok (.aload_n 0, 1) := by decide +kernel
theorem dX6_readsNode_1 : decode cX6_readsNode 1 = .ok (.aload_n 0, 1) := by decide +kernel
theorem dX6_readsNode_2 : decode cX6_readsNode 2 = .ok (.getfield 67, 3) := by decide +kernel
theorem dX6_readsNode_5 : decode cX6_readsNode 5 = .ok (.iconst 2, 1) := by decide +kernel
theorem dX6_readsNode_6 : decode cX6_readsNode 6 = .ok (.if_icmp .ne 7, 3) := by decide +kernel
theorem dX6_readsNode_9 : decode cX6_readsNode 9 = .ok (.iconst 1, 1) := by decide +kernel
theorem dX6_readsNode_10 : decode cX6_readsNode 10 = .ok (.goto 4, 3) := by decide +kernel
theorem dX6_readsNode_13 : decode cX6_readsNode 13 = .ok (.iconst 0, 1) := by decide +kernel
theorem dX6_readsNode_14 : decode cX6_readsNode 14 = .ok (.iconst 2, 1) := by decide +kernel
theorem dX6_readsNode_15 : decode cX6_readsNode 15 = .ok (.invokevirtual 78, 3) := by decide +kernel
theorem dX6_readsNode_18 : decode cX6_readsNode 18 = .ok (.aload_n 0, 1) := by decide +kernel
theorem dX6_readsNode_19 : decode cX6_readsNode 19 = .ok (.aload_n 0, 1) := by decide +kernel
theorem dX6_readsNode_20 : decode cX6_readsNode 20 = .ok (.getfield 48, 3) := by decide +kernel
theorem dX6_readsNode_23 : decode cX6_readsNode 23 = .ok (.ifCond .gt 18, 3) := by decide +kernel
theorem dX6_readsNode_26 : decode cX6_readsNode 26 = .ok (.aload_n 0, 1) := by decide +kernel
theorem dX6_readsNode_27 : decode cX6_readsNode 27 = .ok (.getfield 64, 3) := by decide +kernel
theorem dX6_readsNode_30 : decode cX6_readsNode 30 = .ok (.i2l, 1) := by decide +kernel
theorem dX6_readsNode_31 : decode cX6_readsNode 31 = .ok (.lconst 0, 1) := by decide +kernel
theorem dX6_readsNode_32 : decode cX6_readsNode 32 = .ok (.ldc2_w 85, 3) := by decide +kernel
theorem dX6_readsNode_35 : decode cX6_readsNode 35 = .ok (.invokestatic 40, 3) := by decide +kernel
theorem dX6_readsNode_38 : decode cX6_readsNode 38 = .ok (.ifCond .eq 7, 3) := by decide +kernel
theorem dX6_readsNode_41 : decode cX6_readsNode 41 = .ok (.iconst 1, 1) := by decide +kernel
theorem dX6_readsNode_42 : decode cX6_readsNode 42 = .ok (.goto 4, 3) := by decide +kernel
theorem dX6_readsNode_45 : decode cX6_readsNode 45 = .ok (.iconst 0, 1) := by decide +kernel
theorem dX6_readsNode_46 : decode cX6_readsNode 46 = .ok (.iconst 3, 1) := by decide +kernel
theorem dX6_readsNode_47 : decode cX6_readsNode 47 = .ok (.invokevirtual 78, 3) := by decide +kernel
theorem dX6_readsNode_50 : decode cX6_readsNode 50 = .ok (.aload_n 0, 1) := by decide +kernel
theorem dX6_readsNode_51 : decode cX6_readsNode 51 = .ok (.aload_n 0, 1) := by decide +kernel
theorem dX6_readsNode_52 : decode cX6_readsNode 52 = .ok (.getfield 48, 3) := by decide +kernel
theorem dX6_readsNode_55 : decode cX6_readsNode 55 = .ok (.ifCond .gt 11, 3) := by decide +kernel
theorem dX6_readsNode_58 : decode cX6_readsNode 58 = .ok (.aload_n 0, 1) := by decide +kernel
theorem dX6_readsNode_59 : decode cX6_readsNode 59 = .ok (.getfield 64, 3) := by decide +kernel
theorem dX6_readsNode_62 : decode cX6_readsNode 62 = .ok (.iload_n 1, 1) := by decide +kernel
theorem dX6_readsNode_63 : decode cX6_readsNode 63 = .ok (.if_icmp .eq 7, 3) := by decide +kernel
theorem dX6_readsNode_66 : decode cX6_readsNode 66 = .ok (.iconst 1, 1) := by decide +kernel
theorem dX6_readsNode_67 : decode cX6_readsNode 67 = .ok (.goto 4, 3) := by decide +kernel
theorem dX6_readsNode_70 : decode cX6_readsNode 70 = .ok (.iconst 0, 1) := by decide +kernel
theorem dX6_readsNode_71 : decode cX6_readsNode 71 = .ok (.iconst 5, 1) := by decide +kernel
theorem dX6_readsNode_72 : decode cX6_readsNode 72 = .ok (.invokevirtual 78, 3) := by decide +kernel
theorem dX6_readsNode_75 : decode cX6_readsNode 75 = .ok (.aload_n 0, 1) := by decide +kernel
theorem dX6_readsNode_76 : decode cX6_readsNode 76 = .ok (.getfield 48, 3) := by decide +kernel
theorem dX6_readsNode_79 : decode cX6_readsNode 79 = .ok (.ifCond .le 7, 3) := by decide +kernel
theorem dX6_readsNode_82 : decode cX6_readsNode 82 = .ok (.iconst 0, 1) := by decide +kernel
theorem dX6_readsNode_83 : decode cX6_readsNode 83 = .ok (.goto 7, 3) := by decide +kernel
theorem dX6_readsNode_86 : decode cX6_readsNode 86 = .ok (.aload_n 0, 1) := by decide +kernel
theorem dX6_readsNode_87 : decode cX6_readsNode 87 = .ok (.getfield 64, 3) := by decide +kernel
theorem dX6_readsNode_90 : decode cX6_readsNode 90 = .ok (.istore_n 2, 1) := by decide +kernel
theorem dX6_readsNode_91 : decode cX6_readsNode 91 = .ok (.aload_n 0, 1) := by decide +kernel
theorem dX6_readsNode_92 : decode cX6_readsNode 92 = .ok (.iload_n 2, 1) := by decide +kernel
theorem dX6_readsNode_93 : decode cX6_readsNode 93 = .ok (.iconst 1, 1) := by decide +kernel
theorem dX6_readsNode_94 : decode cX6_readsNode 94 = .ok (.iadd, 1) := by decide +kernel
theorem dX6_readsNode_95 : decode cX6_readsNode 95 = .ok (.aload_n 0, 1) := by decide +kernel
theorem dX6_readsNode_96 : decode cX6_readsNode 96 = .ok (.getfield 87, 3) := by decide +kernel
theorem dX6_readsNode_99 : decode cX6_readsNode 99 = .ok (.if_icmp .le 9, 3) := by decide +kernel
theorem dX6_readsNode_102 : decode cX6_readsNode 102 = .ok (.iload_n 2, 1) := by decide +kernel
theorem dX6_readsNode_103 : decode cX6_readsNode 103 = .ok (.iconst 1, 1) := by decide +kernel
theorem dX6_readsNode_104 : decode cX6_readsNode 104 = .ok (.iadd, 1) := by decide +kernel
theorem dX6_readsNode_105 : decode cX6_readsNode 105 = .ok (.goto 7, 3) := by decide +kernel
theorem dX6_readsNode_108 : decode cX6_readsNode 108 = .ok (.aload_n 0, 1) := by decide +kernel
theorem dX6_readsNode_109 : decode cX6_readsNode 109 = .ok (.getfield 87, 3) := by decide +kernel
theorem dX6_readsNode_112 : decode cX6_readsNode 112 = .ok (.putfield 87, 3) := by decide +kernel
theorem dX6_readsNode_115 : decode cX6_readsNode 115 = .ok (.aload_n 0, 1) := by decide +kernel
theorem dX6_readsNode_116 : decode cX6_readsNode 116 = .ok (.invokevirtual 82, 3) := by decide +kernel
theorem dX6_readsNode_119 : decode cX6_readsNode 119 = .ok (.iload_n 2, 1) := by decide +kernel
theorem dX6_readsNode_120 : decode cX6_readsNode 120 = .ok (.ireturn, 1) := by decide +kernel
theorem dX6_readsMeeting_0 : decode cX6_readsMeeting 0 = .ok (.bipush 31, 2) := by decide +kernel
theorem dX6_readsMeeting_2 : decode cX6_readsMeeting 2 = .ok (.iconst 4, 1) := by decide +kernel
theorem dX6_readsMeeting_3 : decode cX6_readsMeeting 3 = .ok (.aload_n 0, 1) := by decide +kernel
theorem dX6_readsMeeting_4 : decode cX6_readsMeeting 4 = .ok (.getfield 13, 3) := by decide +kernel
theorem dX6_readsMeeting_7 : decode cX6_readsMeeting 7 = .ok (.iconst 1, 1) := by decide +kernel
theorem dX6_readsMeeting_8 : decode cX6_readsMeeting 8 = .ok (.iaload, 1) := by decide +kernel
theorem dX6_readsMeeting_9 : decode cX6_readsMeeting 9 = .ok (.imul, 1) := by decide +kernel
theorem dX6_readsMeeting_10 : decode cX6_readsMeeting 10 = .ok (.iadd, 1) := by decide +kernel
theorem dX6_readsMeeting_11 : decode cX6_readsMeeting 11 = .ok (.istore_n 1, 1) := by decide +kernel
theorem dX6_readsMeeting_12 : decode cX6_readsMeeting 12 = .ok (.aload_n 0, 1) := by decide +kernel
theorem dX6_readsMeeting_13 : decode cX6_readsMeeting 13 = .ok (.getfield 13, 3) := by decide +kernel
theorem dX6_readsMeeting_16 : decode cX6_readsMeeting 16 = .ok (.iload_n 1, 1) := by decide +kernel
theorem dX6_readsMeeting_17 : decode cX6_readsMeeting 17 = .ok (.aload_n 0, 1) := by decide +kernel
theorem dX6_readsMeeting_18 : decode cX6_readsMeeting 18 = .ok (.iconst 1, 1) := by decide +kernel
theorem dX6_readsMeeting_19 : decode cX6_readsMeeting 19 = .ok (.bipush 99, 2) := by decide +kernel
theorem dX6_readsMeeting_21 : decode cX6_readsMeeting 21 = .ok (.invokevirtual 90, 3) := by decide +kernel
theorem dX6_readsMeeting_24 : decode cX6_readsMeeting 24 = .ok (.iastore, 1) := by decide +kernel
theorem dX6_readsMeeting_25 : decode cX6_readsMeeting 25 = .ok (.aload_n 0, 1) := by decide +kernel
theorem dX6_readsMeeting_26 : decode cX6_readsMeeting 26 = .ok (.getfield 13, 3) := by decide +kernel
theorem dX6_readsMeeting_29 : decode cX6_readsMeeting 29 = .ok (.iload_n 1, 1) := by decide +kernel
theorem dX6_readsMeeting_30 : decode cX6_readsMeeting 30 = .ok (.iconst 1, 1) := by decide +kernel
theorem dX6_readsMeeting_31 : decode cX6_readsMeeting 31 = .ok (.iadd, 1) := by decide +kernel
theorem dX6_readsMeeting_32 : decode cX6_readsMeeting 32 = .ok (.aload_n 0, 1) := by decide +kernel
theorem dX6_readsMeeting_33 : decode cX6_readsMeeting 33 = .ok (.bipush (-4), 2) := by decide +kernel
theorem dX6_readsMeeting_35 : decode cX6_readsMeeting 35 = .ok (.invokevirtual 94, 3) := by decide +kernel
theorem dX6_readsMeeting_38 : decode cX6_readsMeeting 38 = .ok (.iastore, 1) := by decide +kernel
theorem dX6_readsMeeting_39 : decode cX6_readsMeeting 39 = .ok (.aload_n 0, 1) := by decide +kernel
theorem dX6_readsMeeting_40 : decode cX6_readsMeeting 40 = .ok (.getfield 13, 3) := by decide +kernel
theorem dX6_readsMeeting_43 : decode cX6_readsMeeting 43 = .ok (.iload_n 1, 1) := by decide +kernel
theorem dX6_readsMeeting_44 : decode cX6_readsMeeting 44 = .ok (.iconst 2, 1) := by decide +kernel
theorem dX6_readsMeeting_45 : decode cX6_readsMeeting 45 = .ok (.iadd, 1) := by decide +kernel
theorem dX6_readsMeeting_46 : decode cX6_readsMeeting 46 = .ok (.aload_n 0, 1) := by decide +kernel
theorem dX6_readsMeeting_47 : decode cX6_readsMeeting 47 = .ok (.aload_n 0, 1) := by decide +kernel
theorem dX6_readsMeeting_48 : decode cX6_readsMeeting 48 = .ok (.getfield 13, 3) := by decide +kernel
theorem dX6_readsMeeting_51 : decode cX6_readsMeeting 51 = .ok (.iload_n 1, 1) := by decide +kernel
theorem dX6_readsMeeting_52 : decode cX6_readsMeeting 52 = .ok (.iconst 1, 1) := by decide +kernel
theorem dX6_readsMeeting_53 : decode cX6_readsMeeting 53 = .ok (.iadd, 1) := by decide +kernel
theorem dX6_readsMeeting_54 : decode cX6_readsMeeting 54 = .ok (.iaload, 1) := by decide +kernel
theorem dX6_readsMeeting_55 : decode cX6_readsMeeting 55 = .ok (.invokevirtual 94, 3) := by decide +kernel
theorem dX6_readsMeeting_58 : decode cX6_readsMeeting 58 = .ok (.iastore, 1) := by decide +kernel
theorem dX6_readsMeeting_59 : decode cX6_readsMeeting 59 = .ok (.aload_n 0, 1) := by decide +kernel
theorem dX6_readsMeeting_60 : decode cX6_readsMeeting 60 = .ok (.getfield 13, 3) := by decide +kernel
theorem dX6_readsMeeting_63 : decode cX6_readsMeeting 63 = .ok (.iload_n 1, 1) := by decide +kernel
theorem dX6_readsMeeting_64 : decode cX6_readsMeeting 64 = .ok (.iconst 3, 1) := by decide +kernel
theorem dX6_readsMeeting_65 : decode cX6_readsMeeting 65 = .ok (.iadd, 1) := by decide +kernel
theorem dX6_readsMeeting_66 : decode cX6_readsMeeting 66 = .ok (.aload_n 0, 1) := by decide +kernel
theorem dX6_readsMeeting_67 : decode cX6_readsMeeting 67 = .ok (.iconst 0, 1) := by decide +kernel
theorem dX6_readsMeeting_68 : decode cX6_readsMeeting 68 = .ok (.bipush 99, 2) := by decide +kernel
theorem dX6_readsMeeting_70 : decode cX6_readsMeeting 70 = .ok (.invokevirtual 90, 3) := by decide +kernel
theorem dX6_readsMeeting_73 : decode cX6_readsMeeting 73 = .ok (.iastore, 1) := by decide +kernel
theorem dX6_readsMeeting_74 : decode cX6_readsMeeting 74 = .ok (.aload_n 0, 1) := by decide +kernel
theorem dX6_readsMeeting_75 : decode cX6_readsMeeting 75 = .ok (.getfield 13, 3) := by decide +kernel
theorem dX6_readsMeeting_78 : decode cX6_readsMeeting 78 = .ok (.iconst 1, 1) := by decide +kernel
theorem dX6_readsMeeting_79 : decode cX6_readsMeeting 79 = .ok (.dup2, 1) := by decide +kernel
theorem dX6_readsMeeting_80 : decode cX6_readsMeeting 80 = .ok (.iaload, 1) := by decide +kernel
theorem dX6_readsMeeting_81 : decode cX6_readsMeeting 81 = .ok (.iconst 1, 1) := by decide +kernel
theorem dX6_readsMeeting_82 : decode cX6_readsMeeting 82 = .ok (.iadd, 1) := by decide +kernel
theorem dX6_readsMeeting_83 : decode cX6_readsMeeting 83 = .ok (.iastore, 1) := by decide +kernel
theorem dX6_readsMeeting_84 : decode cX6_readsMeeting 84 = .ok (.return_, 1) := by decide +kernel
theorem dX6_readsLetter_0 : decode cX6_readsLetter 0 = .ok (.bipush 127, 2) := by decide +kernel
theorem dX6_readsLetter_2 : decode cX6_readsLetter 2 = .ok (.bipush 8, 2) := by decide +kernel
theorem dX6_readsLetter_4 : decode cX6_readsLetter 4 = .ok (.aload_n 0, 1) := by decide +kernel
theorem dX6_readsLetter_5 : decode cX6_readsLetter 5 = .ok (.getfield 13, 3) := by decide +kernel
theorem dX6_readsLetter_8 : decode cX6_readsLetter 8 = .ok (.iconst 2, 1) := by decide +kernel
theorem dX6_readsLetter_9 : decode cX6_readsLetter 9 = .ok (.iaload, 1) := by decide +kernel
theorem dX6_readsLetter_10 : decode cX6_readsLetter 10 = .ok (.imul, 1) := by decide +kernel
theorem dX6_readsLetter_11 : decode cX6_readsLetter 11 = .ok (.iadd, 1) := by decide +kernel
theorem dX6_readsLetter_12 : decode cX6_readsLetter 12 = .ok (.istore_n 1, 1) := by decide +kernel
theorem dX6_readsLetter_13 : decode cX6_readsLetter 13 = .ok (.aload_n 0, 1) := by decide +kernel
theorem dX6_readsLetter_14 : decode cX6_readsLetter 14 = .ok (.getfield 13, 3) := by decide +kernel
theorem dX6_readsLetter_17 : decode cX6_readsLetter 17 = .ok (.iload_n 1, 1) := by decide +kernel
theorem dX6_readsLetter_18 : decode cX6_readsLetter 18 = .ok (.iconst 0, 1) := by decide +kernel
theorem dX6_readsLetter_19 : decode cX6_readsLetter 19 = .ok (.iadd, 1) := by decide +kernel
theorem dX6_readsLetter_20 : decode cX6_readsLetter 20 = .ok (.aload_n 0, 1) := by decide +kernel
theorem dX6_readsLetter_21 : decode cX6_readsLetter 21 = .ok (.iconst 1, 1) := by decide +kernel
theorem dX6_readsLetter_22 : decode cX6_readsLetter 22 = .ok (.bipush 99, 2) := by decide +kernel
theorem dX6_readsLetter_24 : decode cX6_readsLetter 24 = .ok (.invokevirtual 90, 3) := by decide +kernel
theorem dX6_readsLetter_27 : decode cX6_readsLetter 27 = .ok (.iastore, 1) := by decide +kernel
theorem dX6_readsLetter_28 : decode cX6_readsLetter 28 = .ok (.aload_n 0, 1) := by decide +kernel
theorem dX6_readsLetter_29 : decode cX6_readsLetter 29 = .ok (.getfield 13, 3) := by decide +kernel
theorem dX6_readsLetter_32 : decode cX6_readsLetter 32 = .ok (.iload_n 1, 1) := by decide +kernel
theorem dX6_readsLetter_33 : decode cX6_readsLetter 33 = .ok (.iconst 1, 1) := by decide +kernel
theorem dX6_readsLetter_34 : decode cX6_readsLetter 34 = .ok (.iadd, 1) := by decide +kernel
theorem dX6_readsLetter_35 : decode cX6_readsLetter 35 = .ok (.aload_n 0, 1) := by decide +kernel
theorem dX6_readsLetter_36 : decode cX6_readsLetter 36 = .ok (.bipush (-4), 2) := by decide +kernel
theorem dX6_readsLetter_38 : decode cX6_readsLetter 38 = .ok (.invokevirtual 94, 3) := by decide +kernel
theorem dX6_readsLetter_41 : decode cX6_readsLetter 41 = .ok (.iastore, 1) := by decide +kernel
theorem dX6_readsLetter_42 : decode cX6_readsLetter 42 = .ok (.aload_n 0, 1) := by decide +kernel
theorem dX6_readsLetter_43 : decode cX6_readsLetter 43 = .ok (.getfield 13, 3) := by decide +kernel
theorem dX6_readsLetter_46 : decode cX6_readsLetter 46 = .ok (.iload_n 1, 1) := by decide +kernel
theorem dX6_readsLetter_47 : decode cX6_readsLetter 47 = .ok (.iconst 2, 1) := by decide +kernel
theorem dX6_readsLetter_48 : decode cX6_readsLetter 48 = .ok (.iadd, 1) := by decide +kernel
theorem dX6_readsLetter_49 : decode cX6_readsLetter 49 = .ok (.aload_n 0, 1) := by decide +kernel
theorem dX6_readsLetter_50 : decode cX6_readsLetter 50 = .ok (.aload_n 0, 1) := by decide +kernel
theorem dX6_readsLetter_51 : decode cX6_readsLetter 51 = .ok (.getfield 13, 3) := by decide +kernel
theorem dX6_readsLetter_54 : decode cX6_readsLetter 54 = .ok (.iload_n 1, 1) := by decide +kernel
theorem dX6_readsLetter_55 : decode cX6_readsLetter 55 = .ok (.iconst 1, 1) := by decide +kernel
theorem dX6_readsLetter_56 : decode cX6_readsLetter 56 = .ok (.iadd, 1) := by decide +kernel
theorem dX6_readsLetter_57 : decode cX6_readsLetter 57 = .ok (.iaload, 1) := by decide +kernel
theorem dX6_readsLetter_58 : decode cX6_readsLetter 58 = .ok (.invokevirtual 94, 3) := by decide +kernel
theorem dX6_readsLetter_61 : decode cX6_readsLetter 61 = .ok (.iastore, 1) := by decide +kernel
theorem dX6_readsLetter_62 : decode cX6_readsLetter 62 = .ok (.aload_n 0, 1) := by decide +kernel
theorem dX6_readsLetter_63 : decode cX6_readsLetter 63 = .ok (.getfield 13, 3) := by decide +kernel
theorem dX6_readsLetter_66 : decode cX6_readsLetter 66 = .ok (.iload_n 1, 1) := by decide +kernel
theorem dX6_readsLetter_67 : decode cX6_readsLetter 67 = .ok (.iconst 3, 1) := by decide +kernel
theorem dX6_readsLetter_68 : decode cX6_readsLetter 68 = .ok (.iadd, 1) := by decide +kernel
theorem dX6_readsLetter_69 : decode cX6_readsLetter 69 = .ok (.aload_n 0, 1) := by decide +kernel
theorem dX6_readsLetter_70 : decode cX6_readsLetter 70 = .ok (.iconst 1, 1) := by decide +kernel
theorem dX6_readsLetter_71 : decode cX6_readsLetter 71 = .ok (.bipush 99, 2) := by decide +kernel
theorem dX6_readsLetter_73 : decode cX6_readsLetter 73 = .ok (.invokevirtual 90, 3) := by decide +kernel
theorem dX6_readsLetter_76 : decode cX6_readsLetter 76 = .ok (.iastore, 1) := by decide +kernel
theorem dX6_readsLetter_77 : decode cX6_readsLetter 77 = .ok (.aload_n 0, 1) := by decide +kernel
theorem dX6_readsLetter_78 : decode cX6_readsLetter 78 = .ok (.getfield 13, 3) := by decide +kernel
theorem dX6_readsLetter_81 : decode cX6_readsLetter 81 = .ok (.iload_n 1, 1) := by decide +kernel
theorem dX6_readsLetter_82 : decode cX6_readsLetter 82 = .ok (.iconst 4, 1) := by decide +kernel
theorem dX6_readsLetter_83 : decode cX6_readsLetter 83 = .ok (.iadd, 1) := by decide +kernel
theorem dX6_readsLetter_84 : decode cX6_readsLetter 84 = .ok (.aload_n 0, 1) := by decide +kernel
theorem dX6_readsLetter_85 : decode cX6_readsLetter 85 = .ok (.iconst 1, 1) := by decide +kernel
theorem dX6_readsLetter_86 : decode cX6_readsLetter 86 = .ok (.bipush 64, 2) := by decide +kernel
theorem dX6_readsLetter_88 : decode cX6_readsLetter 88 = .ok (.invokevirtual 90, 3) := by decide +kernel
theorem dX6_readsLetter_91 : decode cX6_readsLetter 91 = .ok (.iastore, 1) := by decide +kernel
theorem dX6_readsLetter_92 : decode cX6_readsLetter 92 = .ok (.aload_n 0, 1) := by decide +kernel
theorem dX6_readsLetter_93 : decode cX6_readsLetter 93 = .ok (.getfield 13, 3) := by decide +kernel
theorem dX6_readsLetter_96 : decode cX6_readsLetter 96 = .ok (.iload_n 1, 1) := by decide +kernel
theorem dX6_readsLetter_97 : decode cX6_readsLetter 97 = .ok (.iconst 5, 1) := by decide +kernel
theorem dX6_readsLetter_98 : decode cX6_readsLetter 98 = .ok (.iadd, 1) := by decide +kernel
theorem dX6_readsLetter_99 : decode cX6_readsLetter 99 = .ok (.aload_n 0, 1) := by decide +kernel
theorem dX6_readsLetter_100 : decode cX6_readsLetter 100 = .ok (.iconst 1, 1) := by decide +kernel
theorem dX6_readsLetter_101 : decode cX6_readsLetter 101 = .ok (.bipush 99, 2) := by decide +kernel
theorem dX6_readsLetter_103 : decode cX6_readsLetter 103 = .ok (.invokevirtual 90, 3) := by decide +kernel
theorem dX6_readsLetter_106 : decode cX6_readsLetter 106 = .ok (.iastore, 1) := by decide +kernel
theorem dX6_readsLetter_107 : decode cX6_readsLetter 107 = .ok (.aload_n 0, 1) := by decide +kernel
theorem dX6_readsLetter_108 : decode cX6_readsLetter 108 = .ok (.getfield 13, 3) := by decide +kernel
theorem dX6_readsLetter_111 : decode cX6_readsLetter 111 = .ok (.iload_n 1, 1) := by decide +kernel
theorem dX6_readsLetter_112 : decode cX6_readsLetter 112 = .ok (.bipush 6, 2) := by decide +kernel
theorem dX6_readsLetter_114 : decode cX6_readsLetter 114 = .ok (.iadd, 1) := by decide +kernel
theorem dX6_readsLetter_115 : decode cX6_readsLetter 115 = .ok (.bipush (-4), 2) := by decide +kernel
theorem dX6_readsLetter_117 : decode cX6_readsLetter 117 = .ok (.iastore, 1) := by decide +kernel
theorem dX6_readsLetter_118 : decode cX6_readsLetter 118 = .ok (.aload_n 0, 1) := by decide +kernel
theorem dX6_readsLetter_119 : decode cX6_readsLetter 119 = .ok (.getfield 13, 3) := by decide +kernel
theorem dX6_readsLetter_122 : decode cX6_readsLetter 122 = .ok (.iload_n 1, 1) := by decide +kernel
theorem dX6_readsLetter_123 : decode cX6_readsLetter 123 = .ok (.bipush 7, 2) := by decide +kernel
theorem dX6_readsLetter_125 : decode cX6_readsLetter 125 = .ok (.iadd, 1) := by decide +kernel
theorem dX6_readsLetter_126 : decode cX6_readsLetter 126 = .ok (.bipush (-4), 2) := by decide +kernel
theorem dX6_readsLetter_128 : decode cX6_readsLetter 128 = .ok (.iastore, 1) := by decide +kernel
theorem dX6_readsLetter_129 : decode cX6_readsLetter 129 = .ok (.aload_n 0, 1) := by decide +kernel
theorem dX6_readsLetter_130 : decode cX6_readsLetter 130 = .ok (.getfield 13, 3) := by decide +kernel
theorem dX6_readsLetter_133 : decode cX6_readsLetter 133 = .ok (.iconst 2, 1) := by decide +kernel
theorem dX6_readsLetter_134 : decode cX6_readsLetter 134 = .ok (.dup2, 1) := by decide +kernel
theorem dX6_readsLetter_135 : decode cX6_readsLetter 135 = .ok (.iaload, 1) := by decide +kernel
theorem dX6_readsLetter_136 : decode cX6_readsLetter 136 = .ok (.iconst 1, 1) := by decide +kernel
theorem dX6_readsLetter_137 : decode cX6_readsLetter 137 = .ok (.iadd, 1) := by decide +kernel
theorem dX6_readsLetter_138 : decode cX6_readsLetter 138 = .ok (.iastore, 1) := by decide +kernel
theorem dX6_readsLetter_139 : decode cX6_readsLetter 139 = .ok (.return_, 1) := by decide +kernel
theorem dX6_readsLine_0 : decode cX6_readsLine 0 = .ok (.aload_n 0, 1) := by decide +kernel
theorem dX6_readsLine_1 : decode cX6_readsLine 1 = .ok (.invokevirtual 97, 3) := by decide +kernel
theorem dX6_readsLine_4 : decode cX6_readsLine 4 = .ok (.istore_n 1, 1) := by decide +kernel
theorem dX6_readsLine_5 : decode cX6_readsLine 5 = .ok (.aload_n 0, 1) := by decide +kernel
theorem dX6_readsLine_6 : decode cX6_readsLine 6 = .ok (.iload_n 1, 1) := by decide +kernel
theorem dX6_readsLine_7 : decode cX6_readsLine 7 = .ok (.bipush (-4), 2) := by decide +kernel
theorem dX6_readsLine_9 : decode cX6_readsLine 9 = .ok (.if_icmp .eq 7, 3) := by decide +kernel
theorem dX6_readsLine_12 : decode cX6_readsLine 12 = .ok (.iconst 1, 1) := by decide +kernel
theorem dX6_readsLine_13 : decode cX6_readsLine 13 = .ok (.goto 4, 3) := by decide +kernel
theorem dX6_readsLine_16 : decode cX6_readsLine 16 = .ok (.iconst 0, 1) := by decide +kernel
theorem dX6_readsLine_17 : decode cX6_readsLine 17 = .ok (.iconst 2, 1) := by decide +kernel
theorem dX6_readsLine_18 : decode cX6_readsLine 18 = .ok (.invokevirtual 78, 3) := by decide +kernel
theorem dX6_readsLine_21 : decode cX6_readsLine 21 = .ok (.aload_n 0, 1) := by decide +kernel
theorem dX6_readsLine_22 : decode cX6_readsLine 22 = .ok (.aload_n 0, 1) := by decide +kernel
theorem dX6_readsLine_23 : decode cX6_readsLine 23 = .ok (.getfield 48, 3) := by decide +kernel
theorem dX6_readsLine_26 : decode cX6_readsLine 26 = .ok (.ifCond .gt 33, 3) := by decide +kernel
theorem dX6_readsLine_29 : decode cX6_readsLine 29 = .ok (.aload_n 0, 1) := by decide +kernel
theorem dX6_readsLine_30 : decode cX6_readsLine 30 = .ok (.getfield 13, 3) := by decide +kernel
theorem dX6_readsLine_33 : decode cX6_readsLine 33 = .ok (.iload_n 1, 1) := by decide +kernel
theorem dX6_readsLine_34 : decode cX6_readsLine 34 = .ok (.iaload, 1) := by decide +kernel
theorem dX6_readsLine_35 : decode cX6_readsLine 35 = .ok (.iload_n 1, 1) := by decide +kernel
theorem dX6_readsLine_36 : decode cX6_readsLine 36 = .ok (.ifCond .ne 8, 3) := by decide +kernel
theorem dX6_readsLine_39 : decode cX6_readsLine 39 = .ok (.bipush 8, 2) := by decide +kernel
theorem dX6_readsLine_41 : decode cX6_readsLine 41 = .ok (.goto 15, 3) := by decide +kernel
theorem dX6_readsLine_44 : decode cX6_readsLine 44 = .ok (.iload_n 1, 1) := by decide +kernel
theorem dX6_readsLine_45 : decode cX6_readsLine 45 = .ok (.iconst 1, 1) := by decide +kernel
theorem dX6_readsLine_46 : decode cX6_readsLine 46 = .ok (.if_icmp .ne 8, 3) := by decide +kernel
theorem dX6_readsLine_49 : decode cX6_readsLine 49 = .ok (.bipush 24, 2) := by decide +kernel
theorem dX6_readsLine_51 : decode cX6_readsLine 51 = .ok (.goto 5, 3) := by decide +kernel
theorem dX6_readsLine_54 : decode cX6_readsLine 54 = .ok (.bipush 16, 2) := by decide +kernel
theorem dX6_readsLine_56 : decode cX6_readsLine 56 = .ok (.if_icmp .ge 7, 3) := by decide +kernel
theorem dX6_readsLine_59 : decode cX6_readsLine 59 = .ok (.iconst 1, 1) := by decide +kernel
theorem dX6_readsLine_60 : decode cX6_readsLine 60 = .ok (.goto 4, 3) := by decide +kernel
theorem dX6_readsLine_63 : decode cX6_readsLine 63 = .ok (.iconst 0, 1) := by decide +kernel
theorem dX6_readsLine_64 : decode cX6_readsLine 64 = .ok (.iconst 4, 1) := by decide +kernel
theorem dX6_readsLine_65 : decode cX6_readsLine 65 = .ok (.invokevirtual 78, 3) := by decide +kernel
theorem dX6_readsLine_68 : decode cX6_readsLine 68 = .ok (.aload_n 0, 1) := by decide +kernel
theorem dX6_readsLine_69 : decode cX6_readsLine 69 = .ok (.invokevirtual 82, 3) := by decide +kernel
theorem dX6_readsLine_72 : decode cX6_readsLine 72 = .ok (.aload_n 0, 1) := by decide +kernel
theorem dX6_readsLine_73 : decode cX6_readsLine 73 = .ok (.getfield 48, 3) := by decide +kernel
theorem dX6_readsLine_76 : decode cX6_readsLine 76 = .ok (.ifCond .le 4, 3) := by decide +kernel
theorem dX6_readsLine_79 : decode cX6_readsLine 79 = .ok (.return_, 1) := by decide +kernel
theorem dX6_readsLine_80 : decode cX6_readsLine 80 = .ok (.iload_n 1, 1) := by decide +kernel
theorem dX6_readsLine_81 : decode cX6_readsLine 81 = .ok (.ifCond .ne 37, 3) := by decide +kernel
theorem dX6_readsLine_84 : decode cX6_readsLine 84 = .ok (.aload_n 0, 1) := by decide +kernel
theorem dX6_readsLine_85 : decode cX6_readsLine 85 = .ok (.getfield 13, 3) := by decide +kernel
theorem dX6_readsLine_88 : decode cX6_readsLine 88 = .ok (.bipush 23, 2) := by decide +kernel
theorem dX6_readsLine_90 : decode cX6_readsLine 90 = .ok (.aload_n 0, 1) := by decide +kernel
theorem dX6_readsLine_91 : decode cX6_readsLine 91 = .ok (.getfield 13, 3) := by decide +kernel
theorem dX6_readsLine_94 : decode cX6_readsLine 94 = .ok (.iconst 0, 1) := by decide +kernel
theorem dX6_readsLine_95 : decode cX6_readsLine 95 = .ok (.iaload, 1) := by decide +kernel
theorem dX6_readsLine_96 : decode cX6_readsLine 96 = .ok (.iadd, 1) := by decide +kernel
theorem dX6_readsLine_97 : decode cX6_readsLine 97 = .ok (.aload_n 0, 1) := by decide +kernel
theorem dX6_readsLine_98 : decode cX6_readsLine 98 = .ok (.iconst 0, 1) := by decide +kernel
theorem dX6_readsLine_99 : decode cX6_readsLine 99 = .ok (.bipush 99, 2) := by decide +kernel
theorem dX6_readsLine_101 : decode cX6_readsLine 101 = .ok (.invokevirtual 90, 3) := by decide +kernel
theorem dX6_readsLine_104 : decode cX6_readsLine 104 = .ok (.iastore, 1) := by decide +kernel
theorem dX6_readsLine_105 : decode cX6_readsLine 105 = .ok (.aload_n 0, 1) := by decide +kernel
theorem dX6_readsLine_106 : decode cX6_readsLine 106 = .ok (.getfield 13, 3) := by decide +kernel
theorem dX6_readsLine_109 : decode cX6_readsLine 109 = .ok (.iconst 0, 1) := by decide +kernel
theorem dX6_readsLine_110 : decode cX6_readsLine 110 = .ok (.dup2, 1) := by decide +kernel
theorem dX6_readsLine_111 : decode cX6_readsLine 111 = .ok (.iaload, 1) := by decide +kernel
theorem dX6_readsLine_112 : decode cX6_readsLine 112 = .ok (.iconst 1, 1) := by decide +kernel
theorem dX6_readsLine_113 : decode cX6_readsLine 113 = .ok (.iadd, 1) := by decide +kernel
theorem dX6_readsLine_114 : decode cX6_readsLine 114 = .ok (.iastore, 1) := by decide +kernel
theorem dX6_readsLine_115 : decode cX6_readsLine 115 = .ok (.goto 19, 3) := by decide +kernel
theorem dX6_readsLine_118 : decode cX6_readsLine 118 = .ok (.iload_n 1, 1) := by decide +kernel
theorem dX6_readsLine_119 : decode cX6_readsLine 119 = .ok (.iconst 1, 1) := by decide +kernel
theorem dX6_readsLine_120 : decode cX6_readsLine 120 = .ok (.if_icmp .ne 10, 3) := by decide +kernel
theorem dX6_readsLine_123 : decode cX6_readsLine 123 = .ok (.aload_n 0, 1) := by decide +kernel
theorem dX6_readsLine_124 : decode cX6_readsLine 124 = .ok (.invokevirtual 101, 3) := by decide +kernel
theorem dX6_readsLine_127 : decode cX6_readsLine 127 = .ok (.goto 7, 3) := by decide +kernel
theorem dX6_readsLine_130 : decode cX6_readsLine 130 = .ok (.aload_n 0, 1) := by decide +kernel
theorem dX6_readsLine_131 : decode cX6_readsLine 131 = .ok (.invokevirtual 104, 3) := by decide +kernel
theorem dX6_readsLine_134 : decode cX6_readsLine 134 = .ok (.aload_n 0, 1) := by decide +kernel
theorem dX6_readsLine_135 : decode cX6_readsLine 135 = .ok (.aload_n 0, 1) := by decide +kernel
theorem dX6_readsLine_136 : decode cX6_readsLine 136 = .ok (.getfield 48, 3) := by decide +kernel
theorem dX6_readsLine_139 : decode cX6_readsLine 139 = .ok (.ifCond .gt 11, 3) := by decide +kernel
theorem dX6_readsLine_142 : decode cX6_readsLine 142 = .ok (.aload_n 0, 1) := by decide +kernel
theorem dX6_readsLine_143 : decode cX6_readsLine 143 = .ok (.getfield 67, 3) := by decide +kernel
theorem dX6_readsLine_146 : decode cX6_readsLine 146 = .ok (.iconst 3, 1) := by decide +kernel
theorem dX6_readsLine_147 : decode cX6_readsLine 147 = .ok (.if_icmp .ne 7, 3) := by decide +kernel
theorem dX6_readsLine_150 : decode cX6_readsLine 150 = .ok (.iconst 1, 1) := by decide +kernel
theorem dX6_readsLine_151 : decode cX6_readsLine 151 = .ok (.goto 4, 3) := by decide +kernel
theorem dX6_readsLine_154 : decode cX6_readsLine 154 = .ok (.iconst 0, 1) := by decide +kernel
theorem dX6_readsLine_155 : decode cX6_readsLine 155 = .ok (.iconst 2, 1) := by decide +kernel
theorem dX6_readsLine_156 : decode cX6_readsLine 156 = .ok (.invokevirtual 78, 3) := by decide +kernel
theorem dX6_readsLine_159 : decode cX6_readsLine 159 = .ok (.aload_n 0, 1) := by decide +kernel
theorem dX6_readsLine_160 : decode cX6_readsLine 160 = .ok (.invokevirtual 82, 3) := by decide +kernel
theorem dX6_readsLine_163 : decode cX6_readsLine 163 = .ok (.return_, 1) := by decide +kernel
theorem dX6_text_0 : decode cX6_text 0 = .ok (.aload_n 0, 1) := by decide +kernel
theorem dX6_text_1 : decode cX6_text 1 = .ok (.iconst 0, 1) := by decide +kernel
theorem dX6_text_2 : decode cX6_text 2 = .ok (.putfield 48, 3) := by decide +kernel
theorem dX6_text_5 : decode cX6_text 5 = .ok (.aload_n 0, 1) := by decide +kernel
theorem dX6_text_6 : decode cX6_text 6 = .ok (.iconst 0, 1) := by decide +kernel
theorem dX6_text_7 : decode cX6_text 7 = .ok (.putfield 57, 3) := by decide +kernel
theorem dX6_text_10 : decode cX6_text 10 = .ok (.aload_n 0, 1) := by decide +kernel
theorem dX6_text_11 : decode cX6_text 11 = .ok (.iconst 0, 1) := by decide +kernel
theorem dX6_text_12 : decode cX6_text 12 = .ok (.putfield 87, 3) := by decide +kernel
theorem dX6_text_15 : decode cX6_text 15 = .ok (.iconst 0, 1) := by decide +kernel
theorem dX6_text_16 : decode cX6_text 16 = .ok (.istore_n 1, 1) := by decide +kernel
theorem dX6_text_17 : decode cX6_text 17 = .ok (.iload_n 1, 1) := by decide +kernel
theorem dX6_text_18 : decode cX6_text 18 = .ok (.sipush 831, 3) := by decide +kernel
theorem dX6_text_21 : decode cX6_text 21 = .ok (.if_icmp .ge 39, 3) := by decide +kernel
theorem dX6_text_24 : decode cX6_text 24 = .ok (.aload_n 0, 1) := by decide +kernel
theorem dX6_text_25 : decode cX6_text 25 = .ok (.getfield 13, 3) := by decide +kernel
theorem dX6_text_28 : decode cX6_text 28 = .ok (.iload_n 1, 1) := by decide +kernel
theorem dX6_text_29 : decode cX6_text 29 = .ok (.iload_n 1, 1) := by decide +kernel
theorem dX6_text_30 : decode cX6_text 30 = .ok (.i2l, 1) := by decide +kernel
theorem dX6_text_31 : decode cX6_text 31 = .ok (.ldc2_w 107, 3) := by decide +kernel
theorem dX6_text_34 : decode cX6_text 34 = .ok (.ldc2_w 85, 3) := by decide +kernel
theorem dX6_text_37 : decode cX6_text 37 = .ok (.invokestatic 40, 3) := by decide +kernel
theorem dX6_text_40 : decode cX6_text 40 = .ok (.ifCond .eq 12, 3) := by decide +kernel
theorem dX6_text_43 : decode cX6_text 43 = .ok (.aload_n 0, 1) := by decide +kernel
theorem dX6_text_44 : decode cX6_text 44 = .ok (.getfield 7, 3) := by decide +kernel
theorem dX6_text_47 : decode cX6_text 47 = .ok (.iload_n 1, 1) := by decide +kernel
theorem dX6_text_48 : decode cX6_text 48 = .ok (.iaload, 1) := by decide +kernel
theorem dX6_text_49 : decode cX6_text 49 = .ok (.goto 4, 3) := by decide +kernel
theorem dX6_text_52 : decode cX6_text 52 = .ok (.iconst 0, 1) := by decide +kernel
theorem dX6_text_53 : decode cX6_text 53 = .ok (.iastore, 1) := by decide +kernel
theorem dX6_text_54 : decode cX6_text 54 = .ok (.iinc 1 1, 3) := by decide +kernel
theorem dX6_text_57 : decode cX6_text 57 = .ok (.goto (-40), 3) := by decide +kernel
theorem dX6_text_60 : decode cX6_text 60 = .ok (.iconst 0, 1) := by decide +kernel
theorem dX6_text_61 : decode cX6_text 61 = .ok (.istore_n 1, 1) := by decide +kernel
theorem dX6_text_62 : decode cX6_text 62 = .ok (.aload_n 0, 1) := by decide +kernel
theorem dX6_text_63 : decode cX6_text 63 = .ok (.invokevirtual 82, 3) := by decide +kernel
theorem dX6_text_66 : decode cX6_text 66 = .ok (.aload_n 0, 1) := by decide +kernel
theorem dX6_text_67 : decode cX6_text 67 = .ok (.getfield 48, 3) := by decide +kernel
theorem dX6_text_70 : decode cX6_text 70 = .ok (.ifCond .ne 20, 3) := by decide +kernel
theorem dX6_text_73 : decode cX6_text 73 = .ok (.aload_n 0, 1) := by decide +kernel
theorem dX6_text_74 : decode cX6_text 74 = .ok (.getfield 67, 3) := by decide +kernel
theorem dX6_text_77 : decode cX6_text 77 = .ok (.ifCond .eq 13, 3) := by decide +kernel
theorem dX6_text_80 : decode cX6_text 80 = .ok (.aload_n 0, 1) := by decide +kernel
theorem dX6_text_81 : decode cX6_text 81 = .ok (.invokevirtual 109, 3) := by decide +kernel
theorem dX6_text_84 : decode cX6_text 84 = .ok (.iinc 1 1, 3) := by decide +kernel
theorem dX6_text_87 : decode cX6_text 87 = .ok (.goto (-21), 3) := by decide +kernel
theorem dX6_text_90 : decode cX6_text 90 = .ok (.aload_n 0, 1) := by decide +kernel
theorem dX6_text_91 : decode cX6_text 91 = .ok (.aload_n 0, 1) := by decide +kernel
theorem dX6_text_92 : decode cX6_text 92 = .ok (.getfield 48, 3) := by decide +kernel
theorem dX6_text_95 : decode cX6_text 95 = .ok (.ifCond .gt 16, 3) := by decide +kernel
theorem dX6_text_98 : decode cX6_text 98 = .ok (.aload_n 0, 1) := by decide +kernel
theorem dX6_text_99 : decode cX6_text 99 = .ok (.getfield 87, 3) := by decide +kernel
theorem dX6_text_102 : decode cX6_text 102 = .ok (.aload_n 0, 1) := by decide +kernel
theorem dX6_text_103 : decode cX6_text 103 = .ok (.getfield 13, 3) := by decide +kernel
theorem dX6_text_106 : decode cX6_text 106 = .ok (.iconst 0, 1) := by decide +kernel
theorem dX6_text_107 : decode cX6_text 107 = .ok (.iaload, 1) := by decide +kernel
theorem dX6_text_108 : decode cX6_text 108 = .ok (.if_icmp .gt 7, 3) := by decide +kernel
theorem dX6_text_111 : decode cX6_text 111 = .ok (.iconst 1, 1) := by decide +kernel
theorem dX6_text_112 : decode cX6_text 112 = .ok (.goto 4, 3) := by decide +kernel
theorem dX6_text_115 : decode cX6_text 115 = .ok (.iconst 0, 1) := by decide +kernel
theorem dX6_text_116 : decode cX6_text 116 = .ok (.bipush 6, 2) := by decide +kernel
theorem dX6_text_118 : decode cX6_text 118 = .ok (.invokevirtual 78, 3) := by decide +kernel
theorem dX6_text_121 : decode cX6_text 121 = .ok (.aload_n 0, 1) := by decide +kernel
theorem dX6_text_122 : decode cX6_text 122 = .ok (.iconst 0, 1) := by decide +kernel
theorem dX6_text_123 : decode cX6_text 123 = .ok (.putfield 44, 3) := by decide +kernel
theorem dX6_text_126 : decode cX6_text 126 = .ok (.aload_n 0, 1) := by decide +kernel
theorem dX6_text_127 : decode cX6_text 127 = .ok (.getfield 48, 3) := by decide +kernel
theorem dX6_text_130 : decode cX6_text 130 = .ok (.ifCond .le 11, 3) := by decide +kernel
theorem dX6_text_133 : decode cX6_text 133 = .ok (.bipush (-10), 2) := by decide +kernel
theorem dX6_text_135 : decode cX6_text 135 = .ok (.aload_n 0, 1) := by decide +kernel
theorem dX6_text_136 : decode cX6_text 136 = .ok (.getfield 54, 3) := by decide +kernel
theorem dX6_text_139 : decode cX6_text 139 = .ok (.isub, 1) := by decide +kernel
theorem dX6_text_140 : decode cX6_text 140 = .ok (.ireturn, 1) := by decide +kernel
theorem dX6_text_141 : decode cX6_text 141 = .ok (.iconst 0, 1) := by decide +kernel
theorem dX6_text_142 : decode cX6_text 142 = .ok (.istore_n 2, 1) := by decide +kernel
theorem dX6_text_143 : decode cX6_text 143 = .ok (.iload_n 2, 1) := by decide +kernel
theorem dX6_text_144 : decode cX6_text 144 = .ok (.sipush 831, 3) := by decide +kernel
theorem dX6_text_147 : decode cX6_text 147 = .ok (.if_icmp .ge 21, 3) := by decide +kernel
theorem dX6_text_150 : decode cX6_text 150 = .ok (.aload_n 0, 1) := by decide +kernel
theorem dX6_text_151 : decode cX6_text 151 = .ok (.getfield 7, 3) := by decide +kernel
theorem dX6_text_154 : decode cX6_text 154 = .ok (.iload_n 2, 1) := by decide +kernel
theorem dX6_text_155 : decode cX6_text 155 = .ok (.aload_n 0, 1) := by decide +kernel
theorem dX6_text_156 : decode cX6_text 156 = .ok (.getfield 13, 3) := by decide +kernel
theorem dX6_text_159 : decode cX6_text 159 = .ok (.iload_n 2, 1) := by decide +kernel
theorem dX6_text_160 : decode cX6_text 160 = .ok (.iaload, 1) := by decide +kernel
theorem dX6_text_161 : decode cX6_text 161 = .ok (.iastore, 1) := by decide +kernel
theorem dX6_text_162 : decode cX6_text 162 = .ok (.iinc 2 1, 3) := by decide +kernel
theorem dX6_text_165 : decode cX6_text 165 = .ok (.goto (-22), 3) := by decide +kernel
theorem dX6_text_168 : decode cX6_text 168 = .ok (.aload_n 0, 1) := by decide +kernel
theorem dX6_text_169 : decode cX6_text 169 = .ok (.getfield 19, 3) := by decide +kernel
theorem dX6_text_172 : decode cX6_text 172 = .ok (.iconst 0, 1) := by decide +kernel
theorem dX6_text_173 : decode cX6_text 173 = .ok (.iconst 0, 1) := by decide +kernel
theorem dX6_text_174 : decode cX6_text 174 = .ok (.bastore, 1) := by decide +kernel
theorem dX6_text_175 : decode cX6_text 175 = .ok (.aload_n 0, 1) := by decide +kernel
theorem dX6_text_176 : decode cX6_text 176 = .ok (.getfield 19, 3) := by decide +kernel
theorem dX6_text_179 : decode cX6_text 179 = .ok (.iconst 1, 1) := by decide +kernel
theorem dX6_text_180 : decode cX6_text 180 = .ok (.iconst 0, 1) := by decide +kernel
theorem dX6_text_181 : decode cX6_text 181 = .ok (.bastore, 1) := by decide +kernel
theorem dX6_text_182 : decode cX6_text 182 = .ok (.iload_n 1, 1) := by decide +kernel
theorem dX6_text_183 : decode cX6_text 183 = .ok (.ireturn, 1) := by decide +kernel
theorem dX6_fault_0 : decode cX6_fault 0 = .ok (.aload_n 0, 1) := by decide +kernel
theorem dX6_fault_1 : decode cX6_fault 1 = .ok (.getfield 48, 3) := by decide +kernel
theorem dX6_fault_4 : decode cX6_fault 4 = .ok (.ireturn, 1) := by decide +kernel
theorem dX6_ofLetter_0 : decode cX6_ofLetter 0 = .ok (.aload_n 0, 1) := by decide +kernel
theorem dX6_ofLetter_1 : decode cX6_ofLetter 1 = .ok (.getfield 7, 3) := by decide +kernel
theorem dX6_ofLetter_4 : decode cX6_ofLetter 4 = .ok (.bipush 127, 2) := by decide +kernel
theorem dX6_ofLetter_6 : decode cX6_ofLetter 6 = .ok (.bipush 8, 2) := by decide +kernel
theorem dX6_ofLetter_8 : decode cX6_ofLetter 8 = .ok (.iload_n 1, 1) := by decide +kernel
theorem dX6_ofLetter_9 : decode cX6_ofLetter 9 = .ok (.imul, 1) := by decide +kernel
theorem dX6_ofLetter_10 : decode cX6_ofLetter 10 = .ok (.iadd, 1) := by decide +kernel
theorem dX6_ofLetter_11 : decode cX6_ofLetter 11 = .ok (.iload_n 2, 1) := by decide +kernel
theorem dX6_ofLetter_12 : decode cX6_ofLetter 12 = .ok (.iadd, 1) := by decide +kernel
theorem dX6_ofLetter_13 : decode cX6_ofLetter 13 = .ok (.iaload, 1) := by decide +kernel
theorem dX6_ofLetter_14 : decode cX6_ofLetter 14 = .ok (.ireturn, 1) := by decide +kernel
theorem dX6_copyAt_0 : decode cX6_copyAt 0 = .ok (.sipush 255, 3) := by decide +kernel
theorem dX6_copyAt_3 : decode cX6_copyAt 3 = .ok (.iconst 3, 1) := by decide +kernel
theorem dX6_copyAt_4 : decode cX6_copyAt 4 = .ok (.bipush 16, 2) := by decide +kernel
theorem dX6_copyAt_6 : decode cX6_copyAt 6 = .ok (.iload_n 1, 1) := by decide +kernel
theorem dX6_copyAt_7 : decode cX6_copyAt 7 = .ok (.imul, 1) := by decide +kernel
theorem dX6_copyAt_8 : decode cX6_copyAt 8 = .ok (.iload_n 2, 1) := by decide +kernel
theorem dX6_copyAt_9 : decode cX6_copyAt 9 = .ok (.iadd, 1) := by decide +kernel
theorem dX6_copyAt_10 : decode cX6_copyAt 10 = .ok (.imul, 1) := by decide +kernel
theorem dX6_copyAt_11 : decode cX6_copyAt 11 = .ok (.iadd, 1) := by decide +kernel
theorem dX6_copyAt_12 : decode cX6_copyAt 12 = .ok (.ireturn, 1) := by decide +kernel
theorem dX6_hasCopy_0 : decode cX6_hasCopy 0 = .ok (.aload_n 0, 1) := by decide +kernel
theorem dX6_hasCopy_1 : decode cX6_hasCopy 1 = .ok (.getfield 7, 3) := by decide +kernel
theorem dX6_hasCopy_4 : decode cX6_hasCopy 4 = .ok (.aload_n 0, 1) := by decide +kernel
theorem dX6_hasCopy_5 : decode cX6_hasCopy 5 = .ok (.iload_n 1, 1) := by decide +kernel
theorem dX6_hasCopy_6 : decode cX6_hasCopy 6 = .ok (.iload_n 2, 1) := by decide +kernel
theorem dX6_hasCopy_7 : decode cX6_hasCopy 7 = .ok (.invokevirtual 112, 3) := by decide +kernel
theorem dX6_hasCopy_10 : decode cX6_hasCopy 10 = .ok (.iaload, 1) := by decide +kernel
theorem dX6_hasCopy_11 : decode cX6_hasCopy 11 = .ok (.ifCond .le 7, 3) := by decide +kernel
theorem dX6_hasCopy_14 : decode cX6_hasCopy 14 = .ok (.iconst 1, 1) := by decide +kernel
theorem dX6_hasCopy_15 : decode cX6_hasCopy 15 = .ok (.goto 4, 3) := by decide +kernel
theorem dX6_hasCopy_18 : decode cX6_hasCopy 18 = .ok (.iconst 0, 1) := by decide +kernel
theorem dX6_hasCopy_19 : decode cX6_hasCopy 19 = .ok (.ireturn, 1) := by decide +kernel
theorem dX6_tokensOf_0 : decode cX6_tokensOf 0 = .ok (.aload_n 0, 1) := by decide +kernel
theorem dX6_tokensOf_1 : decode cX6_tokensOf 1 = .ok (.getfield 7, 3) := by decide +kernel
theorem dX6_tokensOf_4 : decode cX6_tokensOf 4 = .ok (.aload_n 0, 1) := by decide +kernel
theorem dX6_tokensOf_5 : decode cX6_tokensOf 5 = .ok (.iload_n 1, 1) := by decide +kernel
theorem dX6_tokensOf_6 : decode cX6_tokensOf 6 = .ok (.iload_n 2, 1) := by decide +kernel
theorem dX6_tokensOf_7 : decode cX6_tokensOf 7 = .ok (.invokevirtual 112, 3) := by decide +kernel
theorem dX6_tokensOf_10 : decode cX6_tokensOf 10 = .ok (.iaload, 1) := by decide +kernel
theorem dX6_tokensOf_11 : decode cX6_tokensOf 11 = .ok (.ireturn, 1) := by decide +kernel
theorem dX6_hopsOf_0 : decode cX6_hopsOf 0 = .ok (.aload_n 0, 1) := by decide +kernel
theorem dX6_hopsOf_1 : decode cX6_hopsOf 1 = .ok (.getfield 7, 3) := by decide +kernel
theorem dX6_hopsOf_4 : decode cX6_hopsOf 4 = .ok (.aload_n 0, 1) := by decide +kernel
theorem dX6_hopsOf_5 : decode cX6_hopsOf 5 = .ok (.iload_n 1, 1) := by decide +kernel
theorem dX6_hopsOf_6 : decode cX6_hopsOf 6 = .ok (.iload_n 2, 1) := by decide +kernel
theorem dX6_hopsOf_7 : decode cX6_hopsOf 7 = .ok (.invokevirtual 112, 3) := by decide +kernel
theorem dX6_hopsOf_10 : decode cX6_hopsOf 10 = .ok (.iconst 1, 1) := by decide +kernel
theorem dX6_hopsOf_11 : decode cX6_hopsOf 11 = .ok (.iadd, 1) := by decide +kernel
theorem dX6_hopsOf_12 : decode cX6_hopsOf 12 = .ok (.iaload, 1) := by decide +kernel
theorem dX6_hopsOf_13 : decode cX6_hopsOf 13 = .ok (.ireturn, 1) := by decide +kernel
theorem dX6_sinceOf_0 : decode cX6_sinceOf 0 = .ok (.aload_n 0, 1) := by decide +kernel
theorem dX6_sinceOf_1 : decode cX6_sinceOf 1 = .ok (.getfield 7, 3) := by decide +kernel
theorem dX6_sinceOf_4 : decode cX6_sinceOf 4 = .ok (.aload_n 0, 1) := by decide +kernel
theorem dX6_sinceOf_5 : decode cX6_sinceOf 5 = .ok (.iload_n 1, 1) := by decide +kernel
theorem dX6_sinceOf_6 : decode cX6_sinceOf 6 = .ok (.iload_n 2, 1) := by decide +kernel
theorem dX6_sinceOf_7 : decode cX6_sinceOf 7 = .ok (.invokevirtual 112, 3) := by decide +kernel
theorem dX6_sinceOf_10 : decode cX6_sinceOf 10 = .ok (.iconst 2, 1) := by decide +kernel
theorem dX6_sinceOf_11 : decode cX6_sinceOf 11 = .ok (.iadd, 1) := by decide +kernel
theorem dX6_sinceOf_12 : decode cX6_sinceOf 12 = .ok (.iaload, 1) := by decide +kernel
theorem dX6_sinceOf_13 : decode cX6_sinceOf 13 = .ok (.ireturn, 1) := by decide +kernel
theorem dX6_comes_0 : decode cX6_comes 0 = .ok (.aload_n 0, 1) := by decide +kernel
theorem dX6_comes_1 : decode cX6_comes 1 = .ok (.getfield 7, 3) := by decide +kernel
theorem dX6_comes_4 : decode cX6_comes 4 = .ok (.aload_n 0, 1) := by decide +kernel
theorem dX6_comes_5 : decode cX6_comes 5 = .ok (.iload_n 1, 1) := by decide +kernel
theorem dX6_comes_6 : decode cX6_comes 6 = .ok (.iload_n 2, 1) := by decide +kernel
theorem dX6_comes_7 : decode cX6_comes 7 = .ok (.invokevirtual 112, 3) := by decide +kernel
theorem dX6_comes_10 : decode cX6_comes 10 = .ok (.iload_n 3, 1) := by decide +kernel
theorem dX6_comes_11 : decode cX6_comes 11 = .ok (.iastore, 1) := by decide +kernel
theorem dX6_comes_12 : decode cX6_comes 12 = .ok (.aload_n 0, 1) := by decide +kernel
theorem dX6_comes_13 : decode cX6_comes 13 = .ok (.getfield 7, 3) := by decide +kernel
theorem dX6_comes_16 : decode cX6_comes 16 = .ok (.aload_n 0, 1) := by decide +kernel
theorem dX6_comes_17 : decode cX6_comes 17 = .ok (.iload_n 1, 1) := by decide +kernel
theorem dX6_comes_18 : decode cX6_comes 18 = .ok (.iload_n 2, 1) := by decide +kernel
theorem dX6_comes_19 : decode cX6_comes 19 = .ok (.invokevirtual 112, 3) := by decide +kernel
theorem dX6_comes_22 : decode cX6_comes 22 = .ok (.iconst 1, 1) := by decide +kernel
theorem dX6_comes_23 : decode cX6_comes 23 = .ok (.iadd, 1) := by decide +kernel
theorem dX6_comes_24 : decode cX6_comes 24 = .ok (.iload 4, 2) := by decide +kernel
theorem dX6_comes_26 : decode cX6_comes 26 = .ok (.iastore, 1) := by decide +kernel
theorem dX6_comes_27 : decode cX6_comes 27 = .ok (.aload_n 0, 1) := by decide +kernel
theorem dX6_comes_28 : decode cX6_comes 28 = .ok (.getfield 7, 3) := by decide +kernel
theorem dX6_comes_31 : decode cX6_comes 31 = .ok (.aload_n 0, 1) := by decide +kernel
theorem dX6_comes_32 : decode cX6_comes 32 = .ok (.iload_n 1, 1) := by decide +kernel
theorem dX6_comes_33 : decode cX6_comes 33 = .ok (.iload_n 2, 1) := by decide +kernel
theorem dX6_comes_34 : decode cX6_comes 34 = .ok (.invokevirtual 112, 3) := by decide +kernel
theorem dX6_comes_37 : decode cX6_comes 37 = .ok (.iconst 2, 1) := by decide +kernel
theorem dX6_comes_38 : decode cX6_comes 38 = .ok (.iadd, 1) := by decide +kernel
theorem dX6_comes_39 : decode cX6_comes 39 = .ok (.aload_n 0, 1) := by decide +kernel
theorem dX6_comes_40 : decode cX6_comes 40 = .ok (.getfield 7, 3) := by decide +kernel
theorem dX6_comes_43 : decode cX6_comes 43 = .ok (.iconst 3, 1) := by decide +kernel
theorem dX6_comes_44 : decode cX6_comes 44 = .ok (.iaload, 1) := by decide +kernel
theorem dX6_comes_45 : decode cX6_comes 45 = .ok (.iastore, 1) := by decide +kernel
theorem dX6_comes_46 : decode cX6_comes 46 = .ok (.return_, 1) := by decide +kernel
theorem dX6_goes_0 : decode cX6_goes 0 = .ok (.aload_n 0, 1) := by decide +kernel
theorem dX6_goes_1 : decode cX6_goes 1 = .ok (.getfield 7, 3) := by decide +kernel
theorem dX6_goes_4 : decode cX6_goes 4 = .ok (.aload_n 0, 1) := by decide +kernel
theorem dX6_goes_5 : decode cX6_goes 5 = .ok (.iload_n 1, 1) := by decide +kernel
theorem dX6_goes_6 : decode cX6_goes 6 = .ok (.iload_n 2, 1) := by decide +kernel
theorem dX6_goes_7 : decode cX6_goes 7 = .ok (.invokevirtual 112, 3) := by decide +kernel
theorem dX6_goes_10 : decode cX6_goes 10 = .ok (.iconst 0, 1) := by decide +kernel
theorem dX6_goes_11 : decode cX6_goes 11 = .ok (.iastore, 1) := by decide +kernel
theorem dX6_goes_12 : decode cX6_goes 12 = .ok (.return_, 1) := by decide +kernel
theorem dX6_hasNote_0 : decode cX6_hasNote 0 = .ok (.aload_n 0, 1) := by decide +kernel
theorem dX6_hasNote_1 : decode cX6_hasNote 1 = .ok (.getfield 7, 3) := by decide +kernel
theorem dX6_hasNote_4 : decode cX6_hasNote 4 = .ok (.sipush 639, 3) := by decide +kernel
theorem dX6_hasNote_7 : decode cX6_hasNote 7 = .ok (.bipush 16, 2) := by decide +kernel
theorem dX6_hasNote_9 : decode cX6_hasNote 9 = .ok (.iload_n 1, 1) := by decide +kernel
theorem dX6_hasNote_10 : decode cX6_hasNote 10 = .ok (.imul, 1) := by decide +kernel
theorem dX6_hasNote_11 : decode cX6_hasNote 11 = .ok (.iadd, 1) := by decide +kernel
theorem dX6_hasNote_12 : decode cX6_hasNote 12 = .ok (.iload_n 2, 1) := by decide +kernel
theorem dX6_hasNote_13 : decode cX6_hasNote 13 = .ok (.iadd, 1) := by decide +kernel
theorem dX6_hasNote_14 : decode cX6_hasNote 14 = .ok (.iaload, 1) := by decide +kernel
theorem dX6_hasNote_15 : decode cX6_hasNote 15 = .ok (.iconst 1, 1) := by decide +kernel
theorem dX6_hasNote_16 : decode cX6_hasNote 16 = .ok (.if_icmp .ne 7, 3) := by decide +kernel
theorem dX6_hasNote_19 : decode cX6_hasNote 19 = .ok (.iconst 1, 1) := by decide +kernel
theorem dX6_hasNote_20 : decode cX6_hasNote 20 = .ok (.goto 4, 3) := by decide +kernel
theorem dX6_hasNote_23 : decode cX6_hasNote 23 = .ok (.iconst 0, 1) := by decide +kernel
theorem dX6_hasNote_24 : decode cX6_hasNote 24 = .ok (.ireturn, 1) := by decide +kernel
theorem dX6_loadOf_0 : decode cX6_loadOf 0 = .ok (.iconst 0, 1) := by decide +kernel
theorem dX6_loadOf_1 : decode cX6_loadOf 1 = .ok (.istore_n 3, 1) := by decide +kernel
theorem dX6_loadOf_2 : decode cX6_loadOf 2 = .ok (.iconst 0, 1) := by decide +kernel
theorem dX6_loadOf_3 : decode cX6_loadOf 3 = .ok (.istore 4, 2) := by decide +kernel
theorem dX6_loadOf_5 : decode cX6_loadOf 5 = .ok (.iload 4, 2) := by decide +kernel
theorem dX6_loadOf_7 : decode cX6_loadOf 7 = .ok (.aload_n 0, 1) := by decide +kernel
theorem dX6_loadOf_8 : decode cX6_loadOf 8 = .ok (.getfield 7, 3) := by decide +kernel
theorem dX6_loadOf_11 : decode cX6_loadOf 11 = .ok (.iconst 2, 1) := by decide +kernel
theorem dX6_loadOf_12 : decode cX6_loadOf 12 = .ok (.iaload, 1) := by decide +kernel
theorem dX6_loadOf_13 : decode cX6_loadOf 13 = .ok (.if_icmp .ge 48, 3) := by decide +kernel
theorem dX6_loadOf_16 : decode cX6_loadOf 16 = .ok (.iload_n 3, 1) := by decide +kernel
theorem dX6_loadOf_17 : decode cX6_loadOf 17 = .ok (.aload_n 0, 1) := by decide +kernel
theorem dX6_loadOf_18 : decode cX6_loadOf 18 = .ok (.iload_n 1, 1) := by decide +kernel
theorem dX6_loadOf_19 : decode cX6_loadOf 19 = .ok (.iload 4, 2) := by decide +kernel
theorem dX6_loadOf_21 : decode cX6_loadOf 21 = .ok (.invokevirtual 115, 3) := by decide +kernel
theorem dX6_loadOf_24 : decode cX6_loadOf 24 = .ok (.ifCond .eq 28, 3) := by decide +kernel
theorem dX6_loadOf_27 : decode cX6_loadOf 27 = .ok (.iload_n 2, 1) := by decide +kernel
theorem dX6_loadOf_28 : decode cX6_loadOf 28 = .ok (.ifCond .eq 14, 3) := by decide +kernel
theorem dX6_loadOf_31 : decode cX6_loadOf 31 = .ok (.aload_n 0, 1) := by decide +kernel
theorem dX6_loadOf_32 : decode cX6_loadOf 32 = .ok (.iload 4, 2) := by decide +kernel
theorem dX6_loadOf_34 : decode cX6_loadOf 34 = .ok (.iconst 1, 1) := by decide +kernel
theorem dX6_loadOf_35 : decode cX6_loadOf 35 = .ok (.invokevirtual 119, 3) := by decide +kernel
theorem dX6_loadOf_38 : decode cX6_loadOf 38 = .ok (.iload_n 1, 1) := by decide +kernel
theorem dX6_loadOf_39 : decode cX6_loadOf 39 = .ok (.if_icmp .ne 13, 3) := by decide +kernel
theorem dX6_loadOf_42 : decode cX6_loadOf 42 = .ok (.aload_n 0, 1) := by decide +kernel
theorem dX6_loadOf_43 : decode cX6_loadOf 43 = .ok (.iload 4, 2) := by decide +kernel
theorem dX6_loadOf_45 : decode cX6_loadOf 45 = .ok (.iconst 3, 1) := by decide +kernel
theorem dX6_loadOf_46 : decode cX6_loadOf 46 = .ok (.invokevirtual 119, 3) := by decide +kernel
theorem dX6_loadOf_49 : decode cX6_loadOf 49 = .ok (.goto 4, 3) := by decide +kernel
theorem dX6_loadOf_52 : decode cX6_loadOf 52 = .ok (.iconst 0, 1) := by decide +kernel
theorem dX6_loadOf_53 : decode cX6_loadOf 53 = .ok (.iadd, 1) := by decide +kernel
theorem dX6_loadOf_54 : decode cX6_loadOf 54 = .ok (.istore_n 3, 1) := by decide +kernel
theorem dX6_loadOf_55 : decode cX6_loadOf 55 = .ok (.iinc 4 1, 3) := by decide +kernel
theorem dX6_loadOf_58 : decode cX6_loadOf 58 = .ok (.goto (-53), 3) := by decide +kernel
theorem dX6_loadOf_61 : decode cX6_loadOf 61 = .ok (.iload_n 3, 1) := by decide +kernel
theorem dX6_loadOf_62 : decode cX6_loadOf 62 = .ok (.ireturn, 1) := by decide +kernel
theorem dX6_endOf_0 : decode cX6_endOf 0 = .ok (.aload_n 0, 1) := by decide +kernel
theorem dX6_endOf_1 : decode cX6_endOf 1 = .ok (.iload_n 1, 1) := by decide +kernel
theorem dX6_endOf_2 : decode cX6_endOf 2 = .ok (.iconst 0, 1) := by decide +kernel
theorem dX6_endOf_3 : decode cX6_endOf 3 = .ok (.invokevirtual 119, 3) := by decide +kernel
theorem dX6_endOf_6 : decode cX6_endOf 6 = .ok (.aload_n 0, 1) := by decide +kernel
theorem dX6_endOf_7 : decode cX6_endOf 7 = .ok (.iload_n 1, 1) := by decide +kernel
theorem dX6_endOf_8 : decode cX6_endOf 8 = .ok (.iconst 5, 1) := by decide +kernel
theorem dX6_endOf_9 : decode cX6_endOf 9 = .ok (.invokevirtual 119, 3) := by decide +kernel
theorem dX6_endOf_12 : decode cX6_endOf 12 = .ok (.iadd, 1) := by decide +kernel
theorem dX6_endOf_13 : decode cX6_endOf 13 = .ok (.ireturn, 1) := by decide +kernel
theorem dX6_roomless_0 : decode cX6_roomless 0 = .ok (.aload_n 0, 1) := by decide +kernel
theorem dX6_roomless_1 : decode cX6_roomless 1 = .ok (.iload_n 1, 1) := by decide +kernel
theorem dX6_roomless_2 : decode cX6_roomless 2 = .ok (.iconst 0, 1) := by decide +kernel
theorem dX6_roomless_3 : decode cX6_roomless 3 = .ok (.invokevirtual 122, 3) := by decide +kernel
theorem dX6_roomless_6 : decode cX6_roomless 6 = .ok (.iload_n 2, 1) := by decide +kernel
theorem dX6_roomless_7 : decode cX6_roomless 7 = .ok (.iadd, 1) := by decide +kernel
theorem dX6_roomless_8 : decode cX6_roomless 8 = .ok (.aload_n 0, 1) := by decide +kernel
theorem dX6_roomless_9 : decode cX6_roomless 9 = .ok (.getfield 7, 3) := by decide +kernel
theorem dX6_roomless_12 : decode cX6_roomless 12 = .ok (.bipush 23, 2) := by decide +kernel
theorem dX6_roomless_14 : decode cX6_roomless 14 = .ok (.iload_n 1, 1) := by decide +kernel
theorem dX6_roomless_15 : decode cX6_roomless 15 = .ok (.iadd, 1) := by decide +kernel
theorem dX6_roomless_16 : decode cX6_roomless 16 = .ok (.iaload, 1) := by decide +kernel
theorem dX6_roomless_17 : decode cX6_roomless 17 = .ok (.if_icmp .gt 5, 3) := by decide +kernel
theorem dX6_roomless_20 : decode cX6_roomless 20 = .ok (.iconst 0, 1) := by decide +kernel
theorem dX6_roomless_21 : decode cX6_roomless 21 = .ok (.ireturn, 1) := by decide +kernel
theorem dX6_roomless_22 : decode cX6_roomless 22 = .ok (.iload_n 2, 1) := by decide +kernel
theorem dX6_roomless_23 : decode cX6_roomless 23 = .ok (.aload_n 0, 1) := by decide +kernel
theorem dX6_roomless_24 : decode cX6_roomless 24 = .ok (.getfield 7, 3) := by decide +kernel
theorem dX6_roomless_27 : decode cX6_roomless 27 = .ok (.bipush 23, 2) := by decide +kernel
theorem dX6_roomless_29 : decode cX6_roomless 29 = .ok (.iload_n 1, 1) := by decide +kernel
theorem dX6_roomless_30 : decode cX6_roomless 30 = .ok (.iadd, 1) := by decide +kernel
theorem dX6_roomless_31 : decode cX6_roomless 31 = .ok (.iaload, 1) := by decide +kernel
theorem dX6_roomless_32 : decode cX6_roomless 32 = .ok (.if_icmp .le 5, 3) := by decide +kernel
theorem dX6_roomless_35 : decode cX6_roomless 35 = .ok (.iconst 5, 1) := by decide +kernel
theorem dX6_roomless_36 : decode cX6_roomless 36 = .ok (.ireturn, 1) := by decide +kernel
theorem dX6_roomless_37 : decode cX6_roomless 37 = .ok (.aload_n 0, 1) := by decide +kernel
theorem dX6_roomless_38 : decode cX6_roomless 38 = .ok (.getfield 7, 3) := by decide +kernel
theorem dX6_roomless_41 : decode cX6_roomless 41 = .ok (.bipush 6, 2) := by decide +kernel
theorem dX6_roomless_43 : decode cX6_roomless 43 = .ok (.iaload, 1) := by decide +kernel
theorem dX6_roomless_44 : decode cX6_roomless 44 = .ok (.ifCond .ne 6, 3) := by decide +kernel
theorem dX6_roomless_47 : decode cX6_roomless 47 = .ok (.bipush 6, 2) := by decide +kernel
theorem dX6_roomless_49 : decode cX6_roomless 49 = .ok (.ireturn, 1) := by decide +kernel
theorem dX6_roomless_50 : decode cX6_roomless 50 = .ok (.aload_n 0, 1) := by decide +kernel
theorem dX6_roomless_51 : decode cX6_roomless 51 = .ok (.iload_n 1, 1) := by decide +kernel
theorem dX6_roomless_52 : decode cX6_roomless 52 = .ok (.iconst 1, 1) := by decide +kernel
theorem dX6_roomless_53 : decode cX6_roomless 53 = .ok (.invokevirtual 122, 3) := by decide +kernel
theorem dX6_roomless_56 : decode cX6_roomless 56 = .ok (.iload_n 2, 1) := by decide +kernel
theorem dX6_roomless_57 : decode cX6_roomless 57 = .ok (.iadd, 1) := by decide +kernel
theorem dX6_roomless_58 : decode cX6_roomless 58 = .ok (.aload_n 0, 1) := by decide +kernel
theorem dX6_roomless_59 : decode cX6_roomless 59 = .ok (.getfield 7, 3) := by decide +kernel
theorem dX6_roomless_62 : decode cX6_roomless 62 = .ok (.bipush 23, 2) := by decide +kernel
theorem dX6_roomless_64 : decode cX6_roomless 64 = .ok (.iload_n 1, 1) := by decide +kernel
theorem dX6_roomless_65 : decode cX6_roomless 65 = .ok (.iadd, 1) := by decide +kernel
theorem dX6_roomless_66 : decode cX6_roomless 66 = .ok (.iaload, 1) := by decide +kernel
theorem dX6_roomless_67 : decode cX6_roomless 67 = .ok (.if_icmp .gt 7, 3) := by decide +kernel
theorem dX6_roomless_70 : decode cX6_roomless 70 = .ok (.iconst 0, 1) := by decide +kernel
theorem dX6_roomless_71 : decode cX6_roomless 71 = .ok (.goto 5, 3) := by decide +kernel
theorem dX6_roomless_74 : decode cX6_roomless 74 = .ok (.bipush 7, 2) := by decide +kernel
theorem dX6_roomless_76 : decode cX6_roomless 76 = .ok (.ireturn, 1) := by decide +kernel
theorem dX6_isAhead_0 : decode cX6_isAhead 0 = .ok (.aload_n 0, 1) := by decide +kernel
theorem dX6_isAhead_1 : decode cX6_isAhead 1 = .ok (.getfield 7, 3) := by decide +kernel
theorem dX6_isAhead_4 : decode cX6_isAhead 4 = .ok (.bipush 6, 2) := by decide +kernel
theorem dX6_isAhead_6 : decode cX6_isAhead 6 = .ok (.iaload, 1) := by decide +kernel
theorem dX6_isAhead_7 : decode cX6_isAhead 7 = .ok (.lookupswitch 67 #[(1, 25), (2, 46)], 25) := by decide +kernel
theorem dX6_isAhead_32 : decode cX6_isAhead 32 = .ok (.aload_n 0, 1) := by decide +kernel
theorem dX6_isAhead_33 : decode cX6_isAhead 33 = .ok (.iload_n 1, 1) := by decide +kernel
theorem dX6_isAhead_34 : decode cX6_isAhead 34 = .ok (.iload_n 2, 1) := by decide +kernel
theorem dX6_isAhead_35 : decode cX6_isAhead 35 = .ok (.invokevirtual 126, 3) := by decide +kernel
theorem dX6_isAhead_38 : decode cX6_isAhead 38 = .ok (.aload_n 0, 1) := by decide +kernel
theorem dX6_isAhead_39 : decode cX6_isAhead 39 = .ok (.iload_n 1, 1) := by decide +kernel
theorem dX6_isAhead_40 : decode cX6_isAhead 40 = .ok (.iload_n 3, 1) := by decide +kernel
theorem dX6_isAhead_41 : decode cX6_isAhead 41 = .ok (.invokevirtual 126, 3) := by decide +kernel
theorem dX6_isAhead_44 : decode cX6_isAhead 44 = .ok (.if_icmp .ge 7, 3) := by decide +kernel
theorem dX6_isAhead_47 : decode cX6_isAhead 47 = .ok (.iconst 1, 1) := by decide +kernel
theorem dX6_isAhead_48 : decode cX6_isAhead 48 = .ok (.goto 4, 3) := by decide +kernel
theorem dX6_isAhead_51 : decode cX6_isAhead 51 = .ok (.iconst 0, 1) := by decide +kernel
theorem dX6_isAhead_52 : decode cX6_isAhead 52 = .ok (.ireturn, 1) := by decide +kernel
theorem dX6_isAhead_53 : decode cX6_isAhead 53 = .ok (.aload_n 0, 1) := by decide +kernel
theorem dX6_isAhead_54 : decode cX6_isAhead 54 = .ok (.iload_n 2, 1) := by decide +kernel
theorem dX6_isAhead_55 : decode cX6_isAhead 55 = .ok (.iconst 3, 1) := by decide +kernel
theorem dX6_isAhead_56 : decode cX6_isAhead 56 = .ok (.invokevirtual 119, 3) := by decide +kernel
theorem dX6_isAhead_59 : decode cX6_isAhead 59 = .ok (.aload_n 0, 1) := by decide +kernel
theorem dX6_isAhead_60 : decode cX6_isAhead 60 = .ok (.iload_n 3, 1) := by decide +kernel
theorem dX6_isAhead_61 : decode cX6_isAhead 61 = .ok (.iconst 3, 1) := by decide +kernel
theorem dX6_isAhead_62 : decode cX6_isAhead 62 = .ok (.invokevirtual 119, 3) := by decide +kernel
theorem dX6_isAhead_65 : decode cX6_isAhead 65 = .ok (.if_icmp .le 7, 3) := by decide +kernel
theorem dX6_isAhead_68 : decode cX6_isAhead 68 = .ok (.iconst 1, 1) := by decide +kernel
theorem dX6_isAhead_69 : decode cX6_isAhead 69 = .ok (.goto 4, 3) := by decide +kernel
theorem dX6_isAhead_72 : decode cX6_isAhead 72 = .ok (.iconst 0, 1) := by decide +kernel
theorem dX6_isAhead_73 : decode cX6_isAhead 73 = .ok (.ireturn, 1) := by decide +kernel
theorem dX6_isAhead_74 : decode cX6_isAhead 74 = .ok (.aload_n 0, 1) := by decide +kernel
theorem dX6_isAhead_75 : decode cX6_isAhead 75 = .ok (.iload_n 2, 1) := by decide +kernel
theorem dX6_isAhead_76 : decode cX6_isAhead 76 = .ok (.invokevirtual 129, 3) := by decide +kernel
theorem dX6_isAhead_79 : decode cX6_isAhead 79 = .ok (.aload_n 0, 1) := by decide +kernel
theorem dX6_isAhead_80 : decode cX6_isAhead 80 = .ok (.iload_n 3, 1) := by decide +kernel
theorem dX6_isAhead_81 : decode cX6_isAhead 81 = .ok (.invokevirtual 129, 3) := by decide +kernel
theorem dX6_isAhead_84 : decode cX6_isAhead 84 = .ok (.if_icmp .ge 7, 3) := by decide +kernel
theorem dX6_isAhead_87 : decode cX6_isAhead 87 = .ok (.iconst 1, 1) := by decide +kernel
theorem dX6_isAhead_88 : decode cX6_isAhead 88 = .ok (.goto 4, 3) := by decide +kernel
theorem dX6_isAhead_91 : decode cX6_isAhead 91 = .ok (.iconst 0, 1) := by decide +kernel
theorem dX6_isAhead_92 : decode cX6_isAhead 92 = .ok (.ireturn, 1) := by decide +kernel
theorem dX6_makesRoom_0 : decode cX6_makesRoom 0 = .ok (.aload_n 0, 1) := by decide +kernel
theorem dX6_makesRoom_1 : decode cX6_makesRoom 1 = .ok (.iload_n 1, 1) := by decide +kernel
theorem dX6_makesRoom_2 : decode cX6_makesRoom 2 = .ok (.iconst 0, 1) := by decide +kernel
theorem dX6_makesRoom_3 : decode cX6_makesRoom 3 = .ok (.invokevirtual 122, 3) := by decide +kernel
theorem dX6_makesRoom_6 : decode cX6_makesRoom 6 = .ok (.iload_n 2, 1) := by decide +kernel
theorem dX6_makesRoom_7 : decode cX6_makesRoom 7 = .ok (.iadd, 1) := by decide +kernel
theorem dX6_makesRoom_8 : decode cX6_makesRoom 8 = .ok (.aload_n 0, 1) := by decide +kernel
theorem dX6_makesRoom_9 : decode cX6_makesRoom 9 = .ok (.getfield 7, 3) := by decide +kernel
theorem dX6_makesRoom_12 : decode cX6_makesRoom 12 = .ok (.bipush 23, 2) := by decide +kernel
theorem dX6_makesRoom_14 : decode cX6_makesRoom 14 = .ok (.iload_n 1, 1) := by decide +kernel
theorem dX6_makesRoom_15 : decode cX6_makesRoom 15 = .ok (.iadd, 1) := by decide +kernel
theorem dX6_makesRoom_16 : decode cX6_makesRoom 16 = .ok (.iaload, 1) := by decide +kernel
theorem dX6_makesRoom_17 : decode cX6_makesRoom 17 = .ok (.if_icmp .le 91, 3) := by decide +kernel
theorem dX6_makesRoom_20 : decode cX6_makesRoom 20 = .ok (.bipush (-4), 2) := by decide +kernel
theorem dX6_makesRoom_22 : decode cX6_makesRoom 22 = .ok (.istore_n 3, 1) := by decide +kernel
theorem dX6_makesRoom_23 : decode cX6_makesRoom 23 = .ok (.iconst 0, 1) := by decide +kernel
theorem dX6_makesRoom_24 : decode cX6_makesRoom 24 = .ok (.istore 4, 2) := by decide +kernel
theorem dX6_makesRoom_26 : decode cX6_makesRoom 26 = .ok (.iload 4, 2) := by decide +kernel
theorem dX6_makesRoom_28 : decode cX6_makesRoom 28 = .ok (.aload_n 0, 1) := by decide +kernel
theorem dX6_makesRoom_29 : decode cX6_makesRoom 29 = .ok (.getfield 7, 3) := by decide +kernel
theorem dX6_makesRoom_32 : decode cX6_makesRoom 32 = .ok (.iconst 2, 1) := by decide +kernel
theorem dX6_makesRoom_33 : decode cX6_makesRoom 33 = .ok (.iaload, 1) := by decide +kernel
theorem dX6_makesRoom_34 : decode cX6_makesRoom 34 = .ok (.if_icmp .ge 54, 3) := by decide +kernel
theorem dX6_makesRoom_37 : decode cX6_makesRoom 37 = .ok (.aload_n 0, 1) := by decide +kernel
theorem dX6_makesRoom_38 : decode cX6_makesRoom 38 = .ok (.iload_n 1, 1) := by decide +kernel
theorem dX6_makesRoom_39 : decode cX6_makesRoom 39 = .ok (.iload 4, 2) := by decide +kernel
theorem dX6_makesRoom_41 : decode cX6_makesRoom 41 = .ok (.invokevirtual 115, 3) := by decide +kernel
theorem dX6_makesRoom_44 : decode cX6_makesRoom 44 = .ok (.ifCond .eq 38, 3) := by decide +kernel
theorem dX6_makesRoom_47 : decode cX6_makesRoom 47 = .ok (.aload_n 0, 1) := by decide +kernel
theorem dX6_makesRoom_48 : decode cX6_makesRoom 48 = .ok (.iload 4, 2) := by decide +kernel
theorem dX6_makesRoom_50 : decode cX6_makesRoom 50 = .ok (.iconst 1, 1) := by decide +kernel
theorem dX6_makesRoom_51 : decode cX6_makesRoom 51 = .ok (.invokevirtual 119, 3) := by decide +kernel
theorem dX6_makesRoom_54 : decode cX6_makesRoom 54 = .ok (.iload_n 1, 1) := by decide +kernel
theorem dX6_makesRoom_55 : decode cX6_makesRoom 55 = .ok (.if_icmp .eq 27, 3) := by decide +kernel
theorem dX6_makesRoom_58 : decode cX6_makesRoom 58 = .ok (.iload_n 3, 1) := by decide +kernel
theorem dX6_makesRoom_59 : decode cX6_makesRoom 59 = .ok (.bipush (-4), 2) := by decide +kernel
theorem dX6_makesRoom_61 : decode cX6_makesRoom 61 = .ok (.if_icmp .eq 14, 3) := by decide +kernel
theorem dX6_makesRoom_64 : decode cX6_makesRoom 64 = .ok (.aload_n 0, 1) := by decide +kernel
theorem dX6_makesRoom_65 : decode cX6_makesRoom 65 = .ok (.iload_n 1, 1) := by decide +kernel
theorem dX6_makesRoom_66 : decode cX6_makesRoom 66 = .ok (.iload 4, 2) := by decide +kernel
theorem dX6_makesRoom_68 : decode cX6_makesRoom 68 = .ok (.iload_n 3, 1) := by decide +kernel
theorem dX6_makesRoom_69 : decode cX6_makesRoom 69 = .ok (.invokevirtual 132, 3) := by decide +kernel
theorem dX6_makesRoom_72 : decode cX6_makesRoom 72 = .ok (.ifCond .eq 8, 3) := by decide +kernel
theorem dX6_makesRoom_75 : decode cX6_makesRoom 75 = .ok (.iload 4, 2) := by decide +kernel
theorem dX6_makesRoom_77 : decode cX6_makesRoom 77 = .ok (.goto 4, 3) := by decide +kernel
theorem dX6_makesRoom_80 : decode cX6_makesRoom 80 = .ok (.iload_n 3, 1) := by decide +kernel
theorem dX6_makesRoom_81 : decode cX6_makesRoom 81 = .ok (.istore_n 3, 1) := by decide +kernel
theorem dX6_makesRoom_82 : decode cX6_makesRoom 82 = .ok (.iinc 4 1, 3) := by decide +kernel
theorem dX6_makesRoom_85 : decode cX6_makesRoom 85 = .ok (.goto (-59), 3) := by decide +kernel
theorem dX6_makesRoom_88 : decode cX6_makesRoom 88 = .ok (.aload_n 0, 1) := by decide +kernel
theorem dX6_makesRoom_89 : decode cX6_makesRoom 89 = .ok (.iload_n 1, 1) := by decide +kernel
theorem dX6_makesRoom_90 : decode cX6_makesRoom 90 = .ok (.iload_n 3, 1) := by decide +kernel
theorem dX6_makesRoom_91 : decode cX6_makesRoom 91 = .ok (.invokevirtual 136, 3) := by decide +kernel
theorem dX6_makesRoom_94 : decode cX6_makesRoom 94 = .ok (.aload_n 0, 1) := by decide +kernel
theorem dX6_makesRoom_95 : decode cX6_makesRoom 95 = .ok (.getfield 7, 3) := by decide +kernel
theorem dX6_makesRoom_98 : decode cX6_makesRoom 98 = .ok (.bipush 10, 2) := by decide +kernel
theorem dX6_makesRoom_100 : decode cX6_makesRoom 100 = .ok (.dup2, 1) := by decide +kernel
theorem dX6_makesRoom_101 : decode cX6_makesRoom 101 = .ok (.iaload, 1) := by decide +kernel
theorem dX6_makesRoom_102 : decode cX6_makesRoom 102 = .ok (.iconst 1, 1) := by decide +kernel
theorem dX6_makesRoom_103 : decode cX6_makesRoom 103 = .ok (.iadd, 1) := by decide +kernel
theorem dX6_makesRoom_104 : decode cX6_makesRoom 104 = .ok (.iastore, 1) := by decide +kernel
theorem dX6_makesRoom_105 : decode cX6_makesRoom 105 = .ok (.goto (-105), 3) := by decide +kernel
theorem dX6_makesRoom_108 : decode cX6_makesRoom 108 = .ok (.return_, 1) := by decide +kernel
theorem dX6_isBorn_0 : decode cX6_isBorn 0 = .ok (.aload_n 0, 1) := by decide +kernel
theorem dX6_isBorn_1 : decode cX6_isBorn 1 = .ok (.iload_n 1, 1) := by decide +kernel
theorem dX6_isBorn_2 : decode cX6_isBorn 2 = .ok (.iconst 1, 1) := by decide +kernel
theorem dX6_isBorn_3 : decode cX6_isBorn 3 = .ok (.invokevirtual 119, 3) := by decide +kernel
theorem dX6_isBorn_6 : decode cX6_isBorn 6 = .ok (.istore_n 2, 1) := by decide +kernel
theorem dX6_isBorn_7 : decode cX6_isBorn 7 = .ok (.aload_n 0, 1) := by decide +kernel
theorem dX6_isBorn_8 : decode cX6_isBorn 8 = .ok (.iload_n 2, 1) := by decide +kernel
theorem dX6_isBorn_9 : decode cX6_isBorn 9 = .ok (.aload_n 0, 1) := by decide +kernel
theorem dX6_isBorn_10 : decode cX6_isBorn 10 = .ok (.iload_n 1, 1) := by decide +kernel
theorem dX6_isBorn_11 : decode cX6_isBorn 11 = .ok (.iconst 3, 1) := by decide +kernel
theorem dX6_isBorn_12 : decode cX6_isBorn 12 = .ok (.invokevirtual 119, 3) := by decide +kernel
theorem dX6_isBorn_15 : decode cX6_isBorn 15 = .ok (.invokevirtual 140, 3) := by decide +kernel
theorem dX6_isBorn_18 : decode cX6_isBorn 18 = .ok (.ifCond .le 17, 3) := by decide +kernel
theorem dX6_isBorn_21 : decode cX6_isBorn 21 = .ok (.aload_n 0, 1) := by decide +kernel
theorem dX6_isBorn_22 : decode cX6_isBorn 22 = .ok (.getfield 7, 3) := by decide +kernel
theorem dX6_isBorn_25 : decode cX6_isBorn 25 = .ok (.bipush 13, 2) := by decide +kernel
theorem dX6_isBorn_27 : decode cX6_isBorn 27 = .ok (.dup2, 1) := by decide +kernel
theorem dX6_isBorn_28 : decode cX6_isBorn 28 = .ok (.iaload, 1) := by decide +kernel
theorem dX6_isBorn_29 : decode cX6_isBorn 29 = .ok (.iconst 1, 1) := by decide +kernel
theorem dX6_isBorn_30 : decode cX6_isBorn 30 = .ok (.iadd, 1) := by decide +kernel
theorem dX6_isBorn_31 : decode cX6_isBorn 31 = .ok (.iastore, 1) := by decide +kernel
theorem dX6_isBorn_32 : decode cX6_isBorn 32 = .ok (.goto 27, 3) := by decide +kernel
theorem dX6_isBorn_35 : decode cX6_isBorn 35 = .ok (.aload_n 0, 1) := by decide +kernel
theorem dX6_isBorn_36 : decode cX6_isBorn 36 = .ok (.iload_n 2, 1) := by decide +kernel
theorem dX6_isBorn_37 : decode cX6_isBorn 37 = .ok (.aload_n 0, 1) := by decide +kernel
theorem dX6_isBorn_38 : decode cX6_isBorn 38 = .ok (.iload_n 1, 1) := by decide +kernel
theorem dX6_isBorn_39 : decode cX6_isBorn 39 = .ok (.iconst 3, 1) := by decide +kernel
theorem dX6_isBorn_40 : decode cX6_isBorn 40 = .ok (.invokevirtual 119, 3) := by decide +kernel
theorem dX6_isBorn_43 : decode cX6_isBorn 43 = .ok (.invokevirtual 143, 3) := by decide +kernel
theorem dX6_isBorn_46 : decode cX6_isBorn 46 = .ok (.aload_n 0, 1) := by decide +kernel
theorem dX6_isBorn_47 : decode cX6_isBorn 47 = .ok (.iload_n 2, 1) := by decide +kernel
theorem dX6_isBorn_48 : decode cX6_isBorn 48 = .ok (.iload_n 1, 1) := by decide +kernel
theorem dX6_isBorn_49 : decode cX6_isBorn 49 = .ok (.aload_n 0, 1) := by decide +kernel
theorem dX6_isBorn_50 : decode cX6_isBorn 50 = .ok (.iload_n 1, 1) := by decide +kernel
theorem dX6_isBorn_51 : decode cX6_isBorn 51 = .ok (.iconst 4, 1) := by decide +kernel
theorem dX6_isBorn_52 : decode cX6_isBorn 52 = .ok (.invokevirtual 119, 3) := by decide +kernel
theorem dX6_isBorn_55 : decode cX6_isBorn 55 = .ok (.iconst 0, 1) := by decide +kernel
theorem dX6_isBorn_56 : decode cX6_isBorn 56 = .ok (.invokevirtual 146, 3) := by decide +kernel
theorem dX6_isBorn_59 : decode cX6_isBorn 59 = .ok (.return_, 1) := by decide +kernel
theorem dX6_lastOf_0 : decode cX6_lastOf 0 = .ok (.aload_n 0, 1) := by decide +kernel
theorem dX6_lastOf_1 : decode cX6_lastOf 1 = .ok (.getfield 7, 3) := by decide +kernel
theorem dX6_lastOf_4 : decode cX6_lastOf 4 = .ok (.sipush 767, 3) := by decide +kernel
theorem dX6_lastOf_7 : decode cX6_lastOf 7 = .ok (.bipush 8, 2) := by decide +kernel
theorem dX6_lastOf_9 : decode cX6_lastOf 9 = .ok (.iload_n 1, 1) := by decide +kernel
theorem dX6_lastOf_10 : decode cX6_lastOf 10 = .ok (.imul, 1) := by decide +kernel
theorem dX6_lastOf_11 : decode cX6_lastOf 11 = .ok (.iadd, 1) := by decide +kernel
theorem dX6_lastOf_12 : decode cX6_lastOf 12 = .ok (.iload_n 2, 1) := by decide +kernel
theorem dX6_lastOf_13 : decode cX6_lastOf 13 = .ok (.iadd, 1) := by decide +kernel
theorem dX6_lastOf_14 : decode cX6_lastOf 14 = .ok (.iaload, 1) := by decide +kernel
theorem dX6_lastOf_15 : decode cX6_lastOf 15 = .ok (.iconst 1, 1) := by decide +kernel
theorem dX6_lastOf_16 : decode cX6_lastOf 16 = .ok (.isub, 1) := by decide +kernel
theorem dX6_lastOf_17 : decode cX6_lastOf 17 = .ok (.ireturn, 1) := by decide +kernel
theorem dX6_reason_0 : decode cX6_reason 0 = .ok (.aload_n 0, 1) := by decide +kernel
theorem dX6_reason_1 : decode cX6_reason 1 = .ok (.iload_n 3, 1) := by decide +kernel
theorem dX6_reason_2 : decode cX6_reason 2 = .ok (.iconst 2, 1) := by decide +kernel
theorem dX6_reason_3 : decode cX6_reason 3 = .ok (.invokevirtual 119, 3) := by decide +kernel
theorem dX6_reason_6 : decode cX6_reason 6 = .ok (.iload_n 2, 1) := by decide +kernel
theorem dX6_reason_7 : decode cX6_reason 7 = .ok (.if_icmp .ne 7, 3) := by decide +kernel
theorem dX6_reason_10 : decode cX6_reason 10 = .ok (.iconst 1, 1) := by decide +kernel
theorem dX6_reason_11 : decode cX6_reason 11 = .ok (.goto 4, 3) := by decide +kernel
theorem dX6_reason_14 : decode cX6_reason 14 = .ok (.iconst 0, 1) := by decide +kernel
theorem dX6_reason_15 : decode cX6_reason 15 = .ok (.istore 5, 2) := by decide +kernel
theorem dX6_reason_17 : decode cX6_reason 17 = .ok (.aload_n 0, 1) := by decide +kernel
theorem dX6_reason_18 : decode cX6_reason 18 = .ok (.iload_n 2, 1) := by decide +kernel
theorem dX6_reason_19 : decode cX6_reason 19 = .ok (.iload_n 3, 1) := by decide +kernel
theorem dX6_reason_20 : decode cX6_reason 20 = .ok (.invokevirtual 115, 3) := by decide +kernel
theorem dX6_reason_23 : decode cX6_reason 23 = .ok (.ifCond .eq 5, 3) := by decide +kernel
theorem dX6_reason_26 : decode cX6_reason 26 = .ok (.iconst 1, 1) := by decide +kernel
theorem dX6_reason_27 : decode cX6_reason 27 = .ok (.ireturn, 1) := by decide +kernel
theorem dX6_reason_28 : decode cX6_reason 28 = .ok (.iload 5, 2) := by decide +kernel
theorem dX6_reason_30 : decode cX6_reason 30 = .ok (.ifCond .ne 15, 3) := by decide +kernel
theorem dX6_reason_33 : decode cX6_reason 33 = .ok (.aload_n 0, 1) := by decide +kernel
theorem dX6_reason_34 : decode cX6_reason 34 = .ok (.iload_n 1, 1) := by decide +kernel
theorem dX6_reason_35 : decode cX6_reason 35 = .ok (.iload_n 2, 1) := by decide +kernel
theorem dX6_reason_36 : decode cX6_reason 36 = .ok (.iload_n 3, 1) := by decide +kernel
theorem dX6_reason_37 : decode cX6_reason 37 = .ok (.invokevirtual 150, 3) := by decide +kernel
theorem dX6_reason_40 : decode cX6_reason 40 = .ok (.ifCond .eq 5, 3) := by decide +kernel
theorem dX6_reason_43 : decode cX6_reason 43 = .ok (.iconst 2, 1) := by decide +kernel
theorem dX6_reason_44 : decode cX6_reason 44 = .ok (.ireturn, 1) := by decide +kernel
theorem dX6_reason_45 : decode cX6_reason 45 = .ok (.aload_n 0, 1) := by decide +kernel
theorem dX6_reason_46 : decode cX6_reason 46 = .ok (.iload_n 3, 1) := by decide +kernel
theorem dX6_reason_47 : decode cX6_reason 47 = .ok (.iconst 3, 1) := by decide +kernel
theorem dX6_reason_48 : decode cX6_reason 48 = .ok (.invokevirtual 119, 3) := by decide +kernel
theorem dX6_reason_51 : decode cX6_reason 51 = .ok (.iload 4, 2) := by decide +kernel
theorem dX6_reason_53 : decode cX6_reason 53 = .ok (.if_icmp .le 5, 3) := by decide +kernel
theorem dX6_reason_56 : decode cX6_reason 56 = .ok (.iconst 3, 1) := by decide +kernel
theorem dX6_reason_57 : decode cX6_reason 57 = .ok (.ireturn, 1) := by decide +kernel
theorem dX6_reason_58 : decode cX6_reason 58 = .ok (.iload 5, 2) := by decide +kernel
theorem dX6_reason_60 : decode cX6_reason 60 = .ok (.ifCond .ne 21, 3) := by decide +kernel
theorem dX6_reason_63 : decode cX6_reason 63 = .ok (.aload_n 0, 1) := by decide +kernel
theorem dX6_reason_64 : decode cX6_reason 64 = .ok (.iload_n 2, 1) := by decide +kernel
theorem dX6_reason_65 : decode cX6_reason 65 = .ok (.aload_n 0, 1) := by decide +kernel
theorem dX6_reason_66 : decode cX6_reason 66 = .ok (.iload_n 3, 1) := by decide +kernel
theorem dX6_reason_67 : decode cX6_reason 67 = .ok (.iconst 3, 1) := by decide +kernel
theorem dX6_reason_68 : decode cX6_reason 68 = .ok (.invokevirtual 119, 3) := by decide +kernel
theorem dX6_reason_71 : decode cX6_reason 71 = .ok (.invokevirtual 140, 3) := by decide +kernel
theorem dX6_reason_74 : decode cX6_reason 74 = .ok (.ifCond .le 7, 3) := by decide +kernel
theorem dX6_reason_77 : decode cX6_reason 77 = .ok (.iconst 4, 1) := by decide +kernel
theorem dX6_reason_78 : decode cX6_reason 78 = .ok (.goto 4, 3) := by decide +kernel
theorem dX6_reason_81 : decode cX6_reason 81 = .ok (.iconst 0, 1) := by decide +kernel
theorem dX6_reason_82 : decode cX6_reason 82 = .ok (.ireturn, 1) := by decide +kernel
theorem dX6_isWaiting_0 : decode cX6_isWaiting 0 = .ok (.aload_n 0, 1) := by decide +kernel
theorem dX6_isWaiting_1 : decode cX6_isWaiting 1 = .ok (.iload_n 3, 1) := by decide +kernel
theorem dX6_isWaiting_2 : decode cX6_isWaiting 2 = .ok (.iconst 2, 1) := by decide +kernel
theorem dX6_isWaiting_3 : decode cX6_isWaiting 3 = .ok (.invokevirtual 119, 3) := by decide +kernel
theorem dX6_isWaiting_6 : decode cX6_isWaiting 6 = .ok (.istore 4, 2) := by decide +kernel
theorem dX6_isWaiting_8 : decode cX6_isWaiting 8 = .ok (.aload_n 0, 1) := by decide +kernel
theorem dX6_isWaiting_9 : decode cX6_isWaiting 9 = .ok (.iload_n 1, 1) := by decide +kernel
theorem dX6_isWaiting_10 : decode cX6_isWaiting 10 = .ok (.iload_n 3, 1) := by decide +kernel
theorem dX6_isWaiting_11 : decode cX6_isWaiting 11 = .ok (.invokevirtual 153, 3) := by decide +kernel
theorem dX6_isWaiting_14 : decode cX6_isWaiting 14 = .ok (.iconst 1, 1) := by decide +kernel
theorem dX6_isWaiting_15 : decode cX6_isWaiting 15 = .ok (.if_icmp .ne 7, 3) := by decide +kernel
theorem dX6_isWaiting_18 : decode cX6_isWaiting 18 = .ok (.iconst 1, 1) := by decide +kernel
theorem dX6_isWaiting_19 : decode cX6_isWaiting 19 = .ok (.goto 4, 3) := by decide +kernel
theorem dX6_isWaiting_22 : decode cX6_isWaiting 22 = .ok (.iconst 0, 1) := by decide +kernel
theorem dX6_isWaiting_23 : decode cX6_isWaiting 23 = .ok (.istore 5, 2) := by decide +kernel
theorem dX6_isWaiting_25 : decode cX6_isWaiting 25 = .ok (.aload_n 0, 1) := by decide +kernel
theorem dX6_isWaiting_26 : decode cX6_isWaiting 26 = .ok (.getfield 7, 3) := by decide +kernel
theorem dX6_isWaiting_29 : decode cX6_isWaiting 29 = .ok (.iconst 5, 1) := by decide +kernel
theorem dX6_isWaiting_30 : decode cX6_isWaiting 30 = .ok (.iaload, 1) := by decide +kernel
theorem dX6_isWaiting_31 : decode cX6_isWaiting 31 = .ok (.tableswitch 90 0 2 #[25, 27, 30], 25) := by decide +kernel
theorem dX6_isWaiting_56 : decode cX6_isWaiting 56 = .ok (.iconst 0, 1) := by decide +kernel
theorem dX6_isWaiting_57 : decode cX6_isWaiting 57 = .ok (.ireturn, 1) := by decide +kernel
theorem dX6_isWaiting_58 : decode cX6_isWaiting 58 = .ok (.iload 5, 2) := by decide +kernel
theorem dX6_isWaiting_60 : decode cX6_isWaiting 60 = .ok (.ireturn, 1) := by decide +kernel
theorem dX6_isWaiting_61 : decode cX6_isWaiting 61 = .ok (.iload_n 1, 1) := by decide +kernel
theorem dX6_isWaiting_62 : decode cX6_isWaiting 62 = .ok (.iload 4, 2) := by decide +kernel
theorem dX6_isWaiting_64 : decode cX6_isWaiting 64 = .ok (.if_icmp .ne 7, 3) := by decide +kernel
theorem dX6_isWaiting_67 : decode cX6_isWaiting 67 = .ok (.iconst (-1), 1) := by decide +kernel
theorem dX6_isWaiting_68 : decode cX6_isWaiting 68 = .ok (.goto 10, 3) := by decide +kernel
theorem dX6_isWaiting_71 : decode cX6_isWaiting 71 = .ok (.aload_n 0, 1) := by decide +kernel
theorem dX6_isWaiting_72 : decode cX6_isWaiting 72 = .ok (.iload_n 1, 1) := by decide +kernel
theorem dX6_isWaiting_73 : decode cX6_isWaiting 73 = .ok (.iload 4, 2) := by decide +kernel
theorem dX6_isWaiting_75 : decode cX6_isWaiting 75 = .ok (.invokevirtual 156, 3) := by decide +kernel
theorem dX6_isWaiting_78 : decode cX6_isWaiting 78 = .ok (.istore 6, 2) := by decide +kernel
theorem dX6_isWaiting_80 : decode cX6_isWaiting 80 = .ok (.iload 5, 2) := by decide +kernel
theorem dX6_isWaiting_82 : decode cX6_isWaiting 82 = .ok (.ifCond .eq 37, 3) := by decide +kernel
theorem dX6_isWaiting_85 : decode cX6_isWaiting 85 = .ok (.aload_n 0, 1) := by decide +kernel
theorem dX6_isWaiting_86 : decode cX6_isWaiting 86 = .ok (.iload_n 2, 1) := by decide +kernel
theorem dX6_isWaiting_87 : decode cX6_isWaiting 87 = .ok (.iload 4, 2) := by decide +kernel
theorem dX6_isWaiting_89 : decode cX6_isWaiting 89 = .ok (.invokevirtual 156, 3) := by decide +kernel
theorem dX6_isWaiting_92 : decode cX6_isWaiting 92 = .ok (.ifCond .lt 23, 3) := by decide +kernel
theorem dX6_isWaiting_95 : decode cX6_isWaiting 95 = .ok (.aload_n 0, 1) := by decide +kernel
theorem dX6_isWaiting_96 : decode cX6_isWaiting 96 = .ok (.iload_n 2, 1) := by decide +kernel
theorem dX6_isWaiting_97 : decode cX6_isWaiting 97 = .ok (.iload 4, 2) := by decide +kernel
theorem dX6_isWaiting_99 : decode cX6_isWaiting 99 = .ok (.invokevirtual 156, 3) := by decide +kernel
theorem dX6_isWaiting_102 : decode cX6_isWaiting 102 = .ok (.iload 6, 2) := by decide +kernel
theorem dX6_isWaiting_104 : decode cX6_isWaiting 104 = .ok (.aload_n 0, 1) := by decide +kernel
theorem dX6_isWaiting_105 : decode cX6_isWaiting 105 = .ok (.getfield 7, 3) := by decide +kernel
theorem dX6_isWaiting_108 : decode cX6_isWaiting 108 = .ok (.bipush 7, 2) := by decide +kernel
theorem dX6_isWaiting_110 : decode cX6_isWaiting 110 = .ok (.iaload, 1) := by decide +kernel
theorem dX6_isWaiting_111 : decode cX6_isWaiting 111 = .ok (.iadd, 1) := by decide +kernel
theorem dX6_isWaiting_112 : decode cX6_isWaiting 112 = .ok (.if_icmp .gt 7, 3) := by decide +kernel
theorem dX6_isWaiting_115 : decode cX6_isWaiting 115 = .ok (.iconst 1, 1) := by decide +kernel
theorem dX6_isWaiting_116 : decode cX6_isWaiting 116 = .ok (.goto 4, 3) := by decide +kernel
theorem dX6_isWaiting_119 : decode cX6_isWaiting 119 = .ok (.iconst 0, 1) := by decide +kernel
theorem dX6_isWaiting_120 : decode cX6_isWaiting 120 = .ok (.ireturn, 1) := by decide +kernel
theorem dX6_isWaiting_121 : decode cX6_isWaiting 121 = .ok (.iconst 1, 1) := by decide +kernel
theorem dX6_isWaiting_122 : decode cX6_isWaiting 122 = .ok (.ireturn, 1) := by decide +kernel
theorem dX6_notes_0 : decode cX6_notes 0 = .ok (.aload_n 0, 1) := by decide +kernel
theorem dX6_notes_1 : decode cX6_notes 1 = .ok (.getfield 7, 3) := by decide +kernel
theorem dX6_notes_4 : decode cX6_notes 4 = .ok (.sipush 639, 3) := by decide +kernel
theorem dX6_notes_7 : decode cX6_notes 7 = .ok (.bipush 16, 2) := by decide +kernel
theorem dX6_notes_9 : decode cX6_notes 9 = .ok (.iload_n 1, 1) := by decide +kernel
theorem dX6_notes_10 : decode cX6_notes 10 = .ok (.imul, 1) := by decide +kernel
theorem dX6_notes_11 : decode cX6_notes 11 = .ok (.iadd, 1) := by decide +kernel
theorem dX6_notes_12 : decode cX6_notes 12 = .ok (.iload_n 2, 1) := by decide +kernel
theorem dX6_notes_13 : decode cX6_notes 13 = .ok (.iadd, 1) := by decide +kernel
theorem dX6_notes_14 : decode cX6_notes 14 = .ok (.iconst 1, 1) := by decide +kernel
theorem dX6_notes_15 : decode cX6_notes 15 = .ok (.iastore, 1) := by decide +kernel
theorem dX6_notes_16 : decode cX6_notes 16 = .ok (.return_, 1) := by decide +kernel
theorem dX6_hands_0 : decode cX6_hands 0 = .ok (.aload_n 0, 1) := by decide +kernel
theorem dX6_hands_1 : decode cX6_hands 1 = .ok (.getfield 7, 3) := by decide +kernel
theorem dX6_hands_4 : decode cX6_hands 4 = .ok (.bipush 8, 2) := by decide +kernel
theorem dX6_hands_6 : decode cX6_hands 6 = .ok (.dup2, 1) := by decide +kernel
theorem dX6_hands_7 : decode cX6_hands 7 = .ok (.iaload, 1) := by decide +kernel
theorem dX6_hands_8 : decode cX6_hands 8 = .ok (.iconst 1, 1) := by decide +kernel
theorem dX6_hands_9 : decode cX6_hands 9 = .ok (.iadd, 1) := by decide +kernel
theorem dX6_hands_10 : decode cX6_hands 10 = .ok (.iastore, 1) := by decide +kernel
theorem dX6_hands_11 : decode cX6_hands 11 = .ok (.aload_n 0, 1) := by decide +kernel
theorem dX6_hands_12 : decode cX6_hands 12 = .ok (.iload_n 1, 1) := by decide +kernel
theorem dX6_hands_13 : decode cX6_hands 13 = .ok (.iload_n 3, 1) := by decide +kernel
theorem dX6_hands_14 : decode cX6_hands 14 = .ok (.invokevirtual 153, 3) := by decide +kernel
theorem dX6_hands_17 : decode cX6_hands 17 = .ok (.istore 4, 2) := by decide +kernel
theorem dX6_hands_19 : decode cX6_hands 19 = .ok (.aload_n 0, 1) := by decide +kernel
theorem dX6_hands_20 : decode cX6_hands 20 = .ok (.iload_n 1, 1) := by decide +kernel
theorem dX6_hands_21 : decode cX6_hands 21 = .ok (.iload_n 3, 1) := by decide +kernel
theorem dX6_hands_22 : decode cX6_hands 22 = .ok (.invokevirtual 159, 3) := by decide +kernel
theorem dX6_hands_25 : decode cX6_hands 25 = .ok (.iconst 1, 1) := by decide +kernel
theorem dX6_hands_26 : decode cX6_hands 26 = .ok (.iadd, 1) := by decide +kernel
theorem dX6_hands_27 : decode cX6_hands 27 = .ok (.istore 5, 2) := by decide +kernel
theorem dX6_hands_29 : decode cX6_hands 29 = .ok (.aload_n 0, 1) := by decide +kernel
theorem dX6_hands_30 : decode cX6_hands 30 = .ok (.iload_n 3, 1) := by decide +kernel
theorem dX6_hands_31 : decode cX6_hands 31 = .ok (.iconst 2, 1) := by decide +kernel
theorem dX6_hands_32 : decode cX6_hands 32 = .ok (.invokevirtual 119, 3) := by decide +kernel
theorem dX6_hands_35 : decode cX6_hands 35 = .ok (.iload_n 2, 1) := by decide +kernel
theorem dX6_hands_36 : decode cX6_hands 36 = .ok (.if_icmp .ne 106, 3) := by decide +kernel
theorem dX6_hands_39 : decode cX6_hands 39 = .ok (.aload_n 0, 1) := by decide +kernel
theorem dX6_hands_40 : decode cX6_hands 40 = .ok (.iload_n 3, 1) := by decide +kernel
theorem dX6_hands_41 : decode cX6_hands 41 = .ok (.bipush 6, 2) := by decide +kernel
theorem dX6_hands_43 : decode cX6_hands 43 = .ok (.invokevirtual 119, 3) := by decide +kernel
theorem dX6_hands_46 : decode cX6_hands 46 = .ok (.bipush (-4), 2) := by decide +kernel
theorem dX6_hands_48 : decode cX6_hands 48 = .ok (.if_icmp .ne 75, 3) := by decide +kernel
theorem dX6_hands_51 : decode cX6_hands 51 = .ok (.aload_n 0, 1) := by decide +kernel
theorem dX6_hands_52 : decode cX6_hands 52 = .ok (.getfield 7, 3) := by decide +kernel
theorem dX6_hands_55 : decode cX6_hands 55 = .ok (.bipush 127, 2) := by decide +kernel
theorem dX6_hands_57 : decode cX6_hands 57 = .ok (.bipush 8, 2) := by decide +kernel
theorem dX6_hands_59 : decode cX6_hands 59 = .ok (.iload_n 3, 1) := by decide +kernel
theorem dX6_hands_60 : decode cX6_hands 60 = .ok (.imul, 1) := by decide +kernel
theorem dX6_hands_61 : decode cX6_hands 61 = .ok (.iadd, 1) := by decide +kernel
theorem dX6_hands_62 : decode cX6_hands 62 = .ok (.bipush 6, 2) := by decide +kernel
theorem dX6_hands_64 : decode cX6_hands 64 = .ok (.iadd, 1) := by decide +kernel
theorem dX6_hands_65 : decode cX6_hands 65 = .ok (.aload_n 0, 1) := by decide +kernel
theorem dX6_hands_66 : decode cX6_hands 66 = .ok (.getfield 7, 3) := by decide +kernel
theorem dX6_hands_69 : decode cX6_hands 69 = .ok (.iconst 3, 1) := by decide +kernel
theorem dX6_hands_70 : decode cX6_hands 70 = .ok (.iaload, 1) := by decide +kernel
theorem dX6_hands_71 : decode cX6_hands 71 = .ok (.iastore, 1) := by decide +kernel
theorem dX6_hands_72 : decode cX6_hands 72 = .ok (.aload_n 0, 1) := by decide +kernel
theorem dX6_hands_73 : decode cX6_hands 73 = .ok (.getfield 7, 3) := by decide +kernel
theorem dX6_hands_76 : decode cX6_hands 76 = .ok (.bipush 127, 2) := by decide +kernel
theorem dX6_hands_78 : decode cX6_hands 78 = .ok (.bipush 8, 2) := by decide +kernel
theorem dX6_hands_80 : decode cX6_hands 80 = .ok (.iload_n 3, 1) := by decide +kernel
theorem dX6_hands_81 : decode cX6_hands 81 = .ok (.imul, 1) := by decide +kernel
theorem dX6_hands_82 : decode cX6_hands 82 = .ok (.iadd, 1) := by decide +kernel
theorem dX6_hands_83 : decode cX6_hands 83 = .ok (.bipush 7, 2) := by decide +kernel
theorem dX6_hands_85 : decode cX6_hands 85 = .ok (.iadd, 1) := by decide +kernel
theorem dX6_hands_86 : decode cX6_hands 86 = .ok (.iload 5, 2) := by decide +kernel
theorem dX6_hands_88 : decode cX6_hands 88 = .ok (.iastore, 1) := by decide +kernel
theorem dX6_hands_89 : decode cX6_hands 89 = .ok (.aload_n 0, 1) := by decide +kernel
theorem dX6_hands_90 : decode cX6_hands 90 = .ok (.getfield 7, 3) := by decide +kernel
theorem dX6_hands_93 : decode cX6_hands 93 = .ok (.bipush 9, 2) := by decide +kernel
theorem dX6_hands_95 : decode cX6_hands 95 = .ok (.dup2, 1) := by decide +kernel
theorem dX6_hands_96 : decode cX6_hands 96 = .ok (.iaload, 1) := by decide +kernel
theorem dX6_hands_97 : decode cX6_hands 97 = .ok (.iconst 1, 1) := by decide +kernel
theorem dX6_hands_98 : decode cX6_hands 98 = .ok (.iadd, 1) := by decide +kernel
theorem dX6_hands_99 : decode cX6_hands 99 = .ok (.iastore, 1) := by decide +kernel
theorem dX6_hands_100 : decode cX6_hands 100 = .ok (.aload_n 0, 1) := by decide +kernel
theorem dX6_hands_101 : decode cX6_hands 101 = .ok (.getfield 7, 3) := by decide +kernel
theorem dX6_hands_104 : decode cX6_hands 104 = .ok (.bipush 15, 2) := by decide +kernel
theorem dX6_hands_106 : decode cX6_hands 106 = .ok (.dup2, 1) := by decide +kernel
theorem dX6_hands_107 : decode cX6_hands 107 = .ok (.iaload, 1) := by decide +kernel
theorem dX6_hands_108 : decode cX6_hands 108 = .ok (.aload_n 0, 1) := by decide +kernel
theorem dX6_hands_109 : decode cX6_hands 109 = .ok (.getfield 7, 3) := by decide +kernel
theorem dX6_hands_112 : decode cX6_hands 112 = .ok (.iconst 3, 1) := by decide +kernel
theorem dX6_hands_113 : decode cX6_hands 113 = .ok (.iaload, 1) := by decide +kernel
theorem dX6_hands_114 : decode cX6_hands 114 = .ok (.aload_n 0, 1) := by decide +kernel
theorem dX6_hands_115 : decode cX6_hands 115 = .ok (.iload_n 3, 1) := by decide +kernel
theorem dX6_hands_116 : decode cX6_hands 116 = .ok (.iconst 0, 1) := by decide +kernel
theorem dX6_hands_117 : decode cX6_hands 117 = .ok (.invokevirtual 119, 3) := by decide +kernel
theorem dX6_hands_120 : decode cX6_hands 120 = .ok (.isub, 1) := by decide +kernel
theorem dX6_hands_121 : decode cX6_hands 121 = .ok (.iadd, 1) := by decide +kernel
theorem dX6_hands_122 : decode cX6_hands 122 = .ok (.iastore, 1) := by decide +kernel
theorem dX6_hands_123 : decode cX6_hands 123 = .ok (.aload_n 0, 1) := by decide +kernel
theorem dX6_hands_124 : decode cX6_hands 124 = .ok (.iload_n 1, 1) := by decide +kernel
theorem dX6_hands_125 : decode cX6_hands 125 = .ok (.iload_n 3, 1) := by decide +kernel
theorem dX6_hands_126 : decode cX6_hands 126 = .ok (.invokevirtual 136, 3) := by decide +kernel
theorem dX6_hands_129 : decode cX6_hands 129 = .ok (.aload_n 0, 1) := by decide +kernel
theorem dX6_hands_130 : decode cX6_hands 130 = .ok (.iload_n 1, 1) := by decide +kernel
theorem dX6_hands_131 : decode cX6_hands 131 = .ok (.iload_n 3, 1) := by decide +kernel
theorem dX6_hands_132 : decode cX6_hands 132 = .ok (.invokevirtual 162, 3) := by decide +kernel
theorem dX6_hands_135 : decode cX6_hands 135 = .ok (.aload_n 0, 1) := by decide +kernel
theorem dX6_hands_136 : decode cX6_hands 136 = .ok (.iload_n 2, 1) := by decide +kernel
theorem dX6_hands_137 : decode cX6_hands 137 = .ok (.iload_n 3, 1) := by decide +kernel
theorem dX6_hands_138 : decode cX6_hands 138 = .ok (.invokevirtual 162, 3) := by decide +kernel
theorem dX6_hands_141 : decode cX6_hands 141 = .ok (.return_, 1) := by decide +kernel
theorem dX6_hands_142 : decode cX6_hands 142 = .ok (.aload_n 0, 1) := by decide +kernel
theorem dX6_hands_143 : decode cX6_hands 143 = .ok (.iload_n 2, 1) := by decide +kernel
theorem dX6_hands_144 : decode cX6_hands 144 = .ok (.aload_n 0, 1) := by decide +kernel
theorem dX6_hands_145 : decode cX6_hands 145 = .ok (.iload_n 3, 1) := by decide +kernel
theorem dX6_hands_146 : decode cX6_hands 146 = .ok (.iconst 3, 1) := by decide +kernel
theorem dX6_hands_147 : decode cX6_hands 147 = .ok (.invokevirtual 119, 3) := by decide +kernel
theorem dX6_hands_150 : decode cX6_hands 150 = .ok (.invokevirtual 143, 3) := by decide +kernel
theorem dX6_hands_153 : decode cX6_hands 153 = .ok (.iload 4, 2) := by decide +kernel
theorem dX6_hands_155 : decode cX6_hands 155 = .ok (.iconst 1, 1) := by decide +kernel
theorem dX6_hands_156 : decode cX6_hands 156 = .ok (.if_icmp .le 36, 3) := by decide +kernel
theorem dX6_hands_159 : decode cX6_hands 159 = .ok (.aload_n 0, 1) := by decide +kernel
theorem dX6_hands_160 : decode cX6_hands 160 = .ok (.iload_n 2, 1) := by decide +kernel
theorem dX6_hands_161 : decode cX6_hands 161 = .ok (.iload_n 3, 1) := by decide +kernel
theorem dX6_hands_162 : decode cX6_hands 162 = .ok (.iload 4, 2) := by decide +kernel
theorem dX6_hands_164 : decode cX6_hands 164 = .ok (.iconst 2, 1) := by decide +kernel
theorem dX6_hands_165 : decode cX6_hands 165 = .ok (.idiv, 1) := by decide +kernel
theorem dX6_hands_166 : decode cX6_hands 166 = .ok (.iload 5, 2) := by decide +kernel
theorem dX6_hands_168 : decode cX6_hands 168 = .ok (.invokevirtual 146, 3) := by decide +kernel
theorem dX6_hands_171 : decode cX6_hands 171 = .ok (.aload_n 0, 1) := by decide +kernel
theorem dX6_hands_172 : decode cX6_hands 172 = .ok (.getfield 7, 3) := by decide +kernel
theorem dX6_hands_175 : decode cX6_hands 175 = .ok (.aload_n 0, 1) := by decide +kernel
theorem dX6_hands_176 : decode cX6_hands 176 = .ok (.iload_n 1, 1) := by decide +kernel
theorem dX6_hands_177 : decode cX6_hands 177 = .ok (.iload_n 3, 1) := by decide +kernel
theorem dX6_hands_178 : decode cX6_hands 178 = .ok (.invokevirtual 112, 3) := by decide +kernel
theorem dX6_hands_181 : decode cX6_hands 181 = .ok (.iload 4, 2) := by decide +kernel
theorem dX6_hands_183 : decode cX6_hands 183 = .ok (.iload 4, 2) := by decide +kernel
theorem dX6_hands_185 : decode cX6_hands 185 = .ok (.iconst 2, 1) := by decide +kernel
theorem dX6_hands_186 : decode cX6_hands 186 = .ok (.idiv, 1) := by decide +kernel
theorem dX6_hands_187 : decode cX6_hands 187 = .ok (.isub, 1) := by decide +kernel
theorem dX6_hands_188 : decode cX6_hands 188 = .ok (.iastore, 1) := by decide +kernel
theorem dX6_hands_189 : decode cX6_hands 189 = .ok (.goto 28, 3) := by decide +kernel
theorem dX6_hands_192 : decode cX6_hands 192 = .ok (.aload_n 0, 1) := by decide +kernel
theorem dX6_hands_193 : decode cX6_hands 193 = .ok (.iload_n 2, 1) := by decide +kernel
theorem dX6_hands_194 : decode cX6_hands 194 = .ok (.iload_n 3, 1) := by decide +kernel
theorem dX6_hands_195 : decode cX6_hands 195 = .ok (.iconst 1, 1) := by decide +kernel
theorem dX6_hands_196 : decode cX6_hands 196 = .ok (.iload 5, 2) := by decide +kernel
theorem dX6_hands_198 : decode cX6_hands 198 = .ok (.invokevirtual 146, 3) := by decide +kernel
theorem dX6_hands_201 : decode cX6_hands 201 = .ok (.aload_n 0, 1) := by decide +kernel
theorem dX6_hands_202 : decode cX6_hands 202 = .ok (.getfield 7, 3) := by decide +kernel
theorem dX6_hands_205 : decode cX6_hands 205 = .ok (.iconst 5, 1) := by decide +kernel
theorem dX6_hands_206 : decode cX6_hands 206 = .ok (.iaload, 1) := by decide +kernel
theorem dX6_hands_207 : decode cX6_hands 207 = .ok (.iconst 2, 1) := by decide +kernel
theorem dX6_hands_208 : decode cX6_hands 208 = .ok (.if_icmp .ne 9, 3) := by decide +kernel
theorem dX6_hands_211 : decode cX6_hands 211 = .ok (.aload_n 0, 1) := by decide +kernel
theorem dX6_hands_212 : decode cX6_hands 212 = .ok (.iload_n 1, 1) := by decide +kernel
theorem dX6_hands_213 : decode cX6_hands 213 = .ok (.iload_n 3, 1) := by decide +kernel
theorem dX6_hands_214 : decode cX6_hands 214 = .ok (.invokevirtual 136, 3) := by decide +kernel
theorem dX6_hands_217 : decode cX6_hands 217 = .ok (.return_, 1) := by decide +kernel
theorem dX6_nextOf_0 : decode cX6_nextOf 0 = .ok (.bipush (-4), 2) := by decide +kernel
theorem dX6_nextOf_2 : decode cX6_nextOf 2 = .ok (.istore_n 3, 1) := by decide +kernel
theorem dX6_nextOf_3 : decode cX6_nextOf 3 = .ok (.iconst 0, 1) := by decide +kernel
theorem dX6_nextOf_4 : decode cX6_nextOf 4 = .ok (.istore 4, 2) := by decide +kernel
theorem dX6_nextOf_6 : decode cX6_nextOf 6 = .ok (.iload 4, 2) := by decide +kernel
theorem dX6_nextOf_8 : decode cX6_nextOf 8 = .ok (.aload_n 0, 1) := by decide +kernel
theorem dX6_nextOf_9 : decode cX6_nextOf 9 = .ok (.getfield 7, 3) := by decide +kernel
theorem dX6_nextOf_12 : decode cX6_nextOf 12 = .ok (.iconst 2, 1) := by decide +kernel
theorem dX6_nextOf_13 : decode cX6_nextOf 13 = .ok (.iaload, 1) := by decide +kernel
theorem dX6_nextOf_14 : decode cX6_nextOf 14 = .ok (.if_icmp .ge 106, 3) := by decide +kernel
theorem dX6_nextOf_17 : decode cX6_nextOf 17 = .ok (.aload_n 0, 1) := by decide +kernel
theorem dX6_nextOf_18 : decode cX6_nextOf 18 = .ok (.getfield 32, 3) := by decide +kernel
theorem dX6_nextOf_21 : decode cX6_nextOf 21 = .ok (.iload 4, 2) := by decide +kernel
theorem dX6_nextOf_23 : decode cX6_nextOf 23 = .ok (.baload, 1) := by decide +kernel
theorem dX6_nextOf_24 : decode cX6_nextOf 24 = .ok (.ifCond .eq 90, 3) := by decide +kernel
theorem dX6_nextOf_27 : decode cX6_nextOf 27 = .ok (.aload_n 0, 1) := by decide +kernel
theorem dX6_nextOf_28 : decode cX6_nextOf 28 = .ok (.iload 4, 2) := by decide +kernel
theorem dX6_nextOf_30 : decode cX6_nextOf 30 = .ok (.iconst 2, 1) := by decide +kernel
theorem dX6_nextOf_31 : decode cX6_nextOf 31 = .ok (.invokevirtual 119, 3) := by decide +kernel
theorem dX6_nextOf_34 : decode cX6_nextOf 34 = .ok (.iload_n 2, 1) := by decide +kernel
theorem dX6_nextOf_35 : decode cX6_nextOf 35 = .ok (.if_icmp .ne 7, 3) := by decide +kernel
theorem dX6_nextOf_38 : decode cX6_nextOf 38 = .ok (.iconst 1, 1) := by decide +kernel
theorem dX6_nextOf_39 : decode cX6_nextOf 39 = .ok (.goto 4, 3) := by decide +kernel
theorem dX6_nextOf_42 : decode cX6_nextOf 42 = .ok (.iconst 0, 1) := by decide +kernel
theorem dX6_nextOf_43 : decode cX6_nextOf 43 = .ok (.istore 5, 2) := by decide +kernel
theorem dX6_nextOf_45 : decode cX6_nextOf 45 = .ok (.iload_n 3, 1) := by decide +kernel
theorem dX6_nextOf_46 : decode cX6_nextOf 46 = .ok (.bipush (-4), 2) := by decide +kernel
theorem dX6_nextOf_48 : decode cX6_nextOf 48 = .ok (.if_icmp .eq 17, 3) := by decide +kernel
theorem dX6_nextOf_51 : decode cX6_nextOf 51 = .ok (.aload_n 0, 1) := by decide +kernel
theorem dX6_nextOf_52 : decode cX6_nextOf 52 = .ok (.iload_n 3, 1) := by decide +kernel
theorem dX6_nextOf_53 : decode cX6_nextOf 53 = .ok (.iconst 2, 1) := by decide +kernel
theorem dX6_nextOf_54 : decode cX6_nextOf 54 = .ok (.invokevirtual 119, 3) := by decide +kernel
theorem dX6_nextOf_57 : decode cX6_nextOf 57 = .ok (.iload_n 2, 1) := by decide +kernel
theorem dX6_nextOf_58 : decode cX6_nextOf 58 = .ok (.if_icmp .ne 7, 3) := by decide +kernel
theorem dX6_nextOf_61 : decode cX6_nextOf 61 = .ok (.iconst 1, 1) := by decide +kernel
theorem dX6_nextOf_62 : decode cX6_nextOf 62 = .ok (.goto 4, 3) := by decide +kernel
theorem dX6_nextOf_65 : decode cX6_nextOf 65 = .ok (.iconst 0, 1) := by decide +kernel
theorem dX6_nextOf_66 : decode cX6_nextOf 66 = .ok (.istore 6, 2) := by decide +kernel
theorem dX6_nextOf_68 : decode cX6_nextOf 68 = .ok (.iload_n 3, 1) := by decide +kernel
theorem dX6_nextOf_69 : decode cX6_nextOf 69 = .ok (.bipush (-4), 2) := by decide +kernel
theorem dX6_nextOf_71 : decode cX6_nextOf 71 = .ok (.if_icmp .eq 36, 3) := by decide +kernel
theorem dX6_nextOf_74 : decode cX6_nextOf 74 = .ok (.iload 5, 2) := by decide +kernel
theorem dX6_nextOf_76 : decode cX6_nextOf 76 = .ok (.ifCond .eq 8, 3) := by decide +kernel
theorem dX6_nextOf_79 : decode cX6_nextOf 79 = .ok (.iload 6, 2) := by decide +kernel
theorem dX6_nextOf_81 : decode cX6_nextOf 81 = .ok (.ifCond .eq 26, 3) := by decide +kernel
theorem dX6_nextOf_84 : decode cX6_nextOf 84 = .ok (.iload 5, 2) := by decide +kernel
theorem dX6_nextOf_86 : decode cX6_nextOf 86 = .ok (.iload 6, 2) := by decide +kernel
theorem dX6_nextOf_88 : decode cX6_nextOf 88 = .ok (.if_icmp .ne 24, 3) := by decide +kernel
theorem dX6_nextOf_91 : decode cX6_nextOf 91 = .ok (.aload_n 0, 1) := by decide +kernel
theorem dX6_nextOf_92 : decode cX6_nextOf 92 = .ok (.iload_n 1, 1) := by decide +kernel
theorem dX6_nextOf_93 : decode cX6_nextOf 93 = .ok (.iload 4, 2) := by decide +kernel
theorem dX6_nextOf_95 : decode cX6_nextOf 95 = .ok (.invokevirtual 159, 3) := by decide +kernel
theorem dX6_nextOf_98 : decode cX6_nextOf 98 = .ok (.aload_n 0, 1) := by decide +kernel
theorem dX6_nextOf_99 : decode cX6_nextOf 99 = .ok (.iload_n 1, 1) := by decide +kernel
theorem dX6_nextOf_100 : decode cX6_nextOf 100 = .ok (.iload_n 3, 1) := by decide +kernel
theorem dX6_nextOf_101 : decode cX6_nextOf 101 = .ok (.invokevirtual 159, 3) := by decide +kernel
theorem dX6_nextOf_104 : decode cX6_nextOf 104 = .ok (.if_icmp .ge 8, 3) := by decide +kernel
theorem dX6_nextOf_107 : decode cX6_nextOf 107 = .ok (.iload 4, 2) := by decide +kernel
theorem dX6_nextOf_109 : decode cX6_nextOf 109 = .ok (.goto 4, 3) := by decide +kernel
theorem dX6_nextOf_112 : decode cX6_nextOf 112 = .ok (.iload_n 3, 1) := by decide +kernel
theorem dX6_nextOf_113 : decode cX6_nextOf 113 = .ok (.istore_n 3, 1) := by decide +kernel
theorem dX6_nextOf_114 : decode cX6_nextOf 114 = .ok (.iinc 4 1, 3) := by decide +kernel
theorem dX6_nextOf_117 : decode cX6_nextOf 117 = .ok (.goto (-111), 3) := by decide +kernel
theorem dX6_nextOf_120 : decode cX6_nextOf 120 = .ok (.iload_n 3, 1) := by decide +kernel
theorem dX6_nextOf_121 : decode cX6_nextOf 121 = .ok (.ireturn, 1) := by decide +kernel
theorem dX6_refuses_0 : decode cX6_refuses 0 = .ok (.aload_n 0, 1) := by decide +kernel
theorem dX6_refuses_1 : decode cX6_refuses 1 = .ok (.getfield 165, 3) := by decide +kernel
theorem dX6_refuses_4 : decode cX6_refuses 4 = .ok (.ifCond .ne 91, 3) := by decide +kernel
theorem dX6_refuses_7 : decode cX6_refuses 7 = .ok (.aload_n 0, 1) := by decide +kernel
theorem dX6_refuses_8 : decode cX6_refuses 8 = .ok (.iconst 1, 1) := by decide +kernel
theorem dX6_refuses_9 : decode cX6_refuses 9 = .ok (.putfield 165, 3) := by decide +kernel
theorem dX6_refuses_12 : decode cX6_refuses 12 = .ok (.aload_n 0, 1) := by decide +kernel
theorem dX6_refuses_13 : decode cX6_refuses 13 = .ok (.getfield 7, 3) := by decide +kernel
theorem dX6_refuses_16 : decode cX6_refuses 16 = .ok (.bipush 22, 2) := by decide +kernel
theorem dX6_refuses_18 : decode cX6_refuses 18 = .ok (.iconst 1, 1) := by decide +kernel
theorem dX6_refuses_19 : decode cX6_refuses 19 = .ok (.iastore, 1) := by decide +kernel
theorem dX6_refuses_20 : decode cX6_refuses 20 = .ok (.aload_n 0, 1) := by decide +kernel
theorem dX6_refuses_21 : decode cX6_refuses 21 = .ok (.getfield 7, 3) := by decide +kernel
theorem dX6_refuses_24 : decode cX6_refuses 24 = .ok (.bipush 16, 2) := by decide +kernel
theorem dX6_refuses_26 : decode cX6_refuses 26 = .ok (.iload 4, 2) := by decide +kernel
theorem dX6_refuses_28 : decode cX6_refuses 28 = .ok (.iastore, 1) := by decide +kernel
theorem dX6_refuses_29 : decode cX6_refuses 29 = .ok (.aload_n 0, 1) := by decide +kernel
theorem dX6_refuses_30 : decode cX6_refuses 30 = .ok (.getfield 7, 3) := by decide +kernel
theorem dX6_refuses_33 : decode cX6_refuses 33 = .ok (.bipush 17, 2) := by decide +kernel
theorem dX6_refuses_35 : decode cX6_refuses 35 = .ok (.iload 4, 2) := by decide +kernel
theorem dX6_refuses_37 : decode cX6_refuses 37 = .ok (.iconst 4, 1) := by decide +kernel
theorem dX6_refuses_38 : decode cX6_refuses 38 = .ok (.if_icmp .ne 17, 3) := by decide +kernel
theorem dX6_refuses_41 : decode cX6_refuses 41 = .ok (.aload_n 0, 1) := by decide +kernel
theorem dX6_refuses_42 : decode cX6_refuses 42 = .ok (.iload_n 2, 1) := by decide +kernel
theorem dX6_refuses_43 : decode cX6_refuses 43 = .ok (.aload_n 0, 1) := by decide +kernel
theorem dX6_refuses_44 : decode cX6_refuses 44 = .ok (.iload_n 3, 1) := by decide +kernel
theorem dX6_refuses_45 : decode cX6_refuses 45 = .ok (.iconst 3, 1) := by decide +kernel
theorem dX6_refuses_46 : decode cX6_refuses 46 = .ok (.invokevirtual 119, 3) := by decide +kernel
theorem dX6_refuses_49 : decode cX6_refuses 49 = .ok (.invokevirtual 140, 3) := by decide +kernel
theorem dX6_refuses_52 : decode cX6_refuses 52 = .ok (.goto 5, 3) := by decide +kernel
theorem dX6_refuses_55 : decode cX6_refuses 55 = .ok (.bipush (-4), 2) := by decide +kernel
theorem dX6_refuses_57 : decode cX6_refuses 57 = .ok (.iastore, 1) := by decide +kernel
theorem dX6_refuses_58 : decode cX6_refuses 58 = .ok (.aload_n 0, 1) := by decide +kernel
theorem dX6_refuses_59 : decode cX6_refuses 59 = .ok (.getfield 7, 3) := by decide +kernel
theorem dX6_refuses_62 : decode cX6_refuses 62 = .ok (.bipush 18, 2) := by decide +kernel
theorem dX6_refuses_64 : decode cX6_refuses 64 = .ok (.iload_n 3, 1) := by decide +kernel
theorem dX6_refuses_65 : decode cX6_refuses 65 = .ok (.iastore, 1) := by decide +kernel
theorem dX6_refuses_66 : decode cX6_refuses 66 = .ok (.aload_n 0, 1) := by decide +kernel
theorem dX6_refuses_67 : decode cX6_refuses 67 = .ok (.getfield 7, 3) := by decide +kernel
theorem dX6_refuses_70 : decode cX6_refuses 70 = .ok (.bipush 19, 2) := by decide +kernel
theorem dX6_refuses_72 : decode cX6_refuses 72 = .ok (.iload_n 1, 1) := by decide +kernel
theorem dX6_refuses_73 : decode cX6_refuses 73 = .ok (.iastore, 1) := by decide +kernel
theorem dX6_refuses_74 : decode cX6_refuses 74 = .ok (.aload_n 0, 1) := by decide +kernel
theorem dX6_refuses_75 : decode cX6_refuses 75 = .ok (.getfield 7, 3) := by decide +kernel
theorem dX6_refuses_78 : decode cX6_refuses 78 = .ok (.bipush 20, 2) := by decide +kernel
theorem dX6_refuses_80 : decode cX6_refuses 80 = .ok (.iload_n 2, 1) := by decide +kernel
theorem dX6_refuses_81 : decode cX6_refuses 81 = .ok (.iastore, 1) := by decide +kernel
theorem dX6_refuses_82 : decode cX6_refuses 82 = .ok (.aload_n 0, 1) := by decide +kernel
theorem dX6_refuses_83 : decode cX6_refuses 83 = .ok (.getfield 7, 3) := by decide +kernel
theorem dX6_refuses_86 : decode cX6_refuses 86 = .ok (.bipush 21, 2) := by decide +kernel
theorem dX6_refuses_88 : decode cX6_refuses 88 = .ok (.aload_n 0, 1) := by decide +kernel
theorem dX6_refuses_89 : decode cX6_refuses 89 = .ok (.getfield 7, 3) := by decide +kernel
theorem dX6_refuses_92 : decode cX6_refuses 92 = .ok (.iconst 3, 1) := by decide +kernel
theorem dX6_refuses_93 : decode cX6_refuses 93 = .ok (.iaload, 1) := by decide +kernel
theorem dX6_refuses_94 : decode cX6_refuses 94 = .ok (.iastore, 1) := by decide +kernel
theorem dX6_refuses_95 : decode cX6_refuses 95 = .ok (.return_, 1) := by decide +kernel
theorem dX6_handsAll_0 : decode cX6_handsAll 0 = .ok (.iconst 0, 1) := by decide +kernel
theorem dX6_handsAll_1 : decode cX6_handsAll 1 = .ok (.istore_n 3, 1) := by decide +kernel
theorem dX6_handsAll_2 : decode cX6_handsAll 2 = .ok (.iload_n 3, 1) := by decide +kernel
theorem dX6_handsAll_3 : decode cX6_handsAll 3 = .ok (.bipush 16, 2) := by decide +kernel
theorem dX6_handsAll_5 : decode cX6_handsAll 5 = .ok (.if_icmp .ge 39, 3) := by decide +kernel
theorem dX6_handsAll_8 : decode cX6_handsAll 8 = .ok (.aload_n 0, 1) := by decide +kernel
theorem dX6_handsAll_9 : decode cX6_handsAll 9 = .ok (.getfield 32, 3) := by decide +kernel
theorem dX6_handsAll_12 : decode cX6_handsAll 12 = .ok (.iload_n 3, 1) := by decide +kernel
theorem dX6_handsAll_13 : decode cX6_handsAll 13 = .ok (.iload_n 3, 1) := by decide +kernel
theorem dX6_handsAll_14 : decode cX6_handsAll 14 = .ok (.aload_n 0, 1) := by decide +kernel
theorem dX6_handsAll_15 : decode cX6_handsAll 15 = .ok (.getfield 7, 3) := by decide +kernel
theorem dX6_handsAll_18 : decode cX6_handsAll 18 = .ok (.iconst 2, 1) := by decide +kernel
theorem dX6_handsAll_19 : decode cX6_handsAll 19 = .ok (.iaload, 1) := by decide +kernel
theorem dX6_handsAll_20 : decode cX6_handsAll 20 = .ok (.if_icmp .ge 16, 3) := by decide +kernel
theorem dX6_handsAll_23 : decode cX6_handsAll 23 = .ok (.aload_n 0, 1) := by decide +kernel
theorem dX6_handsAll_24 : decode cX6_handsAll 24 = .ok (.iload_n 1, 1) := by decide +kernel
theorem dX6_handsAll_25 : decode cX6_handsAll 25 = .ok (.iload_n 3, 1) := by decide +kernel
theorem dX6_handsAll_26 : decode cX6_handsAll 26 = .ok (.invokevirtual 115, 3) := by decide +kernel
theorem dX6_handsAll_29 : decode cX6_handsAll 29 = .ok (.ifCond .eq 7, 3) := by decide +kernel
theorem dX6_handsAll_32 : decode cX6_handsAll 32 = .ok (.iconst 1, 1) := by decide +kernel
theorem dX6_handsAll_33 : decode cX6_handsAll 33 = .ok (.goto 4, 3) := by decide +kernel
theorem dX6_handsAll_36 : decode cX6_handsAll 36 = .ok (.iconst 0, 1) := by decide +kernel
theorem dX6_handsAll_37 : decode cX6_handsAll 37 = .ok (.bastore, 1) := by decide +kernel
theorem dX6_handsAll_38 : decode cX6_handsAll 38 = .ok (.iinc 3 1, 3) := by decide +kernel
theorem dX6_handsAll_41 : decode cX6_handsAll 41 = .ok (.goto (-39), 3) := by decide +kernel
theorem dX6_handsAll_44 : decode cX6_handsAll 44 = .ok (.aload_n 0, 1) := by decide +kernel
theorem dX6_handsAll_45 : decode cX6_handsAll 45 = .ok (.iload_n 1, 1) := by decide +kernel
theorem dX6_handsAll_46 : decode cX6_handsAll 46 = .ok (.iload_n 2, 1) := by decide +kernel
theorem dX6_handsAll_47 : decode cX6_handsAll 47 = .ok (.invokevirtual 169, 3) := by decide +kernel
theorem dX6_handsAll_50 : decode cX6_handsAll 50 = .ok (.istore_n 3, 1) := by decide +kernel
theorem dX6_handsAll_51 : decode cX6_handsAll 51 = .ok (.iload_n 3, 1) := by decide +kernel
theorem dX6_handsAll_52 : decode cX6_handsAll 52 = .ok (.bipush (-4), 2) := by decide +kernel
theorem dX6_handsAll_54 : decode cX6_handsAll 54 = .ok (.if_icmp .eq 72, 3) := by decide +kernel
theorem dX6_handsAll_57 : decode cX6_handsAll 57 = .ok (.aload_n 0, 1) := by decide +kernel
theorem dX6_handsAll_58 : decode cX6_handsAll 58 = .ok (.iload_n 1, 1) := by decide +kernel
theorem dX6_handsAll_59 : decode cX6_handsAll 59 = .ok (.iload_n 2, 1) := by decide +kernel
theorem dX6_handsAll_60 : decode cX6_handsAll 60 = .ok (.iload_n 3, 1) := by decide +kernel
theorem dX6_handsAll_61 : decode cX6_handsAll 61 = .ok (.aload_n 0, 1) := by decide +kernel
theorem dX6_handsAll_62 : decode cX6_handsAll 62 = .ok (.getfield 172, 3) := by decide +kernel
theorem dX6_handsAll_65 : decode cX6_handsAll 65 = .ok (.invokevirtual 175, 3) := by decide +kernel
theorem dX6_handsAll_68 : decode cX6_handsAll 68 = .ok (.istore 4, 2) := by decide +kernel
theorem dX6_handsAll_70 : decode cX6_handsAll 70 = .ok (.iload 4, 2) := by decide +kernel
theorem dX6_handsAll_72 : decode cX6_handsAll 72 = .ok (.ifCond .ne 28, 3) := by decide +kernel
theorem dX6_handsAll_75 : decode cX6_handsAll 75 = .ok (.aload_n 0, 1) := by decide +kernel
theorem dX6_handsAll_76 : decode cX6_handsAll 76 = .ok (.dup, 1) := by decide +kernel
theorem dX6_handsAll_77 : decode cX6_handsAll 77 = .ok (.getfield 172, 3) := by decide +kernel
theorem dX6_handsAll_80 : decode cX6_handsAll 80 = .ok (.aload_n 0, 1) := by decide +kernel
theorem dX6_handsAll_81 : decode cX6_handsAll 81 = .ok (.iload_n 3, 1) := by decide +kernel
theorem dX6_handsAll_82 : decode cX6_handsAll 82 = .ok (.iconst 3, 1) := by decide +kernel
theorem dX6_handsAll_83 : decode cX6_handsAll 83 = .ok (.invokevirtual 119, 3) := by decide +kernel
theorem dX6_handsAll_86 : decode cX6_handsAll 86 = .ok (.isub, 1) := by decide +kernel
theorem dX6_handsAll_87 : decode cX6_handsAll 87 = .ok (.putfield 172, 3) := by decide +kernel
theorem dX6_handsAll_90 : decode cX6_handsAll 90 = .ok (.aload_n 0, 1) := by decide +kernel
theorem dX6_handsAll_91 : decode cX6_handsAll 91 = .ok (.iload_n 1, 1) := by decide +kernel
theorem dX6_handsAll_92 : decode cX6_handsAll 92 = .ok (.iload_n 2, 1) := by decide +kernel
theorem dX6_handsAll_93 : decode cX6_handsAll 93 = .ok (.iload_n 3, 1) := by decide +kernel
theorem dX6_handsAll_94 : decode cX6_handsAll 94 = .ok (.invokevirtual 179, 3) := by decide +kernel
theorem dX6_handsAll_97 : decode cX6_handsAll 97 = .ok (.goto 12, 3) := by decide +kernel
theorem dX6_handsAll_100 : decode cX6_handsAll 100 = .ok (.aload_n 0, 1) := by decide +kernel
theorem dX6_handsAll_101 : decode cX6_handsAll 101 = .ok (.iload_n 1, 1) := by decide +kernel
theorem dX6_handsAll_102 : decode cX6_handsAll 102 = .ok (.iload_n 2, 1) := by decide +kernel
theorem dX6_handsAll_103 : decode cX6_handsAll 103 = .ok (.iload_n 3, 1) := by decide +kernel
theorem dX6_handsAll_104 : decode cX6_handsAll 104 = .ok (.iload 4, 2) := by decide +kernel
theorem dX6_handsAll_106 : decode cX6_handsAll 106 = .ok (.invokevirtual 183, 3) := by decide +kernel
theorem dX6_handsAll_109 : decode cX6_handsAll 109 = .ok (.aload_n 0, 1) := by decide +kernel
theorem dX6_handsAll_110 : decode cX6_handsAll 110 = .ok (.getfield 32, 3) := by decide +kernel
theorem dX6_handsAll_113 : decode cX6_handsAll 113 = .ok (.iload_n 3, 1) := by decide +kernel
theorem dX6_handsAll_114 : decode cX6_handsAll 114 = .ok (.iconst 0, 1) := by decide +kernel
theorem dX6_handsAll_115 : decode cX6_handsAll 115 = .ok (.bastore, 1) := by decide +kernel
theorem dX6_handsAll_116 : decode cX6_handsAll 116 = .ok (.aload_n 0, 1) := by decide +kernel
theorem dX6_handsAll_117 : decode cX6_handsAll 117 = .ok (.iload_n 1, 1) := by decide +kernel
theorem dX6_handsAll_118 : decode cX6_handsAll 118 = .ok (.iload_n 2, 1) := by decide +kernel
theorem dX6_handsAll_119 : decode cX6_handsAll 119 = .ok (.invokevirtual 169, 3) := by decide +kernel
theorem dX6_handsAll_122 : decode cX6_handsAll 122 = .ok (.istore_n 3, 1) := by decide +kernel
theorem dX6_handsAll_123 : decode cX6_handsAll 123 = .ok (.goto (-72), 3) := by decide +kernel
theorem dX6_handsAll_126 : decode cX6_handsAll 126 = .ok (.return_, 1) := by decide +kernel
theorem dX6_cures_0 : decode cX6_cures 0 = .ok (.iconst 0, 1) := by decide +kernel
theorem dX6_cures_1 : decode cX6_cures 1 = .ok (.istore_n 2, 1) := by decide +kernel
theorem dX6_cures_2 : decode cX6_cures 2 = .ok (.iload_n 2, 1) := by decide +kernel
theorem dX6_cures_3 : decode cX6_cures 3 = .ok (.aload_n 0, 1) := by decide +kernel
theorem dX6_cures_4 : decode cX6_cures 4 = .ok (.getfield 7, 3) := by decide +kernel
theorem dX6_cures_7 : decode cX6_cures 7 = .ok (.iconst 2, 1) := by decide +kernel
theorem dX6_cures_8 : decode cX6_cures 8 = .ok (.iaload, 1) := by decide +kernel
theorem dX6_cures_9 : decode cX6_cures 9 = .ok (.if_icmp .ge 44, 3) := by decide +kernel
theorem dX6_cures_12 : decode cX6_cures 12 = .ok (.aload_n 0, 1) := by decide +kernel
theorem dX6_cures_13 : decode cX6_cures 13 = .ok (.iload_n 1, 1) := by decide +kernel
theorem dX6_cures_14 : decode cX6_cures 14 = .ok (.iload_n 2, 1) := by decide +kernel
theorem dX6_cures_15 : decode cX6_cures 15 = .ok (.invokevirtual 115, 3) := by decide +kernel
theorem dX6_cures_18 : decode cX6_cures 18 = .ok (.ifCond .eq 29, 3) := by decide +kernel
theorem dX6_cures_21 : decode cX6_cures 21 = .ok (.aload_n 0, 1) := by decide +kernel
theorem dX6_cures_22 : decode cX6_cures 22 = .ok (.iload_n 1, 1) := by decide +kernel
theorem dX6_cures_23 : decode cX6_cures 23 = .ok (.iload_n 2, 1) := by decide +kernel
theorem dX6_cures_24 : decode cX6_cures 24 = .ok (.invokevirtual 186, 3) := by decide +kernel
theorem dX6_cures_27 : decode cX6_cures 27 = .ok (.ifCond .eq 20, 3) := by decide +kernel
theorem dX6_cures_30 : decode cX6_cures 30 = .ok (.aload_n 0, 1) := by decide +kernel
theorem dX6_cures_31 : decode cX6_cures 31 = .ok (.iload_n 1, 1) := by decide +kernel
theorem dX6_cures_32 : decode cX6_cures 32 = .ok (.iload_n 2, 1) := by decide +kernel
theorem dX6_cures_33 : decode cX6_cures 33 = .ok (.invokevirtual 136, 3) := by decide +kernel
theorem dX6_cures_36 : decode cX6_cures 36 = .ok (.aload_n 0, 1) := by decide +kernel
theorem dX6_cures_37 : decode cX6_cures 37 = .ok (.getfield 7, 3) := by decide +kernel
theorem dX6_cures_40 : decode cX6_cures 40 = .ok (.bipush 11, 2) := by decide +kernel
theorem dX6_cures_42 : decode cX6_cures 42 = .ok (.dup2, 1) := by decide +kernel
theorem dX6_cures_43 : decode cX6_cures 43 = .ok (.iaload, 1) := by decide +kernel
theorem dX6_cures_44 : decode cX6_cures 44 = .ok (.iconst 1, 1) := by decide +kernel
theorem dX6_cures_45 : decode cX6_cures 45 = .ok (.iadd, 1) := by decide +kernel
theorem dX6_cures_46 : decode cX6_cures 46 = .ok (.iastore, 1) := by decide +kernel
theorem dX6_cures_47 : decode cX6_cures 47 = .ok (.iinc 2 1, 3) := by decide +kernel
theorem dX6_cures_50 : decode cX6_cures 50 = .ok (.goto (-48), 3) := by decide +kernel
theorem dX6_cures_53 : decode cX6_cures 53 = .ok (.return_, 1) := by decide +kernel
theorem dX6_meets_0 : decode cX6_meets 0 = .ok (.aload_n 0, 1) := by decide +kernel
theorem dX6_meets_1 : decode cX6_meets 1 = .ok (.getfield 7, 3) := by decide +kernel
theorem dX6_meets_4 : decode cX6_meets 4 = .ok (.bipush 14, 2) := by decide +kernel
theorem dX6_meets_6 : decode cX6_meets 6 = .ok (.dup2, 1) := by decide +kernel
theorem dX6_meets_7 : decode cX6_meets 7 = .ok (.iaload, 1) := by decide +kernel
theorem dX6_meets_8 : decode cX6_meets 8 = .ok (.iconst 1, 1) := by decide +kernel
theorem dX6_meets_9 : decode cX6_meets 9 = .ok (.iadd, 1) := by decide +kernel
theorem dX6_meets_10 : decode cX6_meets 10 = .ok (.iastore, 1) := by decide +kernel
theorem dX6_meets_11 : decode cX6_meets 11 = .ok (.iconst 0, 1) := by decide +kernel
theorem dX6_meets_12 : decode cX6_meets 12 = .ok (.istore 4, 2) := by decide +kernel
theorem dX6_meets_14 : decode cX6_meets 14 = .ok (.iload 4, 2) := by decide +kernel
theorem dX6_meets_16 : decode cX6_meets 16 = .ok (.aload_n 0, 1) := by decide +kernel
theorem dX6_meets_17 : decode cX6_meets 17 = .ok (.getfield 7, 3) := by decide +kernel
theorem dX6_meets_20 : decode cX6_meets 20 = .ok (.iconst 2, 1) := by decide +kernel
theorem dX6_meets_21 : decode cX6_meets 21 = .ok (.iaload, 1) := by decide +kernel
theorem dX6_meets_22 : decode cX6_meets 22 = .ok (.if_icmp .ge 43, 3) := by decide +kernel
theorem dX6_meets_25 : decode cX6_meets 25 = .ok (.aload_n 0, 1) := by decide +kernel
theorem dX6_meets_26 : decode cX6_meets 26 = .ok (.iload_n 1, 1) := by decide +kernel
theorem dX6_meets_27 : decode cX6_meets 27 = .ok (.iload 4, 2) := by decide +kernel
theorem dX6_meets_29 : decode cX6_meets 29 = .ok (.invokevirtual 186, 3) := by decide +kernel
theorem dX6_meets_32 : decode cX6_meets 32 = .ok (.ifCond .ne 13, 3) := by decide +kernel
theorem dX6_meets_35 : decode cX6_meets 35 = .ok (.aload_n 0, 1) := by decide +kernel
theorem dX6_meets_36 : decode cX6_meets 36 = .ok (.iload_n 2, 1) := by decide +kernel
theorem dX6_meets_37 : decode cX6_meets 37 = .ok (.iload 4, 2) := by decide +kernel
theorem dX6_meets_39 : decode cX6_meets 39 = .ok (.invokevirtual 186, 3) := by decide +kernel
theorem dX6_meets_42 : decode cX6_meets 42 = .ok (.ifCond .eq 17, 3) := by decide +kernel
theorem dX6_meets_45 : decode cX6_meets 45 = .ok (.aload_n 0, 1) := by decide +kernel
theorem dX6_meets_46 : decode cX6_meets 46 = .ok (.iload_n 1, 1) := by decide +kernel
theorem dX6_meets_47 : decode cX6_meets 47 = .ok (.iload 4, 2) := by decide +kernel
theorem dX6_meets_49 : decode cX6_meets 49 = .ok (.invokevirtual 162, 3) := by decide +kernel
theorem dX6_meets_52 : decode cX6_meets 52 = .ok (.aload_n 0, 1) := by decide +kernel
theorem dX6_meets_53 : decode cX6_meets 53 = .ok (.iload_n 2, 1) := by decide +kernel
theorem dX6_meets_54 : decode cX6_meets 54 = .ok (.iload 4, 2) := by decide +kernel
theorem dX6_meets_56 : decode cX6_meets 56 = .ok (.invokevirtual 162, 3) := by decide +kernel
theorem dX6_meets_59 : decode cX6_meets 59 = .ok (.iinc 4 1, 3) := by decide +kernel
theorem dX6_meets_62 : decode cX6_meets 62 = .ok (.goto (-48), 3) := by decide +kernel
theorem dX6_meets_65 : decode cX6_meets 65 = .ok (.aload_n 0, 1) := by decide +kernel
theorem dX6_meets_66 : decode cX6_meets 66 = .ok (.iload_n 1, 1) := by decide +kernel
theorem dX6_meets_67 : decode cX6_meets 67 = .ok (.invokevirtual 189, 3) := by decide +kernel
theorem dX6_meets_70 : decode cX6_meets 70 = .ok (.aload_n 0, 1) := by decide +kernel
theorem dX6_meets_71 : decode cX6_meets 71 = .ok (.iload_n 2, 1) := by decide +kernel
theorem dX6_meets_72 : decode cX6_meets 72 = .ok (.invokevirtual 189, 3) := by decide +kernel
theorem dX6_meets_75 : decode cX6_meets 75 = .ok (.aload_n 0, 1) := by decide +kernel
theorem dX6_meets_76 : decode cX6_meets 76 = .ok (.iload_n 3, 1) := by decide +kernel
theorem dX6_meets_77 : decode cX6_meets 77 = .ok (.putfield 172, 3) := by decide +kernel
theorem dX6_meets_80 : decode cX6_meets 80 = .ok (.aload_n 0, 1) := by decide +kernel
theorem dX6_meets_81 : decode cX6_meets 81 = .ok (.iconst 0, 1) := by decide +kernel
theorem dX6_meets_82 : decode cX6_meets 82 = .ok (.putfield 165, 3) := by decide +kernel
