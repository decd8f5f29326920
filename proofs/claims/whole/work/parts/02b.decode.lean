theorem dX7_init_0 : decode cX7_init 0 = .ok (.aload_n 0, 1) := by decide +kernel
theorem dX7_init_1 : decode cX7_init 1 = .ok (.invokespecial 3, 3) := by decide +kernel
theorem dX7_init_4 : decode cX7_init 4 = .ok (.aload_n 0, 1) := by decide +kernel
theorem dX7_init_5 : decode cX7_init 5 = .ok (.new 9, 3) := by decide +kernel
theorem dX7_init_8 : decode cX7_init 8 = .ok (.dup, 1) := by decide +kernel
theorem dX7_init_9 : decode cX7_init 9 = .ok (.invokespecial 11, 3) := by decide +kernel
theorem dX7_init_12 : decode cX7_init 12 = .ok (.putfield 12, 3) := by decide +kernel
theorem dX7_init_15 : decode cX7_init 15 = .ok (.aload_n 0, 1) := by decide +kernel
theorem dX7_init_16 : decode cX7_init 16 = .ok (.new 9, 3) := by decide +kernel
theorem dX7_init_19 : decode cX7_init 19 = .ok (.dup, 1) := by decide +kernel
theorem dX7_init_20 : decode cX7_init 20 = .ok (.invokespecial 11, 3) := by decide +kernel
theorem dX7_init_23 : decode cX7_init 23 = .ok (.putfield 16, 3) := by decide +kernel
theorem dX7_init_26 : decode cX7_init 26 = .ok (.aload_n 0, 1) := by decide +kernel
theorem dX7_init_27 : decode cX7_init 27 = .ok (.bipush 9, 2) := by decide +kernel
theorem dX7_init_29 : decode cX7_init 29 = .ok (.anewarray 9, 3) := by decide +kernel
theorem dX7_init_32 : decode cX7_init 32 = .ok (.putfield 19, 3) := by decide +kernel
theorem dX7_init_35 : decode cX7_init 35 = .ok (.aload_n 0, 1) := by decide +kernel
theorem dX7_init_36 : decode cX7_init 36 = .ok (.new 23, 3) := by decide +kernel
theorem dX7_init_39 : decode cX7_init 39 = .ok (.dup, 1) := by decide +kernel
theorem dX7_init_40 : decode cX7_init 40 = .ok (.invokespecial 25, 3) := by decide +kernel
theorem dX7_init_43 : decode cX7_init 43 = .ok (.putfield 26, 3) := by decide +kernel
theorem dX7_init_46 : decode cX7_init 46 = .ok (.aload_n 0, 1) := by decide +kernel
theorem dX7_init_47 : decode cX7_init 47 = .ok (.new 30, 3) := by decide +kernel
theorem dX7_init_50 : decode cX7_init 50 = .ok (.dup, 1) := by decide +kernel
theorem dX7_init_51 : decode cX7_init 51 = .ok (.aload_n 0, 1) := by decide +kernel
theorem dX7_init_52 : decode cX7_init 52 = .ok (.getfield 26, 3) := by decide +kernel
theorem dX7_init_55 : decode cX7_init 55 = .ok (.invokespecial 32, 3) := by decide +kernel
theorem dX7_init_58 : decode cX7_init 58 = .ok (.putfield 35, 3) := by decide +kernel
theorem dX7_init_61 : decode cX7_init 61 = .ok (.aload_n 0, 1) := by decide +kernel
theorem dX7_init_62 : decode cX7_init 62 = .ok (.new 39, 3) := by decide +kernel
theorem dX7_init_65 : decode cX7_init 65 = .ok (.dup, 1) := by decide +kernel
theorem dX7_init_66 : decode cX7_init 66 = .ok (.invokespecial 41, 3) := by decide +kernel
theorem dX7_init_69 : decode cX7_init 69 = .ok (.putfield 42, 3) := by decide +kernel
theorem dX7_init_72 : decode cX7_init 72 = .ok (.aload_n 0, 1) := by decide +kernel
theorem dX7_init_73 : decode cX7_init 73 = .ok (.new 46, 3) := by decide +kernel
theorem dX7_init_76 : decode cX7_init 76 = .ok (.dup, 1) := by decide +kernel
theorem dX7_init_77 : decode cX7_init 77 = .ok (.invokespecial 48, 3) := by decide +kernel
theorem dX7_init_80 : decode cX7_init 80 = .ok (.putfield 49, 3) := by decide +kernel
theorem dX7_init_83 : decode cX7_init 83 = .ok (.aload_n 0, 1) := by decide +kernel
theorem dX7_init_84 : decode cX7_init 84 = .ok (.sipush 378, 3) := by decide +kernel
theorem dX7_init_87 : decode cX7_init 87 = .ok (.newarray .int, 2) := by decide +kernel
theorem dX7_init_89 : decode cX7_init 89 = .ok (.putfield 53, 3) := by decide +kernel
theorem dX7_init_92 : decode cX7_init 92 = .ok (.aload_n 0, 1) := by decide +kernel
theorem dX7_init_93 : decode cX7_init 93 = .ok (.iconst 2, 1) := by decide +kernel
theorem dX7_init_94 : decode cX7_init 94 = .ok (.anewarray 57, 3) := by decide +kernel
theorem dX7_init_97 : decode cX7_init 97 = .ok (.putfield 59, 3) := by decide +kernel
theorem dX7_init_100 : decode cX7_init 100 = .ok (.aload_n 0, 1) := by decide +kernel
theorem dX7_init_101 : decode cX7_init 101 = .ok (.iconst 4, 1) := by decide +kernel
theorem dX7_init_102 : decode cX7_init 102 = .ok (.anewarray 63, 3) := by decide +kernel
theorem dX7_init_105 : decode cX7_init 105 = .ok (.putfield 65, 3) := by decide +kernel
theorem dX7_init_108 : decode cX7_init 108 = .ok (.iconst 0, 1) := by decide +kernel
theorem dX7_init_109 : decode cX7_init 109 = .ok (.istore_n 1, 1) := by decide +kernel
theorem dX7_init_110 : decode cX7_init 110 = .ok (.iload_n 1, 1) := by decide +kernel
theorem dX7_init_111 : decode cX7_init 111 = .ok (.aload_n 0, 1) := by decide +kernel
theorem dX7_init_112 : decode cX7_init 112 = .ok (.getfield 19, 3) := by decide +kernel
theorem dX7_init_115 : decode cX7_init 115 = .ok (.arraylength, 1) := by decide +kernel
theorem dX7_init_116 : decode cX7_init 116 = .ok (.if_icmp .ge 22, 3) := by decide +kernel
theorem dX7_init_119 : decode cX7_init 119 = .ok (.aload_n 0, 1) := by decide +kernel
theorem dX7_init_120 : decode cX7_init 120 = .ok (.getfield 19, 3) := by decide +kernel
theorem dX7_init_123 : decode cX7_init 123 = .ok (.iload_n 1, 1) := by decide +kernel
theorem dX7_init_124 : decode cX7_init 124 = .ok (.new 9, 3) := by decide +kernel
theorem dX7_init_127 : decode cX7_init 127 = .ok (.dup, 1) := by decide +kernel
theorem dX7_init_128 : decode cX7_init 128 = .ok (.invokespecial 11, 3) := by decide +kernel
theorem dX7_init_131 : decode cX7_init 131 = .ok (.aastore, 1) := by decide +kernel
theorem dX7_init_132 : decode cX7_init 132 = .ok (.iinc 1 1, 3) := by decide +kernel
theorem dX7_init_135 : decode cX7_init 135 = .ok (.goto (-25), 3) := by decide +kernel
theorem dX7_init_138 : decode cX7_init 138 = .ok (.iconst 0, 1) := by decide +kernel
theorem dX7_init_139 : decode cX7_init 139 = .ok (.istore_n 1, 1) := by decide +kernel
theorem dX7_init_140 : decode cX7_init 140 = .ok (.iload_n 1, 1) := by decide +kernel
theorem dX7_init_141 : decode cX7_init 141 = .ok (.aload_n 0, 1) := by decide +kernel
theorem dX7_init_142 : decode cX7_init 142 = .ok (.getfield 59, 3) := by decide +kernel
theorem dX7_init_145 : decode cX7_init 145 = .ok (.arraylength, 1) := by decide +kernel
theorem dX7_init_146 : decode cX7_init 146 = .ok (.if_icmp .ge 22, 3) := by decide +kernel
theorem dX7_init_149 : decode cX7_init 149 = .ok (.aload_n 0, 1) := by decide +kernel
theorem dX7_init_150 : decode cX7_init 150 = .ok (.getfield 59, 3) := by decide +kernel
theorem dX7_init_153 : decode cX7_init 153 = .ok (.iload_n 1, 1) := by decide +kernel
theorem dX7_init_154 : decode cX7_init 154 = .ok (.new 57, 3) := by decide +kernel
theorem dX7_init_157 : decode cX7_init 157 = .ok (.dup, 1) := by decide +kernel
theorem dX7_init_158 : decode cX7_init 158 = .ok (.invokespecial 69, 3) := by decide +kernel
theorem dX7_init_161 : decode cX7_init 161 = .ok (.aastore, 1) := by decide +kernel
theorem dX7_init_162 : decode cX7_init 162 = .ok (.iinc 1 1, 3) := by decide +kernel
theorem dX7_init_165 : decode cX7_init 165 = .ok (.goto (-25), 3) := by decide +kernel
theorem dX7_init_168 : decode cX7_init 168 = .ok (.iconst 0, 1) := by decide +kernel
theorem dX7_init_169 : decode cX7_init 169 = .ok (.istore_n 1, 1) := by decide +kernel
theorem dX7_init_170 : decode cX7_init 170 = .ok (.iload_n 1, 1) := by decide +kernel
theorem dX7_init_171 : decode cX7_init 171 = .ok (.aload_n 0, 1) := by decide +kernel
theorem dX7_init_172 : decode cX7_init 172 = .ok (.getfield 65, 3) := by decide +kernel
theorem dX7_init_175 : decode cX7_init 175 = .ok (.arraylength, 1) := by decide +kernel
theorem dX7_init_176 : decode cX7_init 176 = .ok (.if_icmp .ge 22, 3) := by decide +kernel
theorem dX7_init_179 : decode cX7_init 179 = .ok (.aload_n 0, 1) := by decide +kernel
theorem dX7_init_180 : decode cX7_init 180 = .ok (.getfield 65, 3) := by decide +kernel
theorem dX7_init_183 : decode cX7_init 183 = .ok (.iload_n 1, 1) := by decide +kernel
theorem dX7_init_184 : decode cX7_init 184 = .ok (.new 63, 3) := by decide +kernel
theorem dX7_init_187 : decode cX7_init 187 = .ok (.dup, 1) := by decide +kernel
theorem dX7_init_188 : decode cX7_init 188 = .ok (.invokespecial 70, 3) := by decide +kernel
theorem dX7_init_191 : decode cX7_init 191 = .ok (.aastore, 1) := by decide +kernel
theorem dX7_init_192 : decode cX7_init 192 = .ok (.iinc 1 1, 3) := by decide +kernel
theorem dX7_init_195 : decode cX7_init 195 = .ok (.goto (-25), 3) := by decide +kernel
theorem dX7_init_198 : decode cX7_init 198 = .ok (.return_, 1) := by decide +kernel
theorem dX7_feed_0 : decode cX7_feed 0 = .ok (.iload_n 1, 1) := by decide +kernel
theorem dX7_feed_1 : decode cX7_feed 1 = .ok (.iconst 0, 1) := by decide +kernel
theorem dX7_feed_2 : decode cX7_feed 2 = .ok (.bipush 127, 2) := by decide +kernel
theorem dX7_feed_4 : decode cX7_feed 4 = .ok (.invokestatic 71, 3) := by decide +kernel
theorem dX7_feed_7 : decode cX7_feed 7 = .ok (.ifCond .ne 5, 3) := by decide +kernel
theorem dX7_feed_10 : decode cX7_feed 10 = .ok (.iconst (-1), 1) := by decide +kernel
theorem dX7_feed_11 : decode cX7_feed 11 = .ok (.ireturn, 1) := by decide +kernel
theorem dX7_feed_12 : decode cX7_feed 12 = .ok (.aload_n 0, 1) := by decide +kernel
theorem dX7_feed_13 : decode cX7_feed 13 = .ok (.getfield 26, 3) := by decide +kernel
theorem dX7_feed_16 : decode cX7_feed 16 = .ok (.iload_n 1, 1) := by decide +kernel
theorem dX7_feed_17 : decode cX7_feed 17 = .ok (.invokevirtual 75, 3) := by decide +kernel
theorem dX7_feed_20 : decode cX7_feed 20 = .ok (.ifCond .eq 13, 3) := by decide +kernel
theorem dX7_feed_23 : decode cX7_feed 23 = .ok (.aload_n 0, 1) := by decide +kernel
theorem dX7_feed_24 : decode cX7_feed 24 = .ok (.getfield 26, 3) := by decide +kernel
theorem dX7_feed_27 : decode cX7_feed 27 = .ok (.getfield 79, 3) := by decide +kernel
theorem dX7_feed_30 : decode cX7_feed 30 = .ok (.goto 5, 3) := by decide +kernel
theorem dX7_feed_33 : decode cX7_feed 33 = .ok (.bipush (-3), 2) := by decide +kernel
theorem dX7_feed_35 : decode cX7_feed 35 = .ok (.ireturn, 1) := by decide +kernel
theorem dX7_end_0 : decode cX7_end 0 = .ok (.aload_n 0, 1) := by decide +kernel
theorem dX7_end_1 : decode cX7_end 1 = .ok (.getfield 26, 3) := by decide +kernel
theorem dX7_end_4 : decode cX7_end 4 = .ok (.getfield 79, 3) := by decide +kernel
theorem dX7_end_7 : decode cX7_end 7 = .ok (.istore_n 2, 1) := by decide +kernel
theorem dX7_end_8 : decode cX7_end 8 = .ok (.iload_n 1, 1) := by decide +kernel
theorem dX7_end_9 : decode cX7_end 9 = .ok (.iconst 0, 1) := by decide +kernel
theorem dX7_end_10 : decode cX7_end 10 = .ok (.iload_n 2, 1) := by decide +kernel
theorem dX7_end_11 : decode cX7_end 11 = .ok (.invokestatic 71, 3) := by decide +kernel
theorem dX7_end_14 : decode cX7_end 14 = .ok (.ifCond .ne 5, 3) := by decide +kernel
theorem dX7_end_17 : decode cX7_end 17 = .ok (.iconst (-1), 1) := by decide +kernel
theorem dX7_end_18 : decode cX7_end 18 = .ok (.ireturn, 1) := by decide +kernel
theorem dX7_end_19 : decode cX7_end 19 = .ok (.aload_n 0, 1) := by decide +kernel
theorem dX7_end_20 : decode cX7_end 20 = .ok (.getfield 26, 3) := by decide +kernel
theorem dX7_end_23 : decode cX7_end 23 = .ok (.iload_n 1, 1) := by decide +kernel
theorem dX7_end_24 : decode cX7_end 24 = .ok (.putfield 79, 3) := by decide +kernel
theorem dX7_end_27 : decode cX7_end 27 = .ok (.iload_n 2, 1) := by decide +kernel
theorem dX7_end_28 : decode cX7_end 28 = .ok (.ireturn, 1) := by decide +kernel
theorem dX7_text_0 : decode cX7_text 0 = .ok (.aload_n 0, 1) := by decide +kernel
theorem dX7_text_1 : decode cX7_text 1 = .ok (.getfield 35, 3) := by decide +kernel
theorem dX7_text_4 : decode cX7_text 4 = .ok (.aload_n 0, 1) := by decide +kernel
theorem dX7_text_5 : decode cX7_text 5 = .ok (.getfield 16, 3) := by decide +kernel
theorem dX7_text_8 : decode cX7_text 8 = .ok (.invokevirtual 83, 3) := by decide +kernel
theorem dX7_text_11 : decode cX7_text 11 = .ok (.istore_n 1, 1) := by decide +kernel
theorem dX7_text_12 : decode cX7_text 12 = .ok (.aload_n 0, 1) := by decide +kernel
theorem dX7_text_13 : decode cX7_text 13 = .ok (.getfield 26, 3) := by decide +kernel
theorem dX7_text_16 : decode cX7_text 16 = .ok (.iconst 0, 1) := by decide +kernel
theorem dX7_text_17 : decode cX7_text 17 = .ok (.putfield 79, 3) := by decide +kernel
theorem dX7_text_20 : decode cX7_text 20 = .ok (.iload_n 1, 1) := by decide +kernel
theorem dX7_text_21 : decode cX7_text 21 = .ok (.ifCond .lt 49, 3) := by decide +kernel
theorem dX7_text_24 : decode cX7_text 24 = .ok (.aload_n 0, 1) := by decide +kernel
theorem dX7_text_25 : decode cX7_text 25 = .ok (.getfield 12, 3) := by decide +kernel
theorem dX7_text_28 : decode cX7_text 28 = .ok (.aload_n 0, 1) := by decide +kernel
theorem dX7_text_29 : decode cX7_text 29 = .ok (.getfield 16, 3) := by decide +kernel
theorem dX7_text_32 : decode cX7_text 32 = .ok (.invokevirtual 87, 3) := by decide +kernel
theorem dX7_text_35 : decode cX7_text 35 = .ok (.aload_n 0, 1) := by decide +kernel
theorem dX7_text_36 : decode cX7_text 36 = .ok (.getfield 42, 3) := by decide +kernel
theorem dX7_text_39 : decode cX7_text 39 = .ok (.iconst 0, 1) := by decide +kernel
theorem dX7_text_40 : decode cX7_text 40 = .ok (.putfield 91, 3) := by decide +kernel
theorem dX7_text_43 : decode cX7_text 43 = .ok (.iconst 0, 1) := by decide +kernel
theorem dX7_text_44 : decode cX7_text 44 = .ok (.istore_n 2, 1) := by decide +kernel
theorem dX7_text_45 : decode cX7_text 45 = .ok (.iload_n 2, 1) := by decide +kernel
theorem dX7_text_46 : decode cX7_text 46 = .ok (.aload_n 0, 1) := by decide +kernel
theorem dX7_text_47 : decode cX7_text 47 = .ok (.getfield 59, 3) := by decide +kernel
theorem dX7_text_50 : decode cX7_text 50 = .ok (.arraylength, 1) := by decide +kernel
theorem dX7_text_51 : decode cX7_text 51 = .ok (.if_icmp .ge 19, 3) := by decide +kernel
theorem dX7_text_54 : decode cX7_text 54 = .ok (.aload_n 0, 1) := by decide +kernel
theorem dX7_text_55 : decode cX7_text 55 = .ok (.getfield 59, 3) := by decide +kernel
theorem dX7_text_58 : decode cX7_text 58 = .ok (.iload_n 2, 1) := by decide +kernel
theorem dX7_text_59 : decode cX7_text 59 = .ok (.aaload, 1) := by decide +kernel
theorem dX7_text_60 : decode cX7_text 60 = .ok (.iconst 0, 1) := by decide +kernel
theorem dX7_text_61 : decode cX7_text 61 = .ok (.putfield 94, 3) := by decide +kernel
theorem dX7_text_64 : decode cX7_text 64 = .ok (.iinc 2 1, 3) := by decide +kernel
theorem dX7_text_67 : decode cX7_text 67 = .ok (.goto (-22), 3) := by decide +kernel
theorem dX7_text_70 : decode cX7_text 70 = .ok (.iload_n 1, 1) := by decide +kernel
theorem dX7_text_71 : decode cX7_text 71 = .ok (.ireturn, 1) := by decide +kernel
theorem dX7_fault_0 : decode cX7_fault 0 = .ok (.aload_n 0, 1) := by decide +kernel
theorem dX7_fault_1 : decode cX7_fault 1 = .ok (.getfield 35, 3) := by decide +kernel
theorem dX7_fault_4 : decode cX7_fault 4 = .ok (.getfield 98, 3) := by decide +kernel
theorem dX7_fault_7 : decode cX7_fault 7 = .ok (.ireturn, 1) := by decide +kernel
theorem dX7_rule_0 : decode cX7_rule 0 = .ok (.iload_n 1, 1) := by decide +kernel
theorem dX7_rule_1 : decode cX7_rule 1 = .ok (.tableswitch 102 0 6 #[43, 51, 59, 68, 77, 86, 94], 43) := by decide +kernel
theorem dX7_rule_44 : decode cX7_rule 44 = .ok (.aload_n 0, 1) := by decide +kernel
theorem dX7_rule_45 : decode cX7_rule 45 = .ok (.getfield 12, 3) := by decide +kernel
theorem dX7_rule_48 : decode cX7_rule 48 = .ok (.getfield 101, 3) := by decide +kernel
theorem dX7_rule_51 : decode cX7_rule 51 = .ok (.ireturn, 1) := by decide +kernel
theorem dX7_rule_52 : decode cX7_rule 52 = .ok (.aload_n 0, 1) := by decide +kernel
theorem dX7_rule_53 : decode cX7_rule 53 = .ok (.getfield 12, 3) := by decide +kernel
theorem dX7_rule_56 : decode cX7_rule 56 = .ok (.getfield 102, 3) := by decide +kernel
theorem dX7_rule_59 : decode cX7_rule 59 = .ok (.ireturn, 1) := by decide +kernel
theorem dX7_rule_60 : decode cX7_rule 60 = .ok (.aload_n 0, 1) := by decide +kernel
theorem dX7_rule_61 : decode cX7_rule 61 = .ok (.getfield 12, 3) := by decide +kernel
theorem dX7_rule_64 : decode cX7_rule 64 = .ok (.iconst 0, 1) := by decide +kernel
theorem dX7_rule_65 : decode cX7_rule 65 = .ok (.invokevirtual 105, 3) := by decide +kernel
theorem dX7_rule_68 : decode cX7_rule 68 = .ok (.ireturn, 1) := by decide +kernel
theorem dX7_rule_69 : decode cX7_rule 69 = .ok (.aload_n 0, 1) := by decide +kernel
theorem dX7_rule_70 : decode cX7_rule 70 = .ok (.getfield 12, 3) := by decide +kernel
theorem dX7_rule_73 : decode cX7_rule 73 = .ok (.iconst 1, 1) := by decide +kernel
theorem dX7_rule_74 : decode cX7_rule 74 = .ok (.invokevirtual 105, 3) := by decide +kernel
theorem dX7_rule_77 : decode cX7_rule 77 = .ok (.ireturn, 1) := by decide +kernel
theorem dX7_rule_78 : decode cX7_rule 78 = .ok (.aload_n 0, 1) := by decide +kernel
theorem dX7_rule_79 : decode cX7_rule 79 = .ok (.getfield 12, 3) := by decide +kernel
theorem dX7_rule_82 : decode cX7_rule 82 = .ok (.iconst 2, 1) := by decide +kernel
theorem dX7_rule_83 : decode cX7_rule 83 = .ok (.invokevirtual 105, 3) := by decide +kernel
theorem dX7_rule_86 : decode cX7_rule 86 = .ok (.ireturn, 1) := by decide +kernel
theorem dX7_rule_87 : decode cX7_rule 87 = .ok (.aload_n 0, 1) := by decide +kernel
theorem dX7_rule_88 : decode cX7_rule 88 = .ok (.getfield 12, 3) := by decide +kernel
theorem dX7_rule_91 : decode cX7_rule 91 = .ok (.invokevirtual 109, 3) := by decide +kernel
theorem dX7_rule_94 : decode cX7_rule 94 = .ok (.ireturn, 1) := by decide +kernel
theorem dX7_rule_95 : decode cX7_rule 95 = .ok (.aload_n 0, 1) := by decide +kernel
theorem dX7_rule_96 : decode cX7_rule 96 = .ok (.getfield 12, 3) := by decide +kernel
theorem dX7_rule_99 : decode cX7_rule 99 = .ok (.invokevirtual 113, 3) := by decide +kernel
theorem dX7_rule_102 : decode cX7_rule 102 = .ok (.ireturn, 1) := by decide +kernel
theorem dX7_rule_103 : decode cX7_rule 103 = .ok (.iconst (-1), 1) := by decide +kernel
theorem dX7_rule_104 : decode cX7_rule 104 = .ok (.ireturn, 1) := by decide +kernel
theorem dX7_told_0 : decode cX7_told 0 = .ok (.iload_n 1, 1) := by decide +kernel
theorem dX7_told_1 : decode cX7_told 1 = .ok (.iconst 0, 1) := by decide +kernel
theorem dX7_told_2 : decode cX7_told 2 = .ok (.iconst 4, 1) := by decide +kernel
theorem dX7_told_3 : decode cX7_told 3 = .ok (.invokestatic 71, 3) := by decide +kernel
theorem dX7_told_6 : decode cX7_told 6 = .ok (.ifCond .eq 15, 3) := by decide +kernel
theorem dX7_told_9 : decode cX7_told 9 = .ok (.aload_n 0, 1) := by decide +kernel
theorem dX7_told_10 : decode cX7_told 10 = .ok (.getfield 12, 3) := by decide +kernel
theorem dX7_told_13 : decode cX7_told 13 = .ok (.getfield 116, 3) := by decide +kernel
theorem dX7_told_16 : decode cX7_told 16 = .ok (.iload_n 1, 1) := by decide +kernel
theorem dX7_told_17 : decode cX7_told 17 = .ok (.iaload, 1) := by decide +kernel
theorem dX7_told_18 : decode cX7_told 18 = .ok (.goto 4, 3) := by decide +kernel
theorem dX7_told_21 : decode cX7_told 21 = .ok (.iconst (-1), 1) := by decide +kernel
theorem dX7_told_22 : decode cX7_told 22 = .ok (.ireturn, 1) := by decide +kernel
theorem dX7_one_0 : decode cX7_one 0 = .ok (.aload_n 0, 1) := by decide +kernel
theorem dX7_one_1 : decode cX7_one 1 = .ok (.iload_n 1, 1) := by decide +kernel
theorem dX7_one_2 : decode cX7_one 2 = .ok (.invokevirtual 119, 3) := by decide +kernel
theorem dX7_one_5 : decode cX7_one 5 = .ok (.ifCond .ne 5, 3) := by decide +kernel
theorem dX7_one_8 : decode cX7_one 8 = .ok (.iconst (-1), 1) := by decide +kernel
theorem dX7_one_9 : decode cX7_one 9 = .ok (.ireturn, 1) := by decide +kernel
theorem dX7_one_10 : decode cX7_one 10 = .ok (.iload_n 2, 1) := by decide +kernel
theorem dX7_one_11 : decode cX7_one 11 = .ok (.tableswitch 102 0 5 #[37, 47, 57, 67, 77, 86], 37) := by decide +kernel
theorem dX7_one_48 : decode cX7_one 48 = .ok (.aload_n 0, 1) := by decide +kernel
theorem dX7_one_49 : decode cX7_one 49 = .ok (.getfield 12, 3) := by decide +kernel
theorem dX7_one_52 : decode cX7_one 52 = .ok (.getfield 122, 3) := by decide +kernel
theorem dX7_one_55 : decode cX7_one 55 = .ok (.iload_n 1, 1) := by decide +kernel
theorem dX7_one_56 : decode cX7_one 56 = .ok (.iaload, 1) := by decide +kernel
theorem dX7_one_57 : decode cX7_one 57 = .ok (.ireturn, 1) := by decide +kernel
theorem dX7_one_58 : decode cX7_one 58 = .ok (.aload_n 0, 1) := by decide +kernel
theorem dX7_one_59 : decode cX7_one 59 = .ok (.getfield 12, 3) := by decide +kernel
theorem dX7_one_62 : decode cX7_one 62 = .ok (.getfield 125, 3) := by decide +kernel
theorem dX7_one_65 : decode cX7_one 65 = .ok (.iload_n 1, 1) := by decide +kernel
theorem dX7_one_66 : decode cX7_one 66 = .ok (.iaload, 1) := by decide +kernel
theorem dX7_one_67 : decode cX7_one 67 = .ok (.ireturn, 1) := by decide +kernel
theorem dX7_one_68 : decode cX7_one 68 = .ok (.aload_n 0, 1) := by decide +kernel
theorem dX7_one_69 : decode cX7_one 69 = .ok (.getfield 12, 3) := by decide +kernel
theorem dX7_one_72 : decode cX7_one 72 = .ok (.getfield 128, 3) := by decide +kernel
theorem dX7_one_75 : decode cX7_one 75 = .ok (.iload_n 1, 1) := by decide +kernel
theorem dX7_one_76 : decode cX7_one 76 = .ok (.iaload, 1) := by decide +kernel
theorem dX7_one_77 : decode cX7_one 77 = .ok (.ireturn, 1) := by decide +kernel
theorem dX7_one_78 : decode cX7_one 78 = .ok (.aload_n 0, 1) := by decide +kernel
theorem dX7_one_79 : decode cX7_one 79 = .ok (.getfield 12, 3) := by decide +kernel
theorem dX7_one_82 : decode cX7_one 82 = .ok (.getfield 131, 3) := by decide +kernel
theorem dX7_one_85 : decode cX7_one 85 = .ok (.iload_n 1, 1) := by decide +kernel
theorem dX7_one_86 : decode cX7_one 86 = .ok (.iaload, 1) := by decide +kernel
theorem dX7_one_87 : decode cX7_one 87 = .ok (.ireturn, 1) := by decide +kernel
theorem dX7_one_88 : decode cX7_one 88 = .ok (.aload_n 0, 1) := by decide +kernel
theorem dX7_one_89 : decode cX7_one 89 = .ok (.getfield 12, 3) := by decide +kernel
theorem dX7_one_92 : decode cX7_one 92 = .ok (.iload_n 1, 1) := by decide +kernel
theorem dX7_one_93 : decode cX7_one 93 = .ok (.invokevirtual 134, 3) := by decide +kernel
theorem dX7_one_96 : decode cX7_one 96 = .ok (.ireturn, 1) := by decide +kernel
theorem dX7_one_97 : decode cX7_one 97 = .ok (.aload_n 0, 1) := by decide +kernel
theorem dX7_one_98 : decode cX7_one 98 = .ok (.getfield 12, 3) := by decide +kernel
theorem dX7_one_101 : decode cX7_one 101 = .ok (.iload_n 1, 1) := by decide +kernel
theorem dX7_one_102 : decode cX7_one 102 = .ok (.aload_n 0, 1) := by decide +kernel
theorem dX7_one_103 : decode cX7_one 103 = .ok (.getfield 12, 3) := by decide +kernel
theorem dX7_one_106 : decode cX7_one 106 = .ok (.invokevirtual 113, 3) := by decide +kernel
theorem dX7_one_109 : decode cX7_one 109 = .ok (.invokevirtual 137, 3) := by decide +kernel
theorem dX7_one_112 : decode cX7_one 112 = .ok (.ireturn, 1) := by decide +kernel
theorem dX7_one_113 : decode cX7_one 113 = .ok (.iconst (-1), 1) := by decide +kernel
theorem dX7_one_114 : decode cX7_one 114 = .ok (.ireturn, 1) := by decide +kernel
theorem dX7_sun_0 : decode cX7_sun 0 = .ok (.iload_n 1, 1) := by decide +kernel
theorem dX7_sun_1 : decode cX7_sun 1 = .ok (.invokestatic 141, 3) := by decide +kernel
theorem dX7_sun_4 : decode cX7_sun 4 = .ok (.ifCond .eq 15, 3) := by decide +kernel
theorem dX7_sun_7 : decode cX7_sun 7 = .ok (.aload_n 0, 1) := by decide +kernel
theorem dX7_sun_8 : decode cX7_sun 8 = .ok (.getfield 12, 3) := by decide +kernel
theorem dX7_sun_11 : decode cX7_sun 11 = .ok (.getfield 144, 3) := by decide +kernel
theorem dX7_sun_14 : decode cX7_sun 14 = .ok (.iload_n 1, 1) := by decide +kernel
theorem dX7_sun_15 : decode cX7_sun 15 = .ok (.iaload, 1) := by decide +kernel
theorem dX7_sun_16 : decode cX7_sun 16 = .ok (.goto 4, 3) := by decide +kernel
theorem dX7_sun_19 : decode cX7_sun 19 = .ok (.iconst (-1), 1) := by decide +kernel
theorem dX7_sun_20 : decode cX7_sun 20 = .ok (.ireturn, 1) := by decide +kernel
theorem dX7_alter_0 : decode cX7_alter 0 = .ok (.aload_n 0, 1) := by decide +kernel
theorem dX7_alter_1 : decode cX7_alter 1 = .ok (.iload_n 1, 1) := by decide +kernel
theorem dX7_alter_2 : decode cX7_alter 2 = .ok (.invokevirtual 119, 3) := by decide +kernel
theorem dX7_alter_5 : decode cX7_alter 5 = .ok (.ifCond .ne 5, 3) := by decide +kernel
theorem dX7_alter_8 : decode cX7_alter 8 = .ok (.iconst (-1), 1) := by decide +kernel
theorem dX7_alter_9 : decode cX7_alter 9 = .ok (.ireturn, 1) := by decide +kernel
theorem dX7_alter_10 : decode cX7_alter 10 = .ok (.iload_n 2, 1) := by decide +kernel
theorem dX7_alter_11 : decode cX7_alter 11 = .ok (.tableswitch 69 0 2 #[25, 39, 54], 25) := by decide +kernel
theorem dX7_alter_36 : decode cX7_alter 36 = .ok (.aload_n 0, 1) := by decide +kernel
theorem dX7_alter_37 : decode cX7_alter 37 = .ok (.getfield 12, 3) := by decide +kernel
theorem dX7_alter_40 : decode cX7_alter 40 = .ok (.getfield 122, 3) := by decide +kernel
theorem dX7_alter_43 : decode cX7_alter 43 = .ok (.iload_n 1, 1) := by decide +kernel
theorem dX7_alter_44 : decode cX7_alter 44 = .ok (.iload_n 3, 1) := by decide +kernel
theorem dX7_alter_45 : decode cX7_alter 45 = .ok (.iconst 3, 1) := by decide +kernel
theorem dX7_alter_46 : decode cX7_alter 46 = .ok (.invokestatic 147, 3) := by decide +kernel
theorem dX7_alter_49 : decode cX7_alter 49 = .ok (.ireturn, 1) := by decide +kernel
theorem dX7_alter_50 : decode cX7_alter 50 = .ok (.aload_n 0, 1) := by decide +kernel
theorem dX7_alter_51 : decode cX7_alter 51 = .ok (.getfield 12, 3) := by decide +kernel
theorem dX7_alter_54 : decode cX7_alter 54 = .ok (.getfield 125, 3) := by decide +kernel
theorem dX7_alter_57 : decode cX7_alter 57 = .ok (.iload_n 1, 1) := by decide +kernel
theorem dX7_alter_58 : decode cX7_alter 58 = .ok (.iload_n 3, 1) := by decide +kernel
theorem dX7_alter_59 : decode cX7_alter 59 = .ok (.bipush 60, 2) := by decide +kernel
theorem dX7_alter_61 : decode cX7_alter 61 = .ok (.invokestatic 147, 3) := by decide +kernel
theorem dX7_alter_64 : decode cX7_alter 64 = .ok (.ireturn, 1) := by decide +kernel
theorem dX7_alter_65 : decode cX7_alter 65 = .ok (.aload_n 0, 1) := by decide +kernel
theorem dX7_alter_66 : decode cX7_alter 66 = .ok (.getfield 12, 3) := by decide +kernel
theorem dX7_alter_69 : decode cX7_alter 69 = .ok (.getfield 128, 3) := by decide +kernel
theorem dX7_alter_72 : decode cX7_alter 72 = .ok (.iload_n 1, 1) := by decide +kernel
theorem dX7_alter_73 : decode cX7_alter 73 = .ok (.iload_n 3, 1) := by decide +kernel
theorem dX7_alter_74 : decode cX7_alter 74 = .ok (.bipush 20, 2) := by decide +kernel
theorem dX7_alter_76 : decode cX7_alter 76 = .ok (.invokestatic 147, 3) := by decide +kernel
theorem dX7_alter_79 : decode cX7_alter 79 = .ok (.ireturn, 1) := by decide +kernel
theorem dX7_alter_80 : decode cX7_alter 80 = .ok (.iconst (-1), 1) := by decide +kernel
theorem dX7_alter_81 : decode cX7_alter 81 = .ok (.ireturn, 1) := by decide +kernel
theorem dX7_set_0 : decode cX7_set 0 = .ok (.iload_n 1, 1) := by decide +kernel
theorem dX7_set_1 : decode cX7_set 1 = .ok (.iconst 0, 1) := by decide +kernel
theorem dX7_set_2 : decode cX7_set 2 = .ok (.iconst 4, 1) := by decide +kernel
theorem dX7_set_3 : decode cX7_set 3 = .ok (.invokestatic 71, 3) := by decide +kernel
theorem dX7_set_6 : decode cX7_set 6 = .ok (.ifCond .eq 12, 3) := by decide +kernel
theorem dX7_set_9 : decode cX7_set 9 = .ok (.iload_n 2, 1) := by decide +kernel
theorem dX7_set_10 : decode cX7_set 10 = .ok (.getstatic 151, 3) := by decide +kernel
theorem dX7_set_13 : decode cX7_set 13 = .ok (.iload_n 1, 1) := by decide +kernel
theorem dX7_set_14 : decode cX7_set 14 = .ok (.iaload, 1) := by decide +kernel
theorem dX7_set_15 : decode cX7_set 15 = .ok (.if_icmp .ge 5, 3) := by decide +kernel
theorem dX7_set_18 : decode cX7_set 18 = .ok (.iconst (-1), 1) := by decide +kernel
theorem dX7_set_19 : decode cX7_set 19 = .ok (.ireturn, 1) := by decide +kernel
theorem dX7_set_20 : decode cX7_set 20 = .ok (.aload_n 0, 1) := by decide +kernel
theorem dX7_set_21 : decode cX7_set 21 = .ok (.getfield 12, 3) := by decide +kernel
theorem dX7_set_24 : decode cX7_set 24 = .ok (.getfield 116, 3) := by decide +kernel
theorem dX7_set_27 : decode cX7_set 27 = .ok (.iload_n 1, 1) := by decide +kernel
theorem dX7_set_28 : decode cX7_set 28 = .ok (.iload_n 2, 1) := by decide +kernel
theorem dX7_set_29 : decode cX7_set 29 = .ok (.getstatic 154, 3) := by decide +kernel
theorem dX7_set_32 : decode cX7_set 32 = .ok (.iload_n 1, 1) := by decide +kernel
theorem dX7_set_33 : decode cX7_set 33 = .ok (.iaload, 1) := by decide +kernel
theorem dX7_set_34 : decode cX7_set 34 = .ok (.invokestatic 147, 3) := by decide +kernel
theorem dX7_set_37 : decode cX7_set 37 = .ok (.ireturn, 1) := by decide +kernel
theorem dX7_shine_0 : decode cX7_shine 0 = .ok (.iload_n 1, 1) := by decide +kernel
theorem dX7_shine_1 : decode cX7_shine 1 = .ok (.invokestatic 141, 3) := by decide +kernel
theorem dX7_shine_4 : decode cX7_shine 4 = .ok (.ifCond .eq 20, 3) := by decide +kernel
theorem dX7_shine_7 : decode cX7_shine 7 = .ok (.aload_n 0, 1) := by decide +kernel
theorem dX7_shine_8 : decode cX7_shine 8 = .ok (.getfield 12, 3) := by decide +kernel
theorem dX7_shine_11 : decode cX7_shine 11 = .ok (.getfield 144, 3) := by decide +kernel
theorem dX7_shine_14 : decode cX7_shine 14 = .ok (.iload_n 1, 1) := by decide +kernel
theorem dX7_shine_15 : decode cX7_shine 15 = .ok (.iload_n 2, 1) := by decide +kernel
theorem dX7_shine_16 : decode cX7_shine 16 = .ok (.bipush 9, 2) := by decide +kernel
theorem dX7_shine_18 : decode cX7_shine 18 = .ok (.invokestatic 147, 3) := by decide +kernel
theorem dX7_shine_21 : decode cX7_shine 21 = .ok (.goto 4, 3) := by decide +kernel
theorem dX7_shine_24 : decode cX7_shine 24 = .ok (.iconst (-1), 1) := by decide +kernel
theorem dX7_shine_25 : decode cX7_shine 25 = .ok (.ireturn, 1) := by decide +kernel
theorem dX7_bring_0 : decode cX7_bring 0 = .ok (.aload_n 0, 1) := by decide +kernel
theorem dX7_bring_1 : decode cX7_bring 1 = .ok (.getfield 12, 3) := by decide +kernel
theorem dX7_bring_4 : decode cX7_bring 4 = .ok (.iload_n 1, 1) := by decide +kernel
theorem dX7_bring_5 : decode cX7_bring 5 = .ok (.iload_n 2, 1) := by decide +kernel
theorem dX7_bring_6 : decode cX7_bring 6 = .ok (.invokevirtual 157, 3) := by decide +kernel
theorem dX7_bring_9 : decode cX7_bring 9 = .ok (.ireturn, 1) := by decide +kernel
theorem dX7_fetch_0 : decode cX7_fetch 0 = .ok (.aload_n 0, 1) := by decide +kernel
theorem dX7_fetch_1 : decode cX7_fetch 1 = .ok (.iload_n 1, 1) := by decide +kernel
theorem dX7_fetch_2 : decode cX7_fetch 2 = .ok (.invokevirtual 119, 3) := by decide +kernel
theorem dX7_fetch_5 : decode cX7_fetch 5 = .ok (.ifCond .ne 5, 3) := by decide +kernel
theorem dX7_fetch_8 : decode cX7_fetch 8 = .ok (.iconst (-1), 1) := by decide +kernel
theorem dX7_fetch_9 : decode cX7_fetch 9 = .ok (.ireturn, 1) := by decide +kernel
theorem dX7_fetch_10 : decode cX7_fetch 10 = .ok (.aload_n 0, 1) := by decide +kernel
theorem dX7_fetch_11 : decode cX7_fetch 11 = .ok (.getfield 12, 3) := by decide +kernel
theorem dX7_fetch_14 : decode cX7_fetch 14 = .ok (.getfield 131, 3) := by decide +kernel
theorem dX7_fetch_17 : decode cX7_fetch 17 = .ok (.iload_n 1, 1) := by decide +kernel
theorem dX7_fetch_18 : decode cX7_fetch 18 = .ok (.iaload, 1) := by decide +kernel
theorem dX7_fetch_19 : decode cX7_fetch 19 = .ok (.istore_n 2, 1) := by decide +kernel
theorem dX7_fetch_20 : decode cX7_fetch 20 = .ok (.iload_n 2, 1) := by decide +kernel
theorem dX7_fetch_21 : decode cX7_fetch 21 = .ok (.ifCond .ne 6, 3) := by decide +kernel
theorem dX7_fetch_24 : decode cX7_fetch 24 = .ok (.bipush (-2), 2) := by decide +kernel
theorem dX7_fetch_26 : decode cX7_fetch 26 = .ok (.ireturn, 1) := by decide +kernel
theorem dX7_fetch_27 : decode cX7_fetch 27 = .ok (.aload_n 0, 1) := by decide +kernel
theorem dX7_fetch_28 : decode cX7_fetch 28 = .ok (.getfield 12, 3) := by decide +kernel
theorem dX7_fetch_31 : decode cX7_fetch 31 = .ok (.getfield 131, 3) := by decide +kernel
theorem dX7_fetch_34 : decode cX7_fetch 34 = .ok (.iload_n 1, 1) := by decide +kernel
theorem dX7_fetch_35 : decode cX7_fetch 35 = .ok (.iconst 0, 1) := by decide +kernel
theorem dX7_fetch_36 : decode cX7_fetch 36 = .ok (.iastore, 1) := by decide +kernel
theorem dX7_fetch_37 : decode cX7_fetch 37 = .ok (.iload_n 2, 1) := by decide +kernel
theorem dX7_fetch_38 : decode cX7_fetch 38 = .ok (.ireturn, 1) := by decide +kernel
theorem dX7_days_0 : decode cX7_days 0 = .ok (.iload_n 1, 1) := by decide +kernel
theorem dX7_days_1 : decode cX7_days 1 = .ok (.iconst 0, 1) := by decide +kernel
theorem dX7_days_2 : decode cX7_days 2 = .ok (.bipush 30, 2) := by decide +kernel
theorem dX7_days_4 : decode cX7_days 4 = .ok (.invokestatic 71, 3) := by decide +kernel
theorem dX7_days_7 : decode cX7_days 7 = .ok (.ifCond .ne 5, 3) := by decide +kernel
theorem dX7_days_10 : decode cX7_days 10 = .ok (.iconst (-1), 1) := by decide +kernel
theorem dX7_days_11 : decode cX7_days 11 = .ok (.ireturn, 1) := by decide +kernel
theorem dX7_days_12 : decode cX7_days 12 = .ok (.aload_n 0, 1) := by decide +kernel
theorem dX7_days_13 : decode cX7_days 13 = .ok (.getfield 12, 3) := by decide +kernel
theorem dX7_days_16 : decode cX7_days 16 = .ok (.getfield 102, 3) := by decide +kernel
theorem dX7_days_19 : decode cX7_days 19 = .ok (.iload_n 1, 1) := by decide +kernel
theorem dX7_days_20 : decode cX7_days 20 = .ok (.iadd, 1) := by decide +kernel
theorem dX7_days_21 : decode cX7_days 21 = .ok (.sipush 999, 3) := by decide +kernel
theorem dX7_days_24 : decode cX7_days 24 = .ok (.if_icmp .le 6, 3) := by decide +kernel
theorem dX7_days_27 : decode cX7_days 27 = .ok (.bipush (-3), 2) := by decide +kernel
theorem dX7_days_29 : decode cX7_days 29 = .ok (.ireturn, 1) := by decide +kernel
theorem dX7_days_30 : decode cX7_days 30 = .ok (.aload_n 0, 1) := by decide +kernel
theorem dX7_days_31 : decode cX7_days 31 = .ok (.getfield 12, 3) := by decide +kernel
theorem dX7_days_34 : decode cX7_days 34 = .ok (.iload_n 1, 1) := by decide +kernel
theorem dX7_days_35 : decode cX7_days 35 = .ok (.invokevirtual 160, 3) := by decide +kernel
theorem dX7_days_38 : decode cX7_days 38 = .ok (.ireturn, 1) := by decide +kernel
theorem dX7_runs_0 : decode cX7_runs 0 = .ok (.iload_n 1, 1) := by decide +kernel
theorem dX7_runs_1 : decode cX7_runs 1 = .ok (.iconst 0, 1) := by decide +kernel
theorem dX7_runs_2 : decode cX7_runs 2 = .ok (.bipush 60, 2) := by decide +kernel
theorem dX7_runs_4 : decode cX7_runs 4 = .ok (.invokestatic 71, 3) := by decide +kernel
theorem dX7_runs_7 : decode cX7_runs 7 = .ok (.ifCond .ne 5, 3) := by decide +kernel
theorem dX7_runs_10 : decode cX7_runs 10 = .ok (.iconst (-1), 1) := by decide +kernel
theorem dX7_runs_11 : decode cX7_runs 11 = .ok (.ireturn, 1) := by decide +kernel
theorem dX7_runs_12 : decode cX7_runs 12 = .ok (.aload_n 0, 1) := by decide +kernel
theorem dX7_runs_13 : decode cX7_runs 13 = .ok (.getfield 16, 3) := by decide +kernel
theorem dX7_runs_16 : decode cX7_runs 16 = .ok (.aload_n 0, 1) := by decide +kernel
theorem dX7_runs_17 : decode cX7_runs 17 = .ok (.getfield 12, 3) := by decide +kernel
theorem dX7_runs_20 : decode cX7_runs 20 = .ok (.invokevirtual 87, 3) := by decide +kernel
theorem dX7_runs_23 : decode cX7_runs 23 = .ok (.iconst 0, 1) := by decide +kernel
theorem dX7_runs_24 : decode cX7_runs 24 = .ok (.istore_n 3, 1) := by decide +kernel
theorem dX7_runs_25 : decode cX7_runs 25 = .ok (.iconst 0, 1) := by decide +kernel
theorem dX7_runs_26 : decode cX7_runs 26 = .ok (.istore 4, 2) := by decide +kernel
theorem dX7_runs_28 : decode cX7_runs 28 = .ok (.iconst 0, 1) := by decide +kernel
theorem dX7_runs_29 : decode cX7_runs 29 = .ok (.istore 5, 2) := by decide +kernel
theorem dX7_runs_31 : decode cX7_runs 31 = .ok (.iload 5, 2) := by decide +kernel
theorem dX7_runs_33 : decode cX7_runs 33 = .ok (.iload_n 1, 1) := by decide +kernel
theorem dX7_runs_34 : decode cX7_runs 34 = .ok (.if_icmp .ge 54, 3) := by decide +kernel
theorem dX7_runs_37 : decode cX7_runs 37 = .ok (.aload_n 0, 1) := by decide +kernel
theorem dX7_runs_38 : decode cX7_runs 38 = .ok (.getfield 16, 3) := by decide +kernel
theorem dX7_runs_41 : decode cX7_runs 41 = .ok (.aload_n 0, 1) := by decide +kernel
theorem dX7_runs_42 : decode cX7_runs 42 = .ok (.getfield 16, 3) := by decide +kernel
theorem dX7_runs_45 : decode cX7_runs 45 = .ok (.invokevirtual 113, 3) := by decide +kernel
theorem dX7_runs_48 : decode cX7_runs 48 = .ok (.invokevirtual 163, 3) := by decide +kernel
theorem dX7_runs_51 : decode cX7_runs 51 = .ok (.pop, 1) := by decide +kernel
theorem dX7_runs_52 : decode cX7_runs 52 = .ok (.iload_n 3, 1) := by decide +kernel
theorem dX7_runs_53 : decode cX7_runs 53 = .ok (.aload_n 0, 1) := by decide +kernel
theorem dX7_runs_54 : decode cX7_runs 54 = .ok (.getfield 16, 3) := by decide +kernel
theorem dX7_runs_57 : decode cX7_runs 57 = .ok (.getfield 166, 3) := by decide +kernel
theorem dX7_runs_60 : decode cX7_runs 60 = .ok (.iadd, 1) := by decide +kernel
theorem dX7_runs_61 : decode cX7_runs 61 = .ok (.istore_n 3, 1) := by decide +kernel
theorem dX7_runs_62 : decode cX7_runs 62 = .ok (.iload 4, 2) := by decide +kernel
theorem dX7_runs_64 : decode cX7_runs 64 = .ok (.aload_n 0, 1) := by decide +kernel
theorem dX7_runs_65 : decode cX7_runs 65 = .ok (.getfield 16, 3) := by decide +kernel
theorem dX7_runs_68 : decode cX7_runs 68 = .ok (.getfield 166, 3) := by decide +kernel
theorem dX7_runs_71 : decode cX7_runs 71 = .ok (.ifCond .ne 7, 3) := by decide +kernel
theorem dX7_runs_74 : decode cX7_runs 74 = .ok (.iconst 1, 1) := by decide +kernel
theorem dX7_runs_75 : decode cX7_runs 75 = .ok (.goto 4, 3) := by decide +kernel
theorem dX7_runs_78 : decode cX7_runs 78 = .ok (.iconst 0, 1) := by decide +kernel
theorem dX7_runs_79 : decode cX7_runs 79 = .ok (.iadd, 1) := by decide +kernel
theorem dX7_runs_80 : decode cX7_runs 80 = .ok (.istore 4, 2) := by decide +kernel
theorem dX7_runs_82 : decode cX7_runs 82 = .ok (.iinc 5 1, 3) := by decide +kernel
theorem dX7_runs_85 : decode cX7_runs 85 = .ok (.goto (-54), 3) := by decide +kernel
theorem dX7_runs_88 : decode cX7_runs 88 = .ok (.iload_n 2, 1) := by decide +kernel
theorem dX7_runs_89 : decode cX7_runs 89 = .ok (.tableswitch 69 0 4 #[35, 47, 55, 64, 66], 35) := by decide +kernel
theorem dX7_runs_124 : decode cX7_runs 124 = .ok (.aload_n 0, 1) := by decide +kernel
theorem dX7_runs_125 : decode cX7_runs 125 = .ok (.getfield 16, 3) := by decide +kernel
theorem dX7_runs_128 : decode cX7_runs 128 = .ok (.iconst 2, 1) := by decide +kernel
theorem dX7_runs_129 : decode cX7_runs 129 = .ok (.invokevirtual 105, 3) := by decide +kernel
theorem dX7_runs_132 : decode cX7_runs 132 = .ok (.invokestatic 169, 3) := by decide +kernel
theorem dX7_runs_135 : decode cX7_runs 135 = .ok (.ireturn, 1) := by decide +kernel
theorem dX7_runs_136 : decode cX7_runs 136 = .ok (.aload_n 0, 1) := by decide +kernel
theorem dX7_runs_137 : decode cX7_runs 137 = .ok (.getfield 16, 3) := by decide +kernel
theorem dX7_runs_140 : decode cX7_runs 140 = .ok (.invokevirtual 109, 3) := by decide +kernel
theorem dX7_runs_143 : decode cX7_runs 143 = .ok (.ireturn, 1) := by decide +kernel
theorem dX7_runs_144 : decode cX7_runs 144 = .ok (.aload_n 0, 1) := by decide +kernel
theorem dX7_runs_145 : decode cX7_runs 145 = .ok (.getfield 16, 3) := by decide +kernel
theorem dX7_runs_148 : decode cX7_runs 148 = .ok (.iconst 1, 1) := by decide +kernel
theorem dX7_runs_149 : decode cX7_runs 149 = .ok (.invokevirtual 105, 3) := by decide +kernel
theorem dX7_runs_152 : decode cX7_runs 152 = .ok (.ireturn, 1) := by decide +kernel
theorem dX7_runs_153 : decode cX7_runs 153 = .ok (.iload_n 3, 1) := by decide +kernel
theorem dX7_runs_154 : decode cX7_runs 154 = .ok (.ireturn, 1) := by decide +kernel
theorem dX7_runs_155 : decode cX7_runs 155 = .ok (.iload 4, 2) := by decide +kernel
theorem dX7_runs_157 : decode cX7_runs 157 = .ok (.ireturn, 1) := by decide +kernel
theorem dX7_runs_158 : decode cX7_runs 158 = .ok (.iconst (-1), 1) := by decide +kernel
theorem dX7_runs_159 : decode cX7_runs 159 = .ok (.ireturn, 1) := by decide +kernel
theorem dX7_ahead_0 : decode cX7_ahead 0 = .ok (.aload_n 0, 1) := by decide +kernel
theorem dX7_ahead_1 : decode cX7_ahead 1 = .ok (.iload_n 1, 1) := by decide +kernel
theorem dX7_ahead_2 : decode cX7_ahead 2 = .ok (.invokevirtual 119, 3) := by decide +kernel
theorem dX7_ahead_5 : decode cX7_ahead 5 = .ok (.ifCond .eq 13, 3) := by decide +kernel
theorem dX7_ahead_8 : decode cX7_ahead 8 = .ok (.iload_n 2, 1) := by decide +kernel
theorem dX7_ahead_9 : decode cX7_ahead 9 = .ok (.iconst 0, 1) := by decide +kernel
theorem dX7_ahead_10 : decode cX7_ahead 10 = .ok (.bipush 60, 2) := by decide +kernel
theorem dX7_ahead_12 : decode cX7_ahead 12 = .ok (.invokestatic 71, 3) := by decide +kernel
theorem dX7_ahead_15 : decode cX7_ahead 15 = .ok (.ifCond .ne 5, 3) := by decide +kernel
theorem dX7_ahead_18 : decode cX7_ahead 18 = .ok (.iconst (-1), 1) := by decide +kernel
theorem dX7_ahead_19 : decode cX7_ahead 19 = .ok (.ireturn, 1) := by decide +kernel
theorem dX7_ahead_20 : decode cX7_ahead 20 = .ok (.aload_n 0, 1) := by decide +kernel
theorem dX7_ahead_21 : decode cX7_ahead 21 = .ok (.getfield 16, 3) := by decide +kernel
theorem dX7_ahead_24 : decode cX7_ahead 24 = .ok (.aload_n 0, 1) := by decide +kernel
theorem dX7_ahead_25 : decode cX7_ahead 25 = .ok (.getfield 12, 3) := by decide +kernel
theorem dX7_ahead_28 : decode cX7_ahead 28 = .ok (.invokevirtual 87, 3) := by decide +kernel
theorem dX7_ahead_31 : decode cX7_ahead 31 = .ok (.aload_n 0, 1) := by decide +kernel
theorem dX7_ahead_32 : decode cX7_ahead 32 = .ok (.getfield 16, 3) := by decide +kernel
theorem dX7_ahead_35 : decode cX7_ahead 35 = .ok (.iload_n 2, 1) := by decide +kernel
theorem dX7_ahead_36 : decode cX7_ahead 36 = .ok (.invokevirtual 160, 3) := by decide +kernel
theorem dX7_ahead_39 : decode cX7_ahead 39 = .ok (.pop, 1) := by decide +kernel
theorem dX7_ahead_40 : decode cX7_ahead 40 = .ok (.iload_n 3, 1) := by decide +kernel
theorem dX7_ahead_41 : decode cX7_ahead 41 = .ok (.tableswitch 57 0 2 #[27, 37, 47], 27) := by decide +kernel
theorem dX7_ahead_68 : decode cX7_ahead 68 = .ok (.aload_n 0, 1) := by decide +kernel
theorem dX7_ahead_69 : decode cX7_ahead 69 = .ok (.getfield 16, 3) := by decide +kernel
theorem dX7_ahead_72 : decode cX7_ahead 72 = .ok (.getfield 125, 3) := by decide +kernel
theorem dX7_ahead_75 : decode cX7_ahead 75 = .ok (.iload_n 1, 1) := by decide +kernel
theorem dX7_ahead_76 : decode cX7_ahead 76 = .ok (.iaload, 1) := by decide +kernel
theorem dX7_ahead_77 : decode cX7_ahead 77 = .ok (.ireturn, 1) := by decide +kernel
theorem dX7_ahead_78 : decode cX7_ahead 78 = .ok (.aload_n 0, 1) := by decide +kernel
theorem dX7_ahead_79 : decode cX7_ahead 79 = .ok (.getfield 16, 3) := by decide +kernel
theorem dX7_ahead_82 : decode cX7_ahead 82 = .ok (.getfield 128, 3) := by decide +kernel
theorem dX7_ahead_85 : decode cX7_ahead 85 = .ok (.iload_n 1, 1) := by decide +kernel
theorem dX7_ahead_86 : decode cX7_ahead 86 = .ok (.iaload, 1) := by decide +kernel
theorem dX7_ahead_87 : decode cX7_ahead 87 = .ok (.ireturn, 1) := by decide +kernel
theorem dX7_ahead_88 : decode cX7_ahead 88 = .ok (.aload_n 0, 1) := by decide +kernel
theorem dX7_ahead_89 : decode cX7_ahead 89 = .ok (.getfield 16, 3) := by decide +kernel
theorem dX7_ahead_92 : decode cX7_ahead 92 = .ok (.getfield 131, 3) := by decide +kernel
theorem dX7_ahead_95 : decode cX7_ahead 95 = .ok (.iload_n 1, 1) := by decide +kernel
theorem dX7_ahead_96 : decode cX7_ahead 96 = .ok (.iaload, 1) := by decide +kernel
theorem dX7_ahead_97 : decode cX7_ahead 97 = .ok (.ireturn, 1) := by decide +kernel
theorem dX7_ahead_98 : decode cX7_ahead 98 = .ok (.iconst (-1), 1) := by decide +kernel
theorem dX7_ahead_99 : decode cX7_ahead 99 = .ok (.ireturn, 1) := by decide +kernel
theorem dX7_home_0 : decode cX7_home 0 = .ok (.aload_n 0, 1) := by decide +kernel
theorem dX7_home_1 : decode cX7_home 1 = .ok (.iload_n 1, 1) := by decide +kernel
theorem dX7_home_2 : decode cX7_home 2 = .ok (.invokevirtual 119, 3) := by decide +kernel
theorem dX7_home_5 : decode cX7_home 5 = .ok (.ifCond .ne 5, 3) := by decide +kernel
theorem dX7_home_8 : decode cX7_home 8 = .ok (.iconst (-1), 1) := by decide +kernel
theorem dX7_home_9 : decode cX7_home 9 = .ok (.ireturn, 1) := by decide +kernel
theorem dX7_home_10 : decode cX7_home 10 = .ok (.aload_n 0, 1) := by decide +kernel
theorem dX7_home_11 : decode cX7_home 11 = .ok (.getfield 16, 3) := by decide +kernel
theorem dX7_home_14 : decode cX7_home 14 = .ok (.aload_n 0, 1) := by decide +kernel
theorem dX7_home_15 : decode cX7_home 15 = .ok (.getfield 12, 3) := by decide +kernel
theorem dX7_home_18 : decode cX7_home 18 = .ok (.invokevirtual 87, 3) := by decide +kernel
theorem dX7_home_21 : decode cX7_home 21 = .ok (.aload_n 0, 1) := by decide +kernel
theorem dX7_home_22 : decode cX7_home 22 = .ok (.getfield 16, 3) := by decide +kernel
theorem dX7_home_25 : decode cX7_home 25 = .ok (.iload_n 1, 1) := by decide +kernel
theorem dX7_home_26 : decode cX7_home 26 = .ok (.bipush 60, 2) := by decide +kernel
theorem dX7_home_28 : decode cX7_home 28 = .ok (.invokevirtual 174, 3) := by decide +kernel
theorem dX7_home_31 : decode cX7_home 31 = .ok (.invokestatic 177, 3) := by decide +kernel
theorem dX7_home_34 : decode cX7_home 34 = .ok (.ireturn, 1) := by decide +kernel
theorem dX7_done_0 : decode cX7_done 0 = .ok (.aload_n 0, 1) := by decide +kernel
theorem dX7_done_1 : decode cX7_done 1 = .ok (.invokevirtual 180, 3) := by decide +kernel
theorem dX7_done_4 : decode cX7_done 4 = .ok (.invokestatic 177, 3) := by decide +kernel
theorem dX7_done_7 : decode cX7_done 7 = .ok (.ireturn, 1) := by decide +kernel
theorem dX7_blue_0 : decode cX7_blue 0 = .ok (.aload_n 0, 1) := by decide +kernel
theorem dX7_blue_1 : decode cX7_blue 1 = .ok (.iconst 0, 1) := by decide +kernel
theorem dX7_blue_2 : decode cX7_blue 2 = .ok (.iload_n 1, 1) := by decide +kernel
theorem dX7_blue_3 : decode cX7_blue 3 = .ok (.invokevirtual 183, 3) := by decide +kernel
theorem dX7_blue_6 : decode cX7_blue 6 = .ok (.ireturn, 1) := by decide +kernel
theorem dX7_pegs_0 : decode cX7_pegs 0 = .ok (.aload_n 0, 1) := by decide +kernel
theorem dX7_pegs_1 : decode cX7_pegs 1 = .ok (.iconst 2, 1) := by decide +kernel
theorem dX7_pegs_2 : decode cX7_pegs 2 = .ok (.iload_n 1, 1) := by decide +kernel
theorem dX7_pegs_3 : decode cX7_pegs 3 = .ok (.invokevirtual 183, 3) := by decide +kernel
theorem dX7_pegs_6 : decode cX7_pegs 6 = .ok (.ireturn, 1) := by decide +kernel
theorem dX7_batch_0 : decode cX7_batch 0 = .ok (.iload_n 1, 1) := by decide +kernel
theorem dX7_batch_1 : decode cX7_batch 1 = .ok (.invokestatic 186, 3) := by decide +kernel
theorem dX7_batch_4 : decode cX7_batch 4 = .ok (.ifCond .ne 5, 3) := by decide +kernel
theorem dX7_batch_7 : decode cX7_batch 7 = .ok (.iconst (-1), 1) := by decide +kernel
theorem dX7_batch_8 : decode cX7_batch 8 = .ok (.ireturn, 1) := by decide +kernel
theorem dX7_batch_9 : decode cX7_batch 9 = .ok (.aload_n 0, 1) := by decide +kernel
theorem dX7_batch_10 : decode cX7_batch 10 = .ok (.getfield 49, 3) := by decide +kernel
theorem dX7_batch_13 : decode cX7_batch 13 = .ok (.bipush 61, 2) := by decide +kernel
theorem dX7_batch_15 : decode cX7_batch 15 = .ok (.invokevirtual 189, 3) := by decide +kernel
theorem dX7_batch_18 : decode cX7_batch 18 = .ok (.getstatic 151, 3) := by decide +kernel
theorem dX7_batch_21 : decode cX7_batch 21 = .ok (.iconst 1, 1) := by decide +kernel
theorem dX7_batch_22 : decode cX7_batch 22 = .ok (.iaload, 1) := by decide +kernel
theorem dX7_batch_23 : decode cX7_batch 23 = .ok (.istore_n 2, 1) := by decide +kernel
theorem dX7_batch_24 : decode cX7_batch 24 = .ok (.iload_n 2, 1) := by decide +kernel
theorem dX7_batch_25 : decode cX7_batch 25 = .ok (.getstatic 154, 3) := by decide +kernel
theorem dX7_batch_28 : decode cX7_batch 28 = .ok (.iconst 1, 1) := by decide +kernel
theorem dX7_batch_29 : decode cX7_batch 29 = .ok (.iaload, 1) := by decide +kernel
theorem dX7_batch_30 : decode cX7_batch 30 = .ok (.if_icmp .gt 47, 3) := by decide +kernel
theorem dX7_batch_33 : decode cX7_batch 33 = .ok (.aload_n 0, 1) := by decide +kernel
theorem dX7_batch_34 : decode cX7_batch 34 = .ok (.getfield 16, 3) := by decide +kernel
theorem dX7_batch_37 : decode cX7_batch 37 = .ok (.aload_n 0, 1) := by decide +kernel
theorem dX7_batch_38 : decode cX7_batch 38 = .ok (.getfield 12, 3) := by decide +kernel
theorem dX7_batch_41 : decode cX7_batch 41 = .ok (.invokevirtual 87, 3) := by decide +kernel
theorem dX7_batch_44 : decode cX7_batch 44 = .ok (.aload_n 0, 1) := by decide +kernel
theorem dX7_batch_45 : decode cX7_batch 45 = .ok (.getfield 16, 3) := by decide +kernel
theorem dX7_batch_48 : decode cX7_batch 48 = .ok (.getfield 116, 3) := by decide +kernel
theorem dX7_batch_51 : decode cX7_batch 51 = .ok (.iconst 1, 1) := by decide +kernel
theorem dX7_batch_52 : decode cX7_batch 52 = .ok (.iload_n 2, 1) := by decide +kernel
theorem dX7_batch_53 : decode cX7_batch 53 = .ok (.iastore, 1) := by decide +kernel
theorem dX7_batch_54 : decode cX7_batch 54 = .ok (.aload_n 0, 1) := by decide +kernel
theorem dX7_batch_55 : decode cX7_batch 55 = .ok (.getfield 49, 3) := by decide +kernel
theorem dX7_batch_58 : decode cX7_batch 58 = .ok (.iload_n 2, 1) := by decide +kernel
theorem dX7_batch_59 : decode cX7_batch 59 = .ok (.aload_n 0, 1) := by decide +kernel
theorem dX7_batch_60 : decode cX7_batch 60 = .ok (.getfield 16, 3) := by decide +kernel
theorem dX7_batch_63 : decode cX7_batch 63 = .ok (.bipush 60, 2) := by decide +kernel
theorem dX7_batch_65 : decode cX7_batch 65 = .ok (.invokevirtual 193, 3) := by decide +kernel
theorem dX7_batch_68 : decode cX7_batch 68 = .ok (.invokevirtual 196, 3) := by decide +kernel
theorem dX7_batch_71 : decode cX7_batch 71 = .ok (.iinc 2 1, 3) := by decide +kernel
theorem dX7_batch_74 : decode cX7_batch 74 = .ok (.goto (-50), 3) := by decide +kernel
theorem dX7_batch_77 : decode cX7_batch 77 = .ok (.aload_n 0, 1) := by decide +kernel
theorem dX7_batch_78 : decode cX7_batch 78 = .ok (.getfield 49, 3) := by decide +kernel
theorem dX7_batch_81 : decode cX7_batch 81 = .ok (.iload_n 1, 1) := by decide +kernel
theorem dX7_batch_82 : decode cX7_batch 82 = .ok (.invokevirtual 200, 3) := by decide +kernel
theorem dX7_batch_85 : decode cX7_batch 85 = .ok (.ireturn, 1) := by decide +kernel
theorem dX7_swap_0 : decode cX7_swap 0 = .ok (.iload_n 1, 1) := by decide +kernel
theorem dX7_swap_1 : decode cX7_swap 1 = .ok (.invokestatic 186, 3) := by decide +kernel
theorem dX7_swap_4 : decode cX7_swap 4 = .ok (.ifCond .ne 5, 3) := by decide +kernel
theorem dX7_swap_7 : decode cX7_swap 7 = .ok (.iconst (-1), 1) := by decide +kernel
theorem dX7_swap_8 : decode cX7_swap 8 = .ok (.ireturn, 1) := by decide +kernel
theorem dX7_swap_9 : decode cX7_swap 9 = .ok (.aload_n 0, 1) := by decide +kernel
theorem dX7_swap_10 : decode cX7_swap 10 = .ok (.getfield 49, 3) := by decide +kernel
theorem dX7_swap_13 : decode cX7_swap 13 = .ok (.aload_n 0, 1) := by decide +kernel
theorem dX7_swap_14 : decode cX7_swap 14 = .ok (.invokevirtual 180, 3) := by decide +kernel
theorem dX7_swap_17 : decode cX7_swap 17 = .ok (.invokevirtual 189, 3) := by decide +kernel
theorem dX7_swap_20 : decode cX7_swap 20 = .ok (.iconst 0, 1) := by decide +kernel
theorem dX7_swap_21 : decode cX7_swap 21 = .ok (.istore_n 2, 1) := by decide +kernel
theorem dX7_swap_22 : decode cX7_swap 22 = .ok (.iload_n 2, 1) := by decide +kernel
theorem dX7_swap_23 : decode cX7_swap 23 = .ok (.aload_n 0, 1) := by decide +kernel
theorem dX7_swap_24 : decode cX7_swap 24 = .ok (.getfield 12, 3) := by decide +kernel
theorem dX7_swap_27 : decode cX7_swap 27 = .ok (.getfield 101, 3) := by decide +kernel
theorem dX7_swap_30 : decode cX7_swap 30 = .ok (.if_icmp .ge 72, 3) := by decide +kernel
theorem dX7_swap_33 : decode cX7_swap 33 = .ok (.iload_n 2, 1) := by decide +kernel
theorem dX7_swap_34 : decode cX7_swap 34 = .ok (.iconst 1, 1) := by decide +kernel
theorem dX7_swap_35 : decode cX7_swap 35 = .ok (.iadd, 1) := by decide +kernel
theorem dX7_swap_36 : decode cX7_swap 36 = .ok (.istore_n 3, 1) := by decide +kernel
theorem dX7_swap_37 : decode cX7_swap 37 = .ok (.iload_n 3, 1) := by decide +kernel
theorem dX7_swap_38 : decode cX7_swap 38 = .ok (.aload_n 0, 1) := by decide +kernel
theorem dX7_swap_39 : decode cX7_swap 39 = .ok (.getfield 12, 3) := by decide +kernel
theorem dX7_swap_42 : decode cX7_swap 42 = .ok (.getfield 101, 3) := by decide +kernel
theorem dX7_swap_45 : decode cX7_swap 45 = .ok (.if_icmp .ge 51, 3) := by decide +kernel
theorem dX7_swap_48 : decode cX7_swap 48 = .ok (.aload_n 0, 1) := by decide +kernel
theorem dX7_swap_49 : decode cX7_swap 49 = .ok (.getfield 16, 3) := by decide +kernel
theorem dX7_swap_52 : decode cX7_swap 52 = .ok (.aload_n 0, 1) := by decide +kernel
theorem dX7_swap_53 : decode cX7_swap 53 = .ok (.getfield 12, 3) := by decide +kernel
theorem dX7_swap_56 : decode cX7_swap 56 = .ok (.invokevirtual 87, 3) := by decide +kernel
theorem dX7_swap_59 : decode cX7_swap 59 = .ok (.aload_n 0, 1) := by decide +kernel
theorem dX7_swap_60 : decode cX7_swap 60 = .ok (.getfield 16, 3) := by decide +kernel
theorem dX7_swap_63 : decode cX7_swap 63 = .ok (.iload_n 2, 1) := by decide +kernel
theorem dX7_swap_64 : decode cX7_swap 64 = .ok (.iload_n 3, 1) := by decide +kernel
theorem dX7_swap_65 : decode cX7_swap 65 = .ok (.invokevirtual 202, 3) := by decide +kernel
theorem dX7_swap_68 : decode cX7_swap 68 = .ok (.aload_n 0, 1) := by decide +kernel
theorem dX7_swap_69 : decode cX7_swap 69 = .ok (.getfield 49, 3) := by decide +kernel
theorem dX7_swap_72 : decode cX7_swap 72 = .ok (.bipush 10, 2) := by decide +kernel
theorem dX7_swap_74 : decode cX7_swap 74 = .ok (.iload_n 2, 1) := by decide +kernel
theorem dX7_swap_75 : decode cX7_swap 75 = .ok (.imul, 1) := by decide +kernel
theorem dX7_swap_76 : decode cX7_swap 76 = .ok (.iload_n 3, 1) := by decide +kernel
theorem dX7_swap_77 : decode cX7_swap 77 = .ok (.iadd, 1) := by decide +kernel
theorem dX7_swap_78 : decode cX7_swap 78 = .ok (.aload_n 0, 1) := by decide +kernel
theorem dX7_swap_79 : decode cX7_swap 79 = .ok (.getfield 16, 3) := by decide +kernel
theorem dX7_swap_82 : decode cX7_swap 82 = .ok (.bipush 60, 2) := by decide +kernel
theorem dX7_swap_84 : decode cX7_swap 84 = .ok (.invokevirtual 193, 3) := by decide +kernel
theorem dX7_swap_87 : decode cX7_swap 87 = .ok (.invokevirtual 196, 3) := by decide +kernel
theorem dX7_swap_90 : decode cX7_swap 90 = .ok (.iinc 3 1, 3) := by decide +kernel
theorem dX7_swap_93 : decode cX7_swap 93 = .ok (.goto (-56), 3) := by decide +kernel
theorem dX7_swap_96 : decode cX7_swap 96 = .ok (.iinc 2 1, 3) := by decide +kernel
theorem dX7_swap_99 : decode cX7_swap 99 = .ok (.goto (-77), 3) := by decide +kernel
theorem dX7_swap_102 : decode cX7_swap 102 = .ok (.aload_n 0, 1) := by decide +kernel
theorem dX7_swap_103 : decode cX7_swap 103 = .ok (.getfield 49, 3) := by decide +kernel
theorem dX7_swap_106 : decode cX7_swap 106 = .ok (.iload_n 1, 1) := by decide +kernel
theorem dX7_swap_107 : decode cX7_swap 107 = .ok (.invokevirtual 200, 3) := by decide +kernel
theorem dX7_swap_110 : decode cX7_swap 110 = .ok (.ireturn, 1) := by decide +kernel
theorem dX7_fair_0 : decode cX7_fair 0 = .ok (.iload_n 1, 1) := by decide +kernel
theorem dX7_fair_1 : decode cX7_fair 1 = .ok (.invokestatic 186, 3) := by decide +kernel
theorem dX7_fair_4 : decode cX7_fair 4 = .ok (.ifCond .ne 5, 3) := by decide +kernel
theorem dX7_fair_7 : decode cX7_fair 7 = .ok (.iconst (-1), 1) := by decide +kernel
theorem dX7_fair_8 : decode cX7_fair 8 = .ok (.ireturn, 1) := by decide +kernel
theorem dX7_fair_9 : decode cX7_fair 9 = .ok (.aload_n 0, 1) := by decide +kernel
theorem dX7_fair_10 : decode cX7_fair 10 = .ok (.getfield 49, 3) := by decide +kernel
theorem dX7_fair_13 : decode cX7_fair 13 = .ok (.aload_n 0, 1) := by decide +kernel
theorem dX7_fair_14 : decode cX7_fair 14 = .ok (.invokevirtual 180, 3) := by decide +kernel
theorem dX7_fair_17 : decode cX7_fair 17 = .ok (.invokevirtual 189, 3) := by decide +kernel
theorem dX7_fair_20 : decode cX7_fair 20 = .ok (.iconst 0, 1) := by decide +kernel
theorem dX7_fair_21 : decode cX7_fair 21 = .ok (.istore_n 2, 1) := by decide +kernel
theorem dX7_fair_22 : decode cX7_fair 22 = .ok (.iload_n 2, 1) := by decide +kernel
theorem dX7_fair_23 : decode cX7_fair 23 = .ok (.bipush 7, 2) := by decide +kernel
theorem dX7_fair_25 : decode cX7_fair 25 = .ok (.if_icmp .ge 48, 3) := by decide +kernel
theorem dX7_fair_28 : decode cX7_fair 28 = .ok (.aload_n 0, 1) := by decide +kernel
theorem dX7_fair_29 : decode cX7_fair 29 = .ok (.getfield 16, 3) := by decide +kernel
theorem dX7_fair_32 : decode cX7_fair 32 = .ok (.aload_n 0, 1) := by decide +kernel
theorem dX7_fair_33 : decode cX7_fair 33 = .ok (.getfield 12, 3) := by decide +kernel
theorem dX7_fair_36 : decode cX7_fair 36 = .ok (.invokevirtual 87, 3) := by decide +kernel
theorem dX7_fair_39 : decode cX7_fair 39 = .ok (.aload_n 0, 1) := by decide +kernel
theorem dX7_fair_40 : decode cX7_fair 40 = .ok (.getfield 16, 3) := by decide +kernel
theorem dX7_fair_43 : decode cX7_fair 43 = .ok (.getfield 144, 3) := by decide +kernel
theorem dX7_fair_46 : decode cX7_fair 46 = .ok (.iload_n 2, 1) := by decide +kernel
theorem dX7_fair_47 : decode cX7_fair 47 = .ok (.bipush 9, 2) := by decide +kernel
theorem dX7_fair_49 : decode cX7_fair 49 = .ok (.iastore, 1) := by decide +kernel
theorem dX7_fair_50 : decode cX7_fair 50 = .ok (.aload_n 0, 1) := by decide +kernel
theorem dX7_fair_51 : decode cX7_fair 51 = .ok (.getfield 49, 3) := by decide +kernel
theorem dX7_fair_54 : decode cX7_fair 54 = .ok (.iload_n 2, 1) := by decide +kernel
theorem dX7_fair_55 : decode cX7_fair 55 = .ok (.aload_n 0, 1) := by decide +kernel
theorem dX7_fair_56 : decode cX7_fair 56 = .ok (.getfield 16, 3) := by decide +kernel
theorem dX7_fair_59 : decode cX7_fair 59 = .ok (.bipush 60, 2) := by decide +kernel
theorem dX7_fair_61 : decode cX7_fair 61 = .ok (.invokevirtual 193, 3) := by decide +kernel
theorem dX7_fair_64 : decode cX7_fair 64 = .ok (.invokevirtual 196, 3) := by decide +kernel
theorem dX7_fair_67 : decode cX7_fair 67 = .ok (.iinc 2 1, 3) := by decide +kernel
theorem dX7_fair_70 : decode cX7_fair 70 = .ok (.goto (-48), 3) := by decide +kernel
theorem dX7_fair_73 : decode cX7_fair 73 = .ok (.aload_n 0, 1) := by decide +kernel
theorem dX7_fair_74 : decode cX7_fair 74 = .ok (.getfield 49, 3) := by decide +kernel
theorem dX7_fair_77 : decode cX7_fair 77 = .ok (.iload_n 1, 1) := by decide +kernel
theorem dX7_fair_78 : decode cX7_fair 78 = .ok (.invokevirtual 200, 3) := by decide +kernel
theorem dX7_fair_81 : decode cX7_fair 81 = .ok (.ireturn, 1) := by decide +kernel
theorem dX7_stain_0 : decode cX7_stain 0 = .ok (.aload_n 0, 1) := by decide +kernel
theorem dX7_stain_1 : decode cX7_stain 1 = .ok (.iload_n 1, 1) := by decide +kernel
theorem dX7_stain_2 : decode cX7_stain 2 = .ok (.invokevirtual 119, 3) := by decide +kernel
theorem dX7_stain_5 : decode cX7_stain 5 = .ok (.ifCond .eq 13, 3) := by decide +kernel
theorem dX7_stain_8 : decode cX7_stain 8 = .ok (.iload_n 2, 1) := by decide +kernel
theorem dX7_stain_9 : decode cX7_stain 9 = .ok (.iconst 0, 1) := by decide +kernel
theorem dX7_stain_10 : decode cX7_stain 10 = .ok (.bipush 60, 2) := by decide +kernel
theorem dX7_stain_12 : decode cX7_stain 12 = .ok (.invokestatic 71, 3) := by decide +kernel
theorem dX7_stain_15 : decode cX7_stain 15 = .ok (.ifCond .ne 5, 3) := by decide +kernel
theorem dX7_stain_18 : decode cX7_stain 18 = .ok (.iconst (-1), 1) := by decide +kernel
theorem dX7_stain_19 : decode cX7_stain 19 = .ok (.ireturn, 1) := by decide +kernel
theorem dX7_stain_20 : decode cX7_stain 20 = .ok (.bipush 60, 2) := by decide +kernel
theorem dX7_stain_22 : decode cX7_stain 22 = .ok (.istore_n 3, 1) := by decide +kernel
theorem dX7_stain_23 : decode cX7_stain 23 = .ok (.iload_n 3, 1) := by decide +kernel
theorem dX7_stain_24 : decode cX7_stain 24 = .ok (.ifCond .lt 46, 3) := by decide +kernel
theorem dX7_stain_27 : decode cX7_stain 27 = .ok (.aload_n 0, 1) := by decide +kernel
theorem dX7_stain_28 : decode cX7_stain 28 = .ok (.getfield 16, 3) := by decide +kernel
theorem dX7_stain_31 : decode cX7_stain 31 = .ok (.aload_n 0, 1) := by decide +kernel
theorem dX7_stain_32 : decode cX7_stain 32 = .ok (.getfield 12, 3) := by decide +kernel
theorem dX7_stain_35 : decode cX7_stain 35 = .ok (.invokevirtual 87, 3) := by decide +kernel
theorem dX7_stain_38 : decode cX7_stain 38 = .ok (.aload_n 0, 1) := by decide +kernel
theorem dX7_stain_39 : decode cX7_stain 39 = .ok (.getfield 16, 3) := by decide +kernel
theorem dX7_stain_42 : decode cX7_stain 42 = .ok (.getfield 125, 3) := by decide +kernel
theorem dX7_stain_45 : decode cX7_stain 45 = .ok (.iload_n 1, 1) := by decide +kernel
theorem dX7_stain_46 : decode cX7_stain 46 = .ok (.iload_n 3, 1) := by decide +kernel
theorem dX7_stain_47 : decode cX7_stain 47 = .ok (.iastore, 1) := by decide +kernel
theorem dX7_stain_48 : decode cX7_stain 48 = .ok (.aload_n 0, 1) := by decide +kernel
theorem dX7_stain_49 : decode cX7_stain 49 = .ok (.getfield 16, 3) := by decide +kernel
theorem dX7_stain_52 : decode cX7_stain 52 = .ok (.iload_n 1, 1) := by decide +kernel
theorem dX7_stain_53 : decode cX7_stain 53 = .ok (.iload_n 2, 1) := by decide +kernel
theorem dX7_stain_54 : decode cX7_stain 54 = .ok (.invokevirtual 174, 3) := by decide +kernel
theorem dX7_stain_57 : decode cX7_stain 57 = .ok (.bipush 61, 2) := by decide +kernel
theorem dX7_stain_59 : decode cX7_stain 59 = .ok (.if_icmp .eq 5, 3) := by decide +kernel
theorem dX7_stain_62 : decode cX7_stain 62 = .ok (.iload_n 3, 1) := by decide +kernel
theorem dX7_stain_63 : decode cX7_stain 63 = .ok (.ireturn, 1) := by decide +kernel
theorem dX7_stain_64 : decode cX7_stain 64 = .ok (.iinc 3 (-1), 3) := by decide +kernel
theorem dX7_stain_67 : decode cX7_stain 67 = .ok (.goto (-44), 3) := by decide +kernel
theorem dX7_stain_70 : decode cX7_stain 70 = .ok (.bipush (-4), 2) := by decide +kernel
theorem dX7_stain_72 : decode cX7_stain 72 = .ok (.ireturn, 1) := by decide +kernel
theorem dX7_kind_0 : decode cX7_kind 0 = .ok (.aload_n 0, 1) := by decide +kernel
theorem dX7_kind_1 : decode cX7_kind 1 = .ok (.iload_n 1, 1) := by decide +kernel
theorem dX7_kind_2 : decode cX7_kind 2 = .ok (.invokevirtual 119, 3) := by decide +kernel
theorem dX7_kind_5 : decode cX7_kind 5 = .ok (.ifCond .eq 10, 3) := by decide +kernel
theorem dX7_kind_8 : decode cX7_kind 8 = .ok (.iload_n 2, 1) := by decide +kernel
theorem dX7_kind_9 : decode cX7_kind 9 = .ok (.invokestatic 186, 3) := by decide +kernel
theorem dX7_kind_12 : decode cX7_kind 12 = .ok (.ifCond .ne 5, 3) := by decide +kernel
theorem dX7_kind_15 : decode cX7_kind 15 = .ok (.iconst (-1), 1) := by decide +kernel
theorem dX7_kind_16 : decode cX7_kind 16 = .ok (.ireturn, 1) := by decide +kernel
theorem dX7_kind_17 : decode cX7_kind 17 = .ok (.aload_n 0, 1) := by decide +kernel
theorem dX7_kind_18 : decode cX7_kind 18 = .ok (.getfield 49, 3) := by decide +kernel
theorem dX7_kind_21 : decode cX7_kind 21 = .ok (.bipush 61, 2) := by decide +kernel
theorem dX7_kind_23 : decode cX7_kind 23 = .ok (.invokevirtual 189, 3) := by decide +kernel
theorem dX7_kind_26 : decode cX7_kind 26 = .ok (.iconst 0, 1) := by decide +kernel
theorem dX7_kind_27 : decode cX7_kind 27 = .ok (.istore_n 3, 1) := by decide +kernel
theorem dX7_kind_28 : decode cX7_kind 28 = .ok (.iload_n 3, 1) := by decide +kernel
theorem dX7_kind_29 : decode cX7_kind 29 = .ok (.iconst 4, 1) := by decide +kernel
theorem dX7_kind_30 : decode cX7_kind 30 = .ok (.if_icmp .ge 47, 3) := by decide +kernel
theorem dX7_kind_33 : decode cX7_kind 33 = .ok (.aload_n 0, 1) := by decide +kernel
theorem dX7_kind_34 : decode cX7_kind 34 = .ok (.getfield 16, 3) := by decide +kernel
theorem dX7_kind_37 : decode cX7_kind 37 = .ok (.aload_n 0, 1) := by decide +kernel
theorem dX7_kind_38 : decode cX7_kind 38 = .ok (.getfield 12, 3) := by decide +kernel
theorem dX7_kind_41 : decode cX7_kind 41 = .ok (.invokevirtual 87, 3) := by decide +kernel
theorem dX7_kind_44 : decode cX7_kind 44 = .ok (.aload_n 0, 1) := by decide +kernel
theorem dX7_kind_45 : decode cX7_kind 45 = .ok (.getfield 16, 3) := by decide +kernel
theorem dX7_kind_48 : decode cX7_kind 48 = .ok (.getfield 122, 3) := by decide +kernel
theorem dX7_kind_51 : decode cX7_kind 51 = .ok (.iload_n 1, 1) := by decide +kernel
theorem dX7_kind_52 : decode cX7_kind 52 = .ok (.iload_n 3, 1) := by decide +kernel
theorem dX7_kind_53 : decode cX7_kind 53 = .ok (.iastore, 1) := by decide +kernel
theorem dX7_kind_54 : decode cX7_kind 54 = .ok (.aload_n 0, 1) := by decide +kernel
theorem dX7_kind_55 : decode cX7_kind 55 = .ok (.getfield 49, 3) := by decide +kernel
theorem dX7_kind_58 : decode cX7_kind 58 = .ok (.iload_n 3, 1) := by decide +kernel
theorem dX7_kind_59 : decode cX7_kind 59 = .ok (.aload_n 0, 1) := by decide +kernel
theorem dX7_kind_60 : decode cX7_kind 60 = .ok (.getfield 16, 3) := by decide +kernel
theorem dX7_kind_63 : decode cX7_kind 63 = .ok (.bipush 60, 2) := by decide +kernel
theorem dX7_kind_65 : decode cX7_kind 65 = .ok (.invokevirtual 193, 3) := by decide +kernel
theorem dX7_kind_68 : decode cX7_kind 68 = .ok (.invokevirtual 196, 3) := by decide +kernel
theorem dX7_kind_71 : decode cX7_kind 71 = .ok (.iinc 3 1, 3) := by decide +kernel
theorem dX7_kind_74 : decode cX7_kind 74 = .ok (.goto (-46), 3) := by decide +kernel
theorem dX7_kind_77 : decode cX7_kind 77 = .ok (.aload_n 0, 1) := by decide +kernel
theorem dX7_kind_78 : decode cX7_kind 78 = .ok (.getfield 49, 3) := by decide +kernel
theorem dX7_kind_81 : decode cX7_kind 81 = .ok (.iload_n 2, 1) := by decide +kernel
theorem dX7_kind_82 : decode cX7_kind 82 = .ok (.invokevirtual 200, 3) := by decide +kernel
theorem dX7_kind_85 : decode cX7_kind 85 = .ok (.ireturn, 1) := by decide +kernel
theorem dX7_luck_0 : decode cX7_luck 0 = .ok (.aload_n 0, 1) := by decide +kernel
theorem dX7_luck_1 : decode cX7_luck 1 = .ok (.iload_n 2, 1) := by decide +kernel
theorem dX7_luck_2 : decode cX7_luck 2 = .ok (.invokevirtual 119, 3) := by decide +kernel
theorem dX7_luck_5 : decode cX7_luck 5 = .ok (.ifCond .ne 7, 3) := by decide +kernel
theorem dX7_luck_8 : decode cX7_luck 8 = .ok (.ldc2_w 205, 3) := by decide +kernel
theorem dX7_luck_11 : decode cX7_luck 11 = .ok (.lreturn, 1) := by decide +kernel
theorem dX7_luck_12 : decode cX7_luck 12 = .ok (.aload_n 0, 1) := by decide +kernel
theorem dX7_luck_13 : decode cX7_luck 13 = .ok (.iload_n 1, 1) := by decide +kernel
theorem dX7_luck_14 : decode cX7_luck 14 = .ok (.iload_n 2, 1) := by decide +kernel
theorem dX7_luck_15 : decode cX7_luck 15 = .ok (.iload_n 3, 1) := by decide +kernel
theorem dX7_luck_16 : decode cX7_luck 16 = .ok (.iload 4, 2) := by decide +kernel
theorem dX7_luck_18 : decode cX7_luck 18 = .ok (.invokevirtual 207, 3) := by decide +kernel
theorem dX7_luck_21 : decode cX7_luck 21 = .ok (.lreturn, 1) := by decide +kernel
theorem dX7_mean_0 : decode cX7_mean 0 = .ok (.aload_n 0, 1) := by decide +kernel
theorem dX7_mean_1 : decode cX7_mean 1 = .ok (.iload_n 1, 1) := by decide +kernel
theorem dX7_mean_2 : decode cX7_mean 2 = .ok (.iconst (-1), 1) := by decide +kernel
theorem dX7_mean_3 : decode cX7_mean 3 = .ok (.iload_n 2, 1) := by decide +kernel
theorem dX7_mean_4 : decode cX7_mean 4 = .ok (.iload_n 3, 1) := by decide +kernel
theorem dX7_mean_5 : decode cX7_mean 5 = .ok (.invokevirtual 207, 3) := by decide +kernel
theorem dX7_mean_8 : decode cX7_mean 8 = .ok (.lreturn, 1) := by decide +kernel
theorem dX7_see_0 : decode cX7_see 0 = .ok (.iload_n 1, 1) := by decide +kernel
theorem dX7_see_1 : decode cX7_see 1 = .ok (.iconst 0, 1) := by decide +kernel
theorem dX7_see_2 : decode cX7_see 2 = .ok (.bipush 20, 2) := by decide +kernel
theorem dX7_see_4 : decode cX7_see 4 = .ok (.invokestatic 71, 3) := by decide +kernel
theorem dX7_see_7 : decode cX7_see 7 = .ok (.ifCond .eq 20, 3) := by decide +kernel
theorem dX7_see_10 : decode cX7_see 10 = .ok (.aload_n 0, 1) := by decide +kernel
theorem dX7_see_11 : decode cX7_see 11 = .ok (.iload_n 2, 1) := by decide +kernel
theorem dX7_see_12 : decode cX7_see 12 = .ok (.invokevirtual 119, 3) := by decide +kernel
theorem dX7_see_15 : decode cX7_see 15 = .ok (.ifCond .eq 12, 3) := by decide +kernel
theorem dX7_see_18 : decode cX7_see 18 = .ok (.iload_n 3, 1) := by decide +kernel
theorem dX7_see_19 : decode cX7_see 19 = .ok (.iconst 0, 1) := by decide +kernel
theorem dX7_see_20 : decode cX7_see 20 = .ok (.iconst 2, 1) := by decide +kernel
theorem dX7_see_21 : decode cX7_see 21 = .ok (.invokestatic 71, 3) := by decide +kernel
theorem dX7_see_24 : decode cX7_see 24 = .ok (.ifCond .ne 5, 3) := by decide +kernel
theorem dX7_see_27 : decode cX7_see 27 = .ok (.iconst (-1), 1) := by decide +kernel
theorem dX7_see_28 : decode cX7_see 28 = .ok (.ireturn, 1) := by decide +kernel
theorem dX7_see_29 : decode cX7_see 29 = .ok (.aload_n 0, 1) := by decide +kernel
theorem dX7_see_30 : decode cX7_see 30 = .ok (.getfield 42, 3) := by decide +kernel
theorem dX7_see_33 : decode cX7_see 33 = .ok (.iload_n 1, 1) := by decide +kernel
theorem dX7_see_34 : decode cX7_see 34 = .ok (.iload_n 2, 1) := by decide +kernel
theorem dX7_see_35 : decode cX7_see 35 = .ok (.iload_n 3, 1) := by decide +kernel
theorem dX7_see_36 : decode cX7_see 36 = .ok (.invokevirtual 211, 3) := by decide +kernel
theorem dX7_see_39 : decode cX7_see 39 = .ok (.ifCond .eq 13, 3) := by decide +kernel
theorem dX7_see_42 : decode cX7_see 42 = .ok (.aload_n 0, 1) := by decide +kernel
theorem dX7_see_43 : decode cX7_see 43 = .ok (.getfield 42, 3) := by decide +kernel
theorem dX7_see_46 : decode cX7_see 46 = .ok (.getfield 91, 3) := by decide +kernel
theorem dX7_see_49 : decode cX7_see 49 = .ok (.goto 5, 3) := by decide +kernel
theorem dX7_see_52 : decode cX7_see 52 = .ok (.bipush (-3), 2) := by decide +kernel
theorem dX7_see_54 : decode cX7_see 54 = .ok (.ireturn, 1) := by decide +kernel
theorem dX7_forget_0 : decode cX7_forget 0 = .ok (.aload_n 0, 1) := by decide +kernel
theorem dX7_forget_1 : decode cX7_forget 1 = .ok (.getfield 42, 3) := by decide +kernel
theorem dX7_forget_4 : decode cX7_forget 4 = .ok (.getfield 91, 3) := by decide +kernel
theorem dX7_forget_7 : decode cX7_forget 7 = .ok (.istore_n 2, 1) := by decide +kernel
theorem dX7_forget_8 : decode cX7_forget 8 = .ok (.iload_n 1, 1) := by decide +kernel
theorem dX7_forget_9 : decode cX7_forget 9 = .ok (.iconst 0, 1) := by decide +kernel
theorem dX7_forget_10 : decode cX7_forget 10 = .ok (.iload_n 2, 1) := by decide +kernel
theorem dX7_forget_11 : decode cX7_forget 11 = .ok (.invokestatic 71, 3) := by decide +kernel
theorem dX7_forget_14 : decode cX7_forget 14 = .ok (.ifCond .ne 5, 3) := by decide +kernel
theorem dX7_forget_17 : decode cX7_forget 17 = .ok (.iconst (-1), 1) := by decide +kernel
theorem dX7_forget_18 : decode cX7_forget 18 = .ok (.ireturn, 1) := by decide +kernel
theorem dX7_forget_19 : decode cX7_forget 19 = .ok (.aload_n 0, 1) := by decide +kernel
theorem dX7_forget_20 : decode cX7_forget 20 = .ok (.getfield 42, 3) := by decide +kernel
theorem dX7_forget_23 : decode cX7_forget 23 = .ok (.iload_n 1, 1) := by decide +kernel
theorem dX7_forget_24 : decode cX7_forget 24 = .ok (.putfield 91, 3) := by decide +kernel
theorem dX7_forget_27 : decode cX7_forget 27 = .ok (.iload_n 2, 1) := by decide +kernel
theorem dX7_forget_28 : decode cX7_forget 28 = .ok (.ireturn, 1) := by decide +kernel
theorem dX7_kinds_0 : decode cX7_kinds 0 = .ok (.aload_n 0, 1) := by decide +kernel
theorem dX7_kinds_1 : decode cX7_kinds 1 = .ok (.iload_n 1, 1) := by decide +kernel
theorem dX7_kinds_2 : decode cX7_kinds 2 = .ok (.invokevirtual 119, 3) := by decide +kernel
theorem dX7_kinds_5 : decode cX7_kinds 5 = .ok (.ifCond .ne 5, 3) := by decide +kernel
theorem dX7_kinds_8 : decode cX7_kinds 8 = .ok (.iconst (-1), 1) := by decide +kernel
theorem dX7_kinds_9 : decode cX7_kinds 9 = .ok (.ireturn, 1) := by decide +kernel
theorem dX7_kinds_10 : decode cX7_kinds 10 = .ok (.iconst 0, 1) := by decide +kernel
theorem dX7_kinds_11 : decode cX7_kinds 11 = .ok (.istore_n 2, 1) := by decide +kernel
theorem dX7_kinds_12 : decode cX7_kinds 12 = .ok (.iconst 0, 1) := by decide +kernel
theorem dX7_kinds_13 : decode cX7_kinds 13 = .ok (.istore_n 3, 1) := by decide +kernel
theorem dX7_kinds_14 : decode cX7_kinds 14 = .ok (.iload_n 3, 1) := by decide +kernel
theorem dX7_kinds_15 : decode cX7_kinds 15 = .ok (.iconst 4, 1) := by decide +kernel
theorem dX7_kinds_16 : decode cX7_kinds 16 = .ok (.if_icmp .ge 50, 3) := by decide +kernel
theorem dX7_kinds_19 : decode cX7_kinds 19 = .ok (.aload_n 0, 1) := by decide +kernel
theorem dX7_kinds_20 : decode cX7_kinds 20 = .ok (.getfield 16, 3) := by decide +kernel
theorem dX7_kinds_23 : decode cX7_kinds 23 = .ok (.aload_n 0, 1) := by decide +kernel
theorem dX7_kinds_24 : decode cX7_kinds 24 = .ok (.getfield 12, 3) := by decide +kernel
theorem dX7_kinds_27 : decode cX7_kinds 27 = .ok (.invokevirtual 87, 3) := by decide +kernel
theorem dX7_kinds_30 : decode cX7_kinds 30 = .ok (.aload_n 0, 1) := by decide +kernel
theorem dX7_kinds_31 : decode cX7_kinds 31 = .ok (.getfield 16, 3) := by decide +kernel
theorem dX7_kinds_34 : decode cX7_kinds 34 = .ok (.getfield 122, 3) := by decide +kernel
theorem dX7_kinds_37 : decode cX7_kinds 37 = .ok (.iload_n 1, 1) := by decide +kernel
theorem dX7_kinds_38 : decode cX7_kinds 38 = .ok (.iload_n 3, 1) := by decide +kernel
theorem dX7_kinds_39 : decode cX7_kinds 39 = .ok (.iastore, 1) := by decide +kernel
theorem dX7_kinds_40 : decode cX7_kinds 40 = .ok (.aload_n 0, 1) := by decide +kernel
theorem dX7_kinds_41 : decode cX7_kinds 41 = .ok (.getfield 42, 3) := by decide +kernel
theorem dX7_kinds_44 : decode cX7_kinds 44 = .ok (.aload_n 0, 1) := by decide +kernel
theorem dX7_kinds_45 : decode cX7_kinds 45 = .ok (.getfield 16, 3) := by decide +kernel
theorem dX7_kinds_48 : decode cX7_kinds 48 = .ok (.invokevirtual 214, 3) := by decide +kernel
theorem dX7_kinds_51 : decode cX7_kinds 51 = .ok (.ifCond .eq 9, 3) := by decide +kernel
theorem dX7_kinds_54 : decode cX7_kinds 54 = .ok (.iload_n 2, 1) := by decide +kernel
theorem dX7_kinds_55 : decode cX7_kinds 55 = .ok (.iconst 1, 1) := by decide +kernel
theorem dX7_kinds_56 : decode cX7_kinds 56 = .ok (.iload_n 3, 1) := by decide +kernel
theorem dX7_kinds_57 : decode cX7_kinds 57 = .ok (.ishl, 1) := by decide +kernel
theorem dX7_kinds_58 : decode cX7_kinds 58 = .ok (.ior, 1) := by decide +kernel
theorem dX7_kinds_59 : decode cX7_kinds 59 = .ok (.istore_n 2, 1) := by decide +kernel
theorem dX7_kinds_60 : decode cX7_kinds 60 = .ok (.iinc 3 1, 3) := by decide +kernel
theorem dX7_kinds_63 : decode cX7_kinds 63 = .ok (.goto (-49), 3) := by decide +kernel
theorem dX7_kinds_66 : decode cX7_kinds 66 = .ok (.iload_n 2, 1) := by decide +kernel
theorem dX7_kinds_67 : decode cX7_kinds 67 = .ok (.ireturn, 1) := by decide +kernel
theorem dX7_greys_0 : decode cX7_greys 0 = .ok (.aload_n 0, 1) := by decide +kernel
theorem dX7_greys_1 : decode cX7_greys 1 = .ok (.iload_n 1, 1) := by decide +kernel
theorem dX7_greys_2 : decode cX7_greys 2 = .ok (.invokevirtual 119, 3) := by decide +kernel
theorem dX7_greys_5 : decode cX7_greys 5 = .ok (.ifCond .eq 11, 3) := by decide +kernel
theorem dX7_greys_8 : decode cX7_greys 8 = .ok (.aload_n 0, 1) := by decide +kernel
theorem dX7_greys_9 : decode cX7_greys 9 = .ok (.iload_n 1, 1) := by decide +kernel
theorem dX7_greys_10 : decode cX7_greys 10 = .ok (.invokevirtual 218, 3) := by decide +kernel
theorem dX7_greys_13 : decode cX7_greys 13 = .ok (.goto 4, 3) := by decide +kernel
theorem dX7_greys_16 : decode cX7_greys 16 = .ok (.iconst (-1), 1) := by decide +kernel
theorem dX7_greys_17 : decode cX7_greys 17 = .ok (.ireturn, 1) := by decide +kernel
theorem dX7_ask_0 : decode cX7_ask 0 = .ok (.aload_n 0, 1) := by decide +kernel
theorem dX7_ask_1 : decode cX7_ask 1 = .ok (.iload_n 1, 1) := by decide +kernel
theorem dX7_ask_2 : decode cX7_ask 2 = .ok (.invokevirtual 119, 3) := by decide +kernel
theorem dX7_ask_5 : decode cX7_ask 5 = .ok (.ifCond .eq 10, 3) := by decide +kernel
theorem dX7_ask_8 : decode cX7_ask 8 = .ok (.iload_n 2, 1) := by decide +kernel
theorem dX7_ask_9 : decode cX7_ask 9 = .ok (.invokestatic 186, 3) := by decide +kernel
theorem dX7_ask_12 : decode cX7_ask 12 = .ok (.ifCond .ne 5, 3) := by decide +kernel
theorem dX7_ask_15 : decode cX7_ask 15 = .ok (.iconst (-1), 1) := by decide +kernel
theorem dX7_ask_16 : decode cX7_ask 16 = .ok (.ireturn, 1) := by decide +kernel
theorem dX7_ask_17 : decode cX7_ask 17 = .ok (.aload_n 0, 1) := by decide +kernel
theorem dX7_ask_18 : decode cX7_ask 18 = .ok (.iload_n 1, 1) := by decide +kernel
theorem dX7_ask_19 : decode cX7_ask 19 = .ok (.invokevirtual 218, 3) := by decide +kernel
theorem dX7_ask_22 : decode cX7_ask 22 = .ok (.istore_n 3, 1) := by decide +kernel
theorem dX7_ask_23 : decode cX7_ask 23 = .ok (.aload_n 0, 1) := by decide +kernel
theorem dX7_ask_24 : decode cX7_ask 24 = .ok (.iload_n 1, 1) := by decide +kernel
theorem dX7_ask_25 : decode cX7_ask 25 = .ok (.iload_n 3, 1) := by decide +kernel
theorem dX7_ask_26 : decode cX7_ask 26 = .ok (.invokevirtual 221, 3) := by decide +kernel
theorem dX7_ask_29 : decode cX7_ask 29 = .ok (.aload_n 0, 1) := by decide +kernel
theorem dX7_ask_30 : decode cX7_ask 30 = .ok (.getfield 49, 3) := by decide +kernel
theorem dX7_ask_33 : decode cX7_ask 33 = .ok (.iload_n 3, 1) := by decide +kernel
theorem dX7_ask_34 : decode cX7_ask 34 = .ok (.invokestatic 169, 3) := by decide +kernel
theorem dX7_ask_37 : decode cX7_ask 37 = .ok (.invokevirtual 189, 3) := by decide +kernel
theorem dX7_ask_40 : decode cX7_ask 40 = .ok (.iconst 0, 1) := by decide +kernel
theorem dX7_ask_41 : decode cX7_ask 41 = .ok (.istore 4, 2) := by decide +kernel
theorem dX7_ask_43 : decode cX7_ask 43 = .ok (.iload 4, 2) := by decide +kernel
theorem dX7_ask_45 : decode cX7_ask 45 = .ok (.bipush 20, 2) := by decide +kernel
theorem dX7_ask_47 : decode cX7_ask 47 = .ok (.if_icmp .gt 53, 3) := by decide +kernel
theorem dX7_ask_50 : decode cX7_ask 50 = .ok (.iconst 0, 1) := by decide +kernel
theorem dX7_ask_51 : decode cX7_ask 51 = .ok (.istore 5, 2) := by decide +kernel
theorem dX7_ask_53 : decode cX7_ask 53 = .ok (.iload 5, 2) := by decide +kernel
theorem dX7_ask_55 : decode cX7_ask 55 = .ok (.aload_n 0, 1) := by decide +kernel
theorem dX7_ask_56 : decode cX7_ask 56 = .ok (.getfield 12, 3) := by decide +kernel
theorem dX7_ask_59 : decode cX7_ask 59 = .ok (.getfield 101, 3) := by decide +kernel
theorem dX7_ask_62 : decode cX7_ask 62 = .ok (.if_icmp .ge 32, 3) := by decide +kernel
theorem dX7_ask_65 : decode cX7_ask 65 = .ok (.aload_n 0, 1) := by decide +kernel
theorem dX7_ask_66 : decode cX7_ask 66 = .ok (.getfield 49, 3) := by decide +kernel
theorem dX7_ask_69 : decode cX7_ask 69 = .ok (.bipush 10, 2) := by decide +kernel
theorem dX7_ask_71 : decode cX7_ask 71 = .ok (.iload 4, 2) := by decide +kernel
theorem dX7_ask_73 : decode cX7_ask 73 = .ok (.imul, 1) := by decide +kernel
theorem dX7_ask_74 : decode cX7_ask 74 = .ok (.iload 5, 2) := by decide +kernel
theorem dX7_ask_76 : decode cX7_ask 76 = .ok (.iadd, 1) := by decide +kernel
theorem dX7_ask_77 : decode cX7_ask 77 = .ok (.aload_n 0, 1) := by decide +kernel
theorem dX7_ask_78 : decode cX7_ask 78 = .ok (.iload 4, 2) := by decide +kernel
theorem dX7_ask_80 : decode cX7_ask 80 = .ok (.iload 5, 2) := by decide +kernel
theorem dX7_ask_82 : decode cX7_ask 82 = .ok (.invokevirtual 224, 3) := by decide +kernel
theorem dX7_ask_85 : decode cX7_ask 85 = .ok (.invokevirtual 196, 3) := by decide +kernel
theorem dX7_ask_88 : decode cX7_ask 88 = .ok (.iinc 5 1, 3) := by decide +kernel
theorem dX7_ask_91 : decode cX7_ask 91 = .ok (.goto (-38), 3) := by decide +kernel
theorem dX7_ask_94 : decode cX7_ask 94 = .ok (.iinc 4 1, 3) := by decide +kernel
theorem dX7_ask_97 : decode cX7_ask 97 = .ok (.goto (-54), 3) := by decide +kernel
theorem dX7_ask_100 : decode cX7_ask 100 = .ok (.aload_n 0, 1) := by decide +kernel
theorem dX7_ask_101 : decode cX7_ask 101 = .ok (.getfield 49, 3) := by decide +kernel
theorem dX7_ask_104 : decode cX7_ask 104 = .ok (.iload_n 2, 1) := by decide +kernel
theorem dX7_ask_105 : decode cX7_ask 105 = .ok (.invokevirtual 200, 3) := by decide +kernel
theorem dX7_ask_108 : decode cX7_ask 108 = .ok (.ireturn, 1) := by decide +kernel
theorem dX7_drift_0 : decode cX7_drift 0 = .ok (.iload_n 2, 1) := by decide +kernel
theorem dX7_drift_1 : decode cX7_drift 1 = .ok (.iconst 1, 1) := by decide +kernel
theorem dX7_drift_2 : decode cX7_drift 2 = .ok (.bipush 60, 2) := by decide +kernel
theorem dX7_drift_4 : decode cX7_drift 4 = .ok (.invokestatic 71, 3) := by decide +kernel
theorem dX7_drift_7 : decode cX7_drift 7 = .ok (.ifCond .eq 10, 3) := by decide +kernel
theorem dX7_drift_10 : decode cX7_drift 10 = .ok (.iload_n 3, 1) := by decide +kernel
theorem dX7_drift_11 : decode cX7_drift 11 = .ok (.invokestatic 186, 3) := by decide +kernel
theorem dX7_drift_14 : decode cX7_drift 14 = .ok (.ifCond .ne 5, 3) := by decide +kernel
theorem dX7_drift_17 : decode cX7_drift 17 = .ok (.iconst (-1), 1) := by decide +kernel
theorem dX7_drift_18 : decode cX7_drift 18 = .ok (.ireturn, 1) := by decide +kernel
theorem dX7_drift_19 : decode cX7_drift 19 = .ok (.aload_n 0, 1) := by decide +kernel
theorem dX7_drift_20 : decode cX7_drift 20 = .ok (.getfield 12, 3) := by decide +kernel
theorem dX7_drift_23 : decode cX7_drift 23 = .ok (.getfield 101, 3) := by decide +kernel
theorem dX7_drift_26 : decode cX7_drift 26 = .ok (.iconst 1, 1) := by decide +kernel
theorem dX7_drift_27 : decode cX7_drift 27 = .ok (.if_icmp .ge 6, 3) := by decide +kernel
theorem dX7_drift_30 : decode cX7_drift 30 = .ok (.bipush (-2), 2) := by decide +kernel
theorem dX7_drift_32 : decode cX7_drift 32 = .ok (.ireturn, 1) := by decide +kernel
theorem dX7_drift_33 : decode cX7_drift 33 = .ok (.aload_n 0, 1) := by decide +kernel
theorem dX7_drift_34 : decode cX7_drift 34 = .ok (.getfield 16, 3) := by decide +kernel
theorem dX7_drift_37 : decode cX7_drift 37 = .ok (.aload_n 0, 1) := by decide +kernel
theorem dX7_drift_38 : decode cX7_drift 38 = .ok (.getfield 12, 3) := by decide +kernel
theorem dX7_drift_41 : decode cX7_drift 41 = .ok (.invokevirtual 87, 3) := by decide +kernel
theorem dX7_drift_44 : decode cX7_drift 44 = .ok (.iload_n 1, 1) := by decide +kernel
theorem dX7_drift_45 : decode cX7_drift 45 = .ok (.istore 4, 2) := by decide +kernel
theorem dX7_drift_47 : decode cX7_drift 47 = .ok (.iconst 0, 1) := by decide +kernel
theorem dX7_drift_48 : decode cX7_drift 48 = .ok (.istore 5, 2) := by decide +kernel
theorem dX7_drift_50 : decode cX7_drift 50 = .ok (.iload 5, 2) := by decide +kernel
theorem dX7_drift_52 : decode cX7_drift 52 = .ok (.iload_n 2, 1) := by decide +kernel
theorem dX7_drift_53 : decode cX7_drift 53 = .ok (.if_icmp .ge 72, 3) := by decide +kernel
theorem dX7_drift_56 : decode cX7_drift 56 = .ok (.iload 4, 2) := by decide +kernel
theorem dX7_drift_58 : decode cX7_drift 58 = .ok (.ldc 227, 2) := by decide +kernel
theorem dX7_drift_60 : decode cX7_drift 60 = .ok (.imul, 1) := by decide +kernel
theorem dX7_drift_61 : decode cX7_drift 61 = .ok (.sipush 12345, 3) := by decide +kernel
theorem dX7_drift_64 : decode cX7_drift 64 = .ok (.iadd, 1) := by decide +kernel
theorem dX7_drift_65 : decode cX7_drift 65 = .ok (.istore 4, 2) := by decide +kernel
theorem dX7_drift_67 : decode cX7_drift 67 = .ok (.iload 4, 2) := by decide +kernel
theorem dX7_drift_69 : decode cX7_drift 69 = .ok (.bipush 16, 2) := by decide +kernel
theorem dX7_drift_71 : decode cX7_drift 71 = .ok (.iushr, 1) := by decide +kernel
theorem dX7_drift_72 : decode cX7_drift 72 = .ok (.sipush 32767, 3) := by decide +kernel
theorem dX7_drift_75 : decode cX7_drift 75 = .ok (.iand, 1) := by decide +kernel
theorem dX7_drift_76 : decode cX7_drift 76 = .ok (.istore 6, 2) := by decide +kernel
theorem dX7_drift_78 : decode cX7_drift 78 = .ok (.aload_n 0, 1) := by decide +kernel
theorem dX7_drift_79 : decode cX7_drift 79 = .ok (.getfield 16, 3) := by decide +kernel
theorem dX7_drift_82 : decode cX7_drift 82 = .ok (.iload 6, 2) := by decide +kernel
theorem dX7_drift_84 : decode cX7_drift 84 = .ok (.bipush 16, 2) := by decide +kernel
theorem dX7_drift_86 : decode cX7_drift 86 = .ok (.idiv, 1) := by decide +kernel
theorem dX7_drift_87 : decode cX7_drift 87 = .ok (.aload_n 0, 1) := by decide +kernel
theorem dX7_drift_88 : decode cX7_drift 88 = .ok (.getfield 12, 3) := by decide +kernel
theorem dX7_drift_91 : decode cX7_drift 91 = .ok (.getfield 101, 3) := by decide +kernel
theorem dX7_drift_94 : decode cX7_drift 94 = .ok (.irem, 1) := by decide +kernel
theorem dX7_drift_95 : decode cX7_drift 95 = .ok (.iload 6, 2) := by decide +kernel
theorem dX7_drift_97 : decode cX7_drift 97 = .ok (.sipush 128, 3) := by decide +kernel
theorem dX7_drift_100 : decode cX7_drift 100 = .ok (.idiv, 1) := by decide +kernel
theorem dX7_drift_101 : decode cX7_drift 101 = .ok (.iconst 3, 1) := by decide +kernel
theorem dX7_drift_102 : decode cX7_drift 102 = .ok (.irem, 1) := by decide +kernel
theorem dX7_drift_103 : decode cX7_drift 103 = .ok (.invokevirtual 228, 3) := by decide +kernel
theorem dX7_drift_106 : decode cX7_drift 106 = .ok (.aload_n 0, 1) := by decide +kernel
theorem dX7_drift_107 : decode cX7_drift 107 = .ok (.getfield 16, 3) := by decide +kernel
theorem dX7_drift_110 : decode cX7_drift 110 = .ok (.iload 6, 2) := by decide +kernel
theorem dX7_drift_112 : decode cX7_drift 112 = .ok (.bipush 10, 2) := by decide +kernel
theorem dX7_drift_114 : decode cX7_drift 114 = .ok (.irem, 1) := by decide +kernel
theorem dX7_drift_115 : decode cX7_drift 115 = .ok (.invokevirtual 163, 3) := by decide +kernel
theorem dX7_drift_118 : decode cX7_drift 118 = .ok (.pop, 1) := by decide +kernel
theorem dX7_drift_119 : decode cX7_drift 119 = .ok (.iinc 5 1, 3) := by decide +kernel
theorem dX7_drift_122 : decode cX7_drift 122 = .ok (.goto (-72), 3) := by decide +kernel
theorem dX7_drift_125 : decode cX7_drift 125 = .ok (.iload_n 3, 1) := by decide +kernel
theorem dX7_drift_126 : decode cX7_drift 126 = .ok (.ifCond .ne 17, 3) := by decide +kernel
theorem dX7_drift_129 : decode cX7_drift 129 = .ok (.aload_n 0, 1) := by decide +kernel
theorem dX7_drift_130 : decode cX7_drift 130 = .ok (.getfield 16, 3) := by decide +kernel
theorem dX7_drift_133 : decode cX7_drift 133 = .ok (.iconst 2, 1) := by decide +kernel
theorem dX7_drift_134 : decode cX7_drift 134 = .ok (.invokevirtual 105, 3) := by decide +kernel
theorem dX7_drift_137 : decode cX7_drift 137 = .ok (.invokestatic 169, 3) := by decide +kernel
theorem dX7_drift_140 : decode cX7_drift 140 = .ok (.goto 10, 3) := by decide +kernel
theorem dX7_drift_143 : decode cX7_drift 143 = .ok (.aload_n 0, 1) := by decide +kernel
theorem dX7_drift_144 : decode cX7_drift 144 = .ok (.getfield 16, 3) := by decide +kernel
theorem dX7_drift_147 : decode cX7_drift 147 = .ok (.invokevirtual 109, 3) := by decide +kernel
theorem dX7_drift_150 : decode cX7_drift 150 = .ok (.ireturn, 1) := by decide +kernel
theorem dX7_keep_0 : decode cX7_keep 0 = .ok (.iload_n 1, 1) := by decide +kernel
theorem dX7_keep_1 : decode cX7_keep 1 = .ok (.iconst 0, 1) := by decide +kernel
theorem dX7_keep_2 : decode cX7_keep 2 = .ok (.iconst 1, 1) := by decide +kernel
theorem dX7_keep_3 : decode cX7_keep 3 = .ok (.invokestatic 71, 3) := by decide +kernel
theorem dX7_keep_6 : decode cX7_keep 6 = .ok (.ifCond .ne 5, 3) := by decide +kernel
theorem dX7_keep_9 : decode cX7_keep 9 = .ok (.iconst (-1), 1) := by decide +kernel
theorem dX7_keep_10 : decode cX7_keep 10 = .ok (.ireturn, 1) := by decide +kernel
theorem dX7_keep_11 : decode cX7_keep 11 = .ok (.aload_n 0, 1) := by decide +kernel
theorem dX7_keep_12 : decode cX7_keep 12 = .ok (.getfield 59, 3) := by decide +kernel
theorem dX7_keep_15 : decode cX7_keep 15 = .ok (.iload_n 1, 1) := by decide +kernel
theorem dX7_keep_16 : decode cX7_keep 16 = .ok (.aaload, 1) := by decide +kernel
theorem dX7_keep_17 : decode cX7_keep 17 = .ok (.astore_n 2, 1) := by decide +kernel
theorem dX7_keep_18 : decode cX7_keep 18 = .ok (.aload_n 2, 1) := by decide +kernel
theorem dX7_keep_19 : decode cX7_keep 19 = .ok (.getfield 94, 3) := by decide +kernel
theorem dX7_keep_22 : decode cX7_keep 22 = .ok (.ifCond .eq 7, 3) := by decide +kernel
theorem dX7_keep_25 : decode cX7_keep 25 = .ok (.iconst 1, 1) := by decide +kernel
theorem dX7_keep_26 : decode cX7_keep 26 = .ok (.goto 4, 3) := by decide +kernel
theorem dX7_keep_29 : decode cX7_keep 29 = .ok (.iconst 0, 1) := by decide +kernel
theorem dX7_keep_30 : decode cX7_keep 30 = .ok (.istore_n 3, 1) := by decide +kernel
theorem dX7_keep_31 : decode cX7_keep 31 = .ok (.aload_n 2, 1) := by decide +kernel
theorem dX7_keep_32 : decode cX7_keep 32 = .ok (.iconst 1, 1) := by decide +kernel
theorem dX7_keep_33 : decode cX7_keep 33 = .ok (.putfield 94, 3) := by decide +kernel
theorem dX7_keep_36 : decode cX7_keep 36 = .ok (.aload_n 2, 1) := by decide +kernel
theorem dX7_keep_37 : decode cX7_keep 37 = .ok (.getfield 231, 3) := by decide +kernel
theorem dX7_keep_40 : decode cX7_keep 40 = .ok (.aload_n 0, 1) := by decide +kernel
theorem dX7_keep_41 : decode cX7_keep 41 = .ok (.getfield 12, 3) := by decide +kernel
theorem dX7_keep_44 : decode cX7_keep 44 = .ok (.invokevirtual 87, 3) := by decide +kernel
theorem dX7_keep_47 : decode cX7_keep 47 = .ok (.aload_n 2, 1) := by decide +kernel
theorem dX7_keep_48 : decode cX7_keep 48 = .ok (.getfield 234, 3) := by decide +kernel
theorem dX7_keep_51 : decode cX7_keep 51 = .ok (.aload_n 0, 1) := by decide +kernel
theorem dX7_keep_52 : decode cX7_keep 52 = .ok (.getfield 42, 3) := by decide +kernel
theorem dX7_keep_55 : decode cX7_keep 55 = .ok (.invokevirtual 235, 3) := by decide +kernel
theorem dX7_keep_58 : decode cX7_keep 58 = .ok (.iload_n 3, 1) := by decide +kernel
theorem dX7_keep_59 : decode cX7_keep 59 = .ok (.ireturn, 1) := by decide +kernel
theorem dX7_back_0 : decode cX7_back 0 = .ok (.iload_n 1, 1) := by decide +kernel
theorem dX7_back_1 : decode cX7_back 1 = .ok (.iconst 0, 1) := by decide +kernel
theorem dX7_back_2 : decode cX7_back 2 = .ok (.iconst 1, 1) := by decide +kernel
theorem dX7_back_3 : decode cX7_back 3 = .ok (.invokestatic 71, 3) := by decide +kernel
theorem dX7_back_6 : decode cX7_back 6 = .ok (.ifCond .ne 5, 3) := by decide +kernel
theorem dX7_back_9 : decode cX7_back 9 = .ok (.iconst (-1), 1) := by decide +kernel
theorem dX7_back_10 : decode cX7_back 10 = .ok (.ireturn, 1) := by decide +kernel
theorem dX7_back_11 : decode cX7_back 11 = .ok (.aload_n 0, 1) := by decide +kernel
theorem dX7_back_12 : decode cX7_back 12 = .ok (.getfield 59, 3) := by decide +kernel
theorem dX7_back_15 : decode cX7_back 15 = .ok (.iload_n 1, 1) := by decide +kernel
theorem dX7_back_16 : decode cX7_back 16 = .ok (.aaload, 1) := by decide +kernel
theorem dX7_back_17 : decode cX7_back 17 = .ok (.astore_n 2, 1) := by decide +kernel
theorem dX7_back_18 : decode cX7_back 18 = .ok (.aload_n 2, 1) := by decide +kernel
theorem dX7_back_19 : decode cX7_back 19 = .ok (.getfield 94, 3) := by decide +kernel
theorem dX7_back_22 : decode cX7_back 22 = .ok (.ifCond .ne 6, 3) := by decide +kernel
theorem dX7_back_25 : decode cX7_back 25 = .ok (.bipush (-2), 2) := by decide +kernel
theorem dX7_back_27 : decode cX7_back 27 = .ok (.ireturn, 1) := by decide +kernel
theorem dX7_back_28 : decode cX7_back 28 = .ok (.aload_n 0, 1) := by decide +kernel
theorem dX7_back_29 : decode cX7_back 29 = .ok (.getfield 12, 3) := by decide +kernel
theorem dX7_back_32 : decode cX7_back 32 = .ok (.aload_n 2, 1) := by decide +kernel
theorem dX7_back_33 : decode cX7_back 33 = .ok (.getfield 231, 3) := by decide +kernel
theorem dX7_back_36 : decode cX7_back 36 = .ok (.invokevirtual 87, 3) := by decide +kernel
theorem dX7_back_39 : decode cX7_back 39 = .ok (.aload_n 0, 1) := by decide +kernel
theorem dX7_back_40 : decode cX7_back 40 = .ok (.getfield 42, 3) := by decide +kernel
theorem dX7_back_43 : decode cX7_back 43 = .ok (.aload_n 2, 1) := by decide +kernel
theorem dX7_back_44 : decode cX7_back 44 = .ok (.getfield 234, 3) := by decide +kernel
theorem dX7_back_47 : decode cX7_back 47 = .ok (.invokevirtual 235, 3) := by decide +kernel
theorem dX7_back_50 : decode cX7_back 50 = .ok (.aload_n 0, 1) := by decide +kernel
theorem dX7_back_51 : decode cX7_back 51 = .ok (.getfield 12, 3) := by decide +kernel
theorem dX7_back_54 : decode cX7_back 54 = .ok (.getfield 102, 3) := by decide +kernel
theorem dX7_back_57 : decode cX7_back 57 = .ok (.ireturn, 1) := by decide +kernel
theorem dX7_sheet_0 : decode cX7_sheet 0 = .ok (.iload_n 1, 1) := by decide +kernel
theorem dX7_sheet_1 : decode cX7_sheet 1 = .ok (.invokestatic 238, 3) := by decide +kernel
theorem dX7_sheet_4 : decode cX7_sheet 4 = .ok (.ifCond .eq 16, 3) := by decide +kernel
theorem dX7_sheet_7 : decode cX7_sheet 7 = .ok (.iload_n 2, 1) := by decide +kernel
theorem dX7_sheet_8 : decode cX7_sheet 8 = .ok (.invokestatic 241, 3) := by decide +kernel
theorem dX7_sheet_11 : decode cX7_sheet 11 = .ok (.ifCond .eq 9, 3) := by decide +kernel
theorem dX7_sheet_14 : decode cX7_sheet 14 = .ok (.iload_n 3, 1) := by decide +kernel
theorem dX7_sheet_15 : decode cX7_sheet 15 = .ok (.bipush 40, 2) := by decide +kernel
theorem dX7_sheet_17 : decode cX7_sheet 17 = .ok (.if_icmp .le 5, 3) := by decide +kernel
theorem dX7_sheet_20 : decode cX7_sheet 20 = .ok (.iconst (-1), 1) := by decide +kernel
theorem dX7_sheet_21 : decode cX7_sheet 21 = .ok (.ireturn, 1) := by decide +kernel
theorem dX7_sheet_22 : decode cX7_sheet 22 = .ok (.iload_n 3, 1) := by decide +kernel
theorem dX7_sheet_23 : decode cX7_sheet 23 = .ok (.ifCond .ge 6, 3) := by decide +kernel
theorem dX7_sheet_26 : decode cX7_sheet 26 = .ok (.bipush (-14), 2) := by decide +kernel
theorem dX7_sheet_28 : decode cX7_sheet 28 = .ok (.ireturn, 1) := by decide +kernel
theorem dX7_sheet_29 : decode cX7_sheet 29 = .ok (.aload_n 0, 1) := by decide +kernel
theorem dX7_sheet_30 : decode cX7_sheet 30 = .ok (.getfield 65, 3) := by decide +kernel
theorem dX7_sheet_33 : decode cX7_sheet 33 = .ok (.iload_n 1, 1) := by decide +kernel
theorem dX7_sheet_34 : decode cX7_sheet 34 = .ok (.aaload, 1) := by decide +kernel
theorem dX7_sheet_35 : decode cX7_sheet 35 = .ok (.iload_n 2, 1) := by decide +kernel
theorem dX7_sheet_36 : decode cX7_sheet 36 = .ok (.iload_n 3, 1) := by decide +kernel
theorem dX7_sheet_37 : decode cX7_sheet 37 = .ok (.invokevirtual 244, 3) := by decide +kernel
theorem dX7_sheet_40 : decode cX7_sheet 40 = .ok (.iconst 1, 1) := by decide +kernel
theorem dX7_sheet_41 : decode cX7_sheet 41 = .ok (.ireturn, 1) := by decide +kernel
theorem dX7_lay_0 : decode cX7_lay 0 = .ok (.iload_n 1, 1) := by decide +kernel
theorem dX7_lay_1 : decode cX7_lay 1 = .ok (.invokestatic 238, 3) := by decide +kernel
theorem dX7_lay_4 : decode cX7_lay 4 = .ok (.ifCond .ne 5, 3) := by decide +kernel
theorem dX7_lay_7 : decode cX7_lay 7 = .ok (.iconst (-1), 1) := by decide +kernel
theorem dX7_lay_8 : decode cX7_lay 8 = .ok (.ireturn, 1) := by decide +kernel
theorem dX7_lay_9 : decode cX7_lay 9 = .ok (.aload_n 0, 1) := by decide +kernel
theorem dX7_lay_10 : decode cX7_lay 10 = .ok (.getfield 65, 3) := by decide +kernel
theorem dX7_lay_13 : decode cX7_lay 13 = .ok (.iload_n 1, 1) := by decide +kernel
theorem dX7_lay_14 : decode cX7_lay 14 = .ok (.aaload, 1) := by decide +kernel
theorem dX7_lay_15 : decode cX7_lay 15 = .ok (.astore 4, 2) := by decide +kernel
theorem dX7_lay_17 : decode cX7_lay 17 = .ok (.aload 4, 2) := by decide +kernel
theorem dX7_lay_19 : decode cX7_lay 19 = .ok (.invokevirtual 247, 3) := by decide +kernel
theorem dX7_lay_22 : decode cX7_lay 22 = .ok (.ifCond .eq 6, 3) := by decide +kernel
theorem dX7_lay_25 : decode cX7_lay 25 = .ok (.bipush (-11), 2) := by decide +kernel
theorem dX7_lay_27 : decode cX7_lay 27 = .ok (.ireturn, 1) := by decide +kernel
theorem dX7_lay_28 : decode cX7_lay 28 = .ok (.aload 4, 2) := by decide +kernel
theorem dX7_lay_30 : decode cX7_lay 30 = .ok (.iload_n 2, 1) := by decide +kernel
theorem dX7_lay_31 : decode cX7_lay 31 = .ok (.invokevirtual 251, 3) := by decide +kernel
theorem dX7_lay_34 : decode cX7_lay 34 = .ok (.ifCond .ne 6, 3) := by decide +kernel
theorem dX7_lay_37 : decode cX7_lay 37 = .ok (.bipush (-12), 2) := by decide +kernel
theorem dX7_lay_39 : decode cX7_lay 39 = .ok (.ireturn, 1) := by decide +kernel
theorem dX7_lay_40 : decode cX7_lay 40 = .ok (.aload 4, 2) := by decide +kernel
theorem dX7_lay_42 : decode cX7_lay 42 = .ok (.iload_n 2, 1) := by decide +kernel
theorem dX7_lay_43 : decode cX7_lay 43 = .ok (.iload_n 3, 1) := by decide +kernel
theorem dX7_lay_44 : decode cX7_lay 44 = .ok (.invokevirtual 254, 3) := by decide +kernel
theorem dX7_lay_47 : decode cX7_lay 47 = .ok (.iconst 1, 1) := by decide +kernel
theorem dX7_lay_48 : decode cX7_lay 48 = .ok (.ireturn, 1) := by decide +kernel
theorem dX7_read_0 : decode cX7_read 0 = .ok (.iload_n 1, 1) := by decide +kernel
theorem dX7_read_1 : decode cX7_read 1 = .ok (.invokestatic 238, 3) := by decide +kernel
theorem dX7_read_4 : decode cX7_read 4 = .ok (.ifCond .eq 21, 3) := by decide +kernel
theorem dX7_read_7 : decode cX7_read 7 = .ok (.iload_n 2, 1) := by decide +kernel
theorem dX7_read_8 : decode cX7_read 8 = .ok (.invokestatic 241, 3) := by decide +kernel
theorem dX7_read_11 : decode cX7_read 11 = .ok (.ifCond .eq 14, 3) := by decide +kernel
theorem dX7_read_14 : decode cX7_read 14 = .ok (.iload 4, 2) := by decide +kernel
theorem dX7_read_16 : decode cX7_read 16 = .ok (.iconst 0, 1) := by decide +kernel
theorem dX7_read_17 : decode cX7_read 17 = .ok (.bipush 20, 2) := by decide +kernel
theorem dX7_read_19 : decode cX7_read 19 = .ok (.invokestatic 71, 3) := by decide +kernel
theorem dX7_read_22 : decode cX7_read 22 = .ok (.ifCond .ne 5, 3) := by decide +kernel
theorem dX7_read_25 : decode cX7_read 25 = .ok (.iconst (-1), 1) := by decide +kernel
theorem dX7_read_26 : decode cX7_read 26 = .ok (.ireturn, 1) := by decide +kernel
theorem dX7_read_27 : decode cX7_read 27 = .ok (.aload_n 0, 1) := by decide +kernel
theorem dX7_read_28 : decode cX7_read 28 = .ok (.getfield 65, 3) := by decide +kernel
theorem dX7_read_31 : decode cX7_read 31 = .ok (.iload_n 1, 1) := by decide +kernel
theorem dX7_read_32 : decode cX7_read 32 = .ok (.aaload, 1) := by decide +kernel
theorem dX7_read_33 : decode cX7_read 33 = .ok (.astore 5, 2) := by decide +kernel
theorem dX7_read_35 : decode cX7_read 35 = .ok (.aload 5, 2) := by decide +kernel
theorem dX7_read_37 : decode cX7_read 37 = .ok (.iload_n 2, 1) := by decide +kernel
theorem dX7_read_38 : decode cX7_read 38 = .ok (.iload_n 3, 1) := by decide +kernel
theorem dX7_read_39 : decode cX7_read 39 = .ok (.iload 4, 2) := by decide +kernel
theorem dX7_read_41 : decode cX7_read 41 = .ok (.invokevirtual 257, 3) := by decide +kernel
theorem dX7_read_44 : decode cX7_read 44 = .ok (.istore 6, 2) := by decide +kernel
theorem dX7_read_46 : decode cX7_read 46 = .ok (.aload_n 0, 1) := by decide +kernel
theorem dX7_read_47 : decode cX7_read 47 = .ok (.getfield 12, 3) := by decide +kernel
theorem dX7_read_50 : decode cX7_read 50 = .ok (.getfield 101, 3) := by decide +kernel
theorem dX7_read_53 : decode cX7_read 53 = .ok (.istore 7, 2) := by decide +kernel
theorem dX7_read_55 : decode cX7_read 55 = .ok (.iconst 0, 1) := by decide +kernel
theorem dX7_read_56 : decode cX7_read 56 = .ok (.istore 8, 2) := by decide +kernel
theorem dX7_read_58 : decode cX7_read 58 = .ok (.iload 8, 2) := by decide +kernel
theorem dX7_read_60 : decode cX7_read 60 = .ok (.iload 6, 2) := by decide +kernel
theorem dX7_read_62 : decode cX7_read 62 = .ok (.if_icmp .ge 60, 3) := by decide +kernel
theorem dX7_read_65 : decode cX7_read 65 = .ok (.iload_n 3, 1) := by decide +kernel
theorem dX7_read_66 : decode cX7_read 66 = .ok (.iconst 2, 1) := by decide +kernel
theorem dX7_read_67 : decode cX7_read 67 = .ok (.iload 8, 2) := by decide +kernel
theorem dX7_read_69 : decode cX7_read 69 = .ok (.imul, 1) := by decide +kernel
theorem dX7_read_70 : decode cX7_read 70 = .ok (.iadd, 1) := by decide +kernel
theorem dX7_read_71 : decode cX7_read 71 = .ok (.istore 9, 2) := by decide +kernel
theorem dX7_read_73 : decode cX7_read 73 = .ok (.aload_n 0, 1) := by decide +kernel
theorem dX7_read_74 : decode cX7_read 74 = .ok (.getfield 12, 3) := by decide +kernel
theorem dX7_read_77 : decode cX7_read 77 = .ok (.aload 5, 2) := by decide +kernel
theorem dX7_read_79 : decode cX7_read 79 = .ok (.getfield 261, 3) := by decide +kernel
theorem dX7_read_82 : decode cX7_read 82 = .ok (.iload 9, 2) := by decide +kernel
theorem dX7_read_84 : decode cX7_read 84 = .ok (.iaload, 1) := by decide +kernel
theorem dX7_read_85 : decode cX7_read 85 = .ok (.aload 5, 2) := by decide +kernel
theorem dX7_read_87 : decode cX7_read 87 = .ok (.getfield 261, 3) := by decide +kernel
theorem dX7_read_90 : decode cX7_read 90 = .ok (.iload 9, 2) := by decide +kernel
theorem dX7_read_92 : decode cX7_read 92 = .ok (.iconst 1, 1) := by decide +kernel
theorem dX7_read_93 : decode cX7_read 93 = .ok (.iadd, 1) := by decide +kernel
theorem dX7_read_94 : decode cX7_read 94 = .ok (.iaload, 1) := by decide +kernel
theorem dX7_read_95 : decode cX7_read 95 = .ok (.invokevirtual 157, 3) := by decide +kernel
theorem dX7_read_98 : decode cX7_read 98 = .ok (.ifCond .ge 18, 3) := by decide +kernel
theorem dX7_read_101 : decode cX7_read 101 = .ok (.aload_n 0, 1) := by decide +kernel
theorem dX7_read_102 : decode cX7_read 102 = .ok (.getfield 12, 3) := by decide +kernel
theorem dX7_read_105 : decode cX7_read 105 = .ok (.iload 7, 2) := by decide +kernel
theorem dX7_read_107 : decode cX7_read 107 = .ok (.putfield 101, 3) := by decide +kernel
theorem dX7_read_110 : decode cX7_read 110 = .ok (.bipush (-20), 2) := by decide +kernel
theorem dX7_read_112 : decode cX7_read 112 = .ok (.iload 8, 2) := by decide +kernel
theorem dX7_read_114 : decode cX7_read 114 = .ok (.isub, 1) := by decide +kernel
theorem dX7_read_115 : decode cX7_read 115 = .ok (.ireturn, 1) := by decide +kernel
theorem dX7_read_116 : decode cX7_read 116 = .ok (.iinc 8 1, 3) := by decide +kernel
theorem dX7_read_119 : decode cX7_read 119 = .ok (.goto (-61), 3) := by decide +kernel
theorem dX7_read_122 : decode cX7_read 122 = .ok (.aload_n 0, 1) := by decide +kernel
theorem dX7_read_123 : decode cX7_read 123 = .ok (.aload 5, 2) := by decide +kernel
theorem dX7_read_125 : decode cX7_read 125 = .ok (.iload_n 2, 1) := by decide +kernel
theorem dX7_read_126 : decode cX7_read 126 = .ok (.iload 6, 2) := by decide +kernel
theorem dX7_read_128 : decode cX7_read 128 = .ok (.iload 4, 2) := by decide +kernel
theorem dX7_read_130 : decode cX7_read 130 = .ok (.if_icmp .ge 7, 3) := by decide +kernel
theorem dX7_read_133 : decode cX7_read 133 = .ok (.iconst 1, 1) := by decide +kernel
theorem dX7_read_134 : decode cX7_read 134 = .ok (.goto 4, 3) := by decide +kernel
theorem dX7_read_137 : decode cX7_read 137 = .ok (.iconst 0, 1) := by decide +kernel
theorem dX7_read_138 : decode cX7_read 138 = .ok (.invokevirtual 264, 3) := by decide +kernel
theorem dX7_read_141 : decode cX7_read 141 = .ok (.putfield 268, 3) := by decide +kernel
theorem dX7_read_144 : decode cX7_read 144 = .ok (.iload 6, 2) := by decide +kernel
theorem dX7_read_146 : decode cX7_read 146 = .ok (.ireturn, 1) := by decide +kernel
theorem dX7_torn_0 : decode cX7_torn 0 = .ok (.aload_n 0, 1) := by decide +kernel
theorem dX7_torn_1 : decode cX7_torn 1 = .ok (.getfield 268, 3) := by decide +kernel
theorem dX7_torn_4 : decode cX7_torn 4 = .ok (.ireturn, 1) := by decide +kernel
theorem dX7_count_0 : decode cX7_count 0 = .ok (.iload_n 1, 1) := by decide +kernel
theorem dX7_count_1 : decode cX7_count 1 = .ok (.tableswitch 103 0 5 #[39, 47, 52, 60, 87, 95], 39) := by decide +kernel
theorem dX7_count_40 : decode cX7_count 40 = .ok (.aload_n 0, 1) := by decide +kernel
theorem dX7_count_41 : decode cX7_count 41 = .ok (.getfield 42, 3) := by decide +kernel
theorem dX7_count_44 : decode cX7_count 44 = .ok (.getfield 91, 3) := by decide +kernel
theorem dX7_count_47 : decode cX7_count 47 = .ok (.ireturn, 1) := by decide +kernel
theorem dX7_count_48 : decode cX7_count 48 = .ok (.aload_n 0, 1) := by decide +kernel
theorem dX7_count_49 : decode cX7_count 49 = .ok (.invokevirtual 271, 3) := by decide +kernel
theorem dX7_count_52 : decode cX7_count 52 = .ok (.ireturn, 1) := by decide +kernel
theorem dX7_count_53 : decode cX7_count 53 = .ok (.aload_n 0, 1) := by decide +kernel
theorem dX7_count_54 : decode cX7_count 54 = .ok (.getfield 26, 3) := by decide +kernel
theorem dX7_count_57 : decode cX7_count 57 = .ok (.getfield 79, 3) := by decide +kernel
theorem dX7_count_60 : decode cX7_count 60 = .ok (.ireturn, 1) := by decide +kernel
theorem dX7_count_61 : decode cX7_count 61 = .ok (.aload_n 0, 1) := by decide +kernel
theorem dX7_count_62 : decode cX7_count 62 = .ok (.getfield 65, 3) := by decide +kernel
theorem dX7_count_65 : decode cX7_count 65 = .ok (.iconst 0, 1) := by decide +kernel
theorem dX7_count_66 : decode cX7_count 66 = .ok (.aaload, 1) := by decide +kernel
theorem dX7_count_67 : decode cX7_count 67 = .ok (.invokevirtual 247, 3) := by decide +kernel
theorem dX7_count_70 : decode cX7_count 70 = .ok (.ifCond .eq 8, 3) := by decide +kernel
theorem dX7_count_73 : decode cX7_count 73 = .ok (.bipush (-4), 2) := by decide +kernel
theorem dX7_count_75 : decode cX7_count 75 = .ok (.goto 12, 3) := by decide +kernel
theorem dX7_count_78 : decode cX7_count 78 = .ok (.aload_n 0, 1) := by decide +kernel
theorem dX7_count_79 : decode cX7_count 79 = .ok (.getfield 65, 3) := by decide +kernel
theorem dX7_count_82 : decode cX7_count 82 = .ok (.iconst 0, 1) := by decide +kernel
theorem dX7_count_83 : decode cX7_count 83 = .ok (.aaload, 1) := by decide +kernel
theorem dX7_count_84 : decode cX7_count 84 = .ok (.getfield 274, 3) := by decide +kernel
theorem dX7_count_87 : decode cX7_count 87 = .ok (.ireturn, 1) := by decide +kernel
theorem dX7_count_88 : decode cX7_count 88 = .ok (.aload_n 0, 1) := by decide +kernel
theorem dX7_count_89 : decode cX7_count 89 = .ok (.getfield 12, 3) := by decide +kernel
theorem dX7_count_92 : decode cX7_count 92 = .ok (.invokevirtual 275, 3) := by decide +kernel
theorem dX7_count_95 : decode cX7_count 95 = .ok (.ireturn, 1) := by decide +kernel
theorem dX7_count_96 : decode cX7_count 96 = .ok (.aload_n 0, 1) := by decide +kernel
theorem dX7_count_97 : decode cX7_count 97 = .ok (.getfield 12, 3) := by decide +kernel
theorem dX7_count_100 : decode cX7_count 100 = .ok (.invokevirtual 278, 3) := by decide +kernel
theorem dX7_count_103 : decode cX7_count 103 = .ok (.ireturn, 1) := by decide +kernel
theorem dX7_count_104 : decode cX7_count 104 = .ok (.iconst (-1), 1) := by decide +kernel
theorem dX7_count_105 : decode cX7_count 105 = .ok (.ireturn, 1) := by decide +kernel
theorem dX7_within_0 : decode cX7_within 0 = .ok (.iload_n 0, 1) := by decide +kernel
theorem dX7_within_1 : decode cX7_within 1 = .ok (.iload_n 1, 1) := by decide +kernel
theorem dX7_within_2 : decode cX7_within 2 = .ok (.if_icmp .lt 12, 3) := by decide +kernel
theorem dX7_within_5 : decode cX7_within 5 = .ok (.iload_n 0, 1) := by decide +kernel
theorem dX7_within_6 : decode cX7_within 6 = .ok (.iload_n 2, 1) := by decide +kernel
theorem dX7_within_7 : decode cX7_within 7 = .ok (.if_icmp .gt 7, 3) := by decide +kernel
theorem dX7_within_10 : decode cX7_within 10 = .ok (.iconst 1, 1) := by decide +kernel
theorem dX7_within_11 : decode cX7_within 11 = .ok (.goto 4, 3) := by decide +kernel
theorem dX7_within_14 : decode cX7_within 14 = .ok (.iconst 0, 1) := by decide +kernel
theorem dX7_within_15 : decode cX7_within 15 = .ok (.ireturn, 1) := by decide +kernel
theorem dX7_isHalf_0 : decode cX7_isHalf 0 = .ok (.iload_n 0, 1) := by decide +kernel
theorem dX7_isHalf_1 : decode cX7_isHalf 1 = .ok (.iconst 0, 1) := by decide +kernel
theorem dX7_isHalf_2 : decode cX7_isHalf 2 = .ok (.iconst 1, 1) := by decide +kernel
theorem dX7_isHalf_3 : decode cX7_isHalf 3 = .ok (.invokestatic 71, 3) := by decide +kernel
theorem dX7_isHalf_6 : decode cX7_isHalf 6 = .ok (.ireturn, 1) := by decide +kernel
theorem dX7_isWeekday_0 : decode cX7_isWeekday 0 = .ok (.iload_n 0, 1) := by decide +kernel
theorem dX7_isWeekday_1 : decode cX7_isWeekday 1 = .ok (.iconst 0, 1) := by decide +kernel
theorem dX7_isWeekday_2 : decode cX7_isWeekday 2 = .ok (.bipush 6, 2) := by decide +kernel
theorem dX7_isWeekday_4 : decode cX7_isWeekday 4 = .ok (.invokestatic 71, 3) := by decide +kernel
theorem dX7_isWeekday_7 : decode cX7_isWeekday 7 = .ok (.ireturn, 1) := by decide +kernel
theorem dX7_isSheet_0 : decode cX7_isSheet 0 = .ok (.iload_n 0, 1) := by decide +kernel
theorem dX7_isSheet_1 : decode cX7_isSheet 1 = .ok (.iconst 0, 1) := by decide +kernel
theorem dX7_isSheet_2 : decode cX7_isSheet 2 = .ok (.iconst 3, 1) := by decide +kernel
theorem dX7_isSheet_3 : decode cX7_isSheet 3 = .ok (.invokestatic 71, 3) := by decide +kernel
theorem dX7_isSheet_6 : decode cX7_isSheet 6 = .ok (.ireturn, 1) := by decide +kernel
theorem dX7_isLane_0 : decode cX7_isLane 0 = .ok (.iload_n 0, 1) := by decide +kernel
theorem dX7_isLane_1 : decode cX7_isLane 1 = .ok (.iconst 0, 1) := by decide +kernel
theorem dX7_isLane_2 : decode cX7_isLane 2 = .ok (.iconst 2, 1) := by decide +kernel
theorem dX7_isLane_3 : decode cX7_isLane 3 = .ok (.invokestatic 71, 3) := by decide +kernel
theorem dX7_isLane_6 : decode cX7_isLane 6 = .ok (.ireturn, 1) := by decide +kernel
theorem dX7_isOne_0 : decode cX7_isOne 0 = .ok (.iload_n 1, 1) := by decide +kernel
theorem dX7_isOne_1 : decode cX7_isOne 1 = .ok (.iconst 0, 1) := by decide +kernel
theorem dX7_isOne_2 : decode cX7_isOne 2 = .ok (.aload_n 0, 1) := by decide +kernel
theorem dX7_isOne_3 : decode cX7_isOne 3 = .ok (.getfield 12, 3) := by decide +kernel
theorem dX7_isOne_6 : decode cX7_isOne 6 = .ok (.getfield 101, 3) := by decide +kernel
theorem dX7_isOne_9 : decode cX7_isOne 9 = .ok (.iconst 1, 1) := by decide +kernel
theorem dX7_isOne_10 : decode cX7_isOne 10 = .ok (.isub, 1) := by decide +kernel
theorem dX7_isOne_11 : decode cX7_isOne 11 = .ok (.invokestatic 71, 3) := by decide +kernel
theorem dX7_isOne_14 : decode cX7_isOne 14 = .ok (.ireturn, 1) := by decide +kernel
theorem dX7_replace_0 : decode cX7_replace 0 = .ok (.iload_n 1, 1) := by decide +kernel
theorem dX7_replace_1 : decode cX7_replace 1 = .ok (.iconst 0, 1) := by decide +kernel
theorem dX7_replace_2 : decode cX7_replace 2 = .ok (.aload_n 0, 1) := by decide +kernel
theorem dX7_replace_3 : decode cX7_replace 3 = .ok (.arraylength, 1) := by decide +kernel
theorem dX7_replace_4 : decode cX7_replace 4 = .ok (.iconst 1, 1) := by decide +kernel
theorem dX7_replace_5 : decode cX7_replace 5 = .ok (.isub, 1) := by decide +kernel
theorem dX7_replace_6 : decode cX7_replace 6 = .ok (.invokestatic 71, 3) := by decide +kernel
theorem dX7_replace_9 : decode cX7_replace 9 = .ok (.ifCond .eq 12, 3) := by decide +kernel
theorem dX7_replace_12 : decode cX7_replace 12 = .ok (.iload_n 2, 1) := by decide +kernel
theorem dX7_replace_13 : decode cX7_replace 13 = .ok (.iconst 0, 1) := by decide +kernel
theorem dX7_replace_14 : decode cX7_replace 14 = .ok (.iload_n 3, 1) := by decide +kernel
theorem dX7_replace_15 : decode cX7_replace 15 = .ok (.invokestatic 71, 3) := by decide +kernel
theorem dX7_replace_18 : decode cX7_replace 18 = .ok (.ifCond .ne 5, 3) := by decide +kernel
theorem dX7_replace_21 : decode cX7_replace 21 = .ok (.iconst (-1), 1) := by decide +kernel
theorem dX7_replace_22 : decode cX7_replace 22 = .ok (.ireturn, 1) := by decide +kernel
theorem dX7_replace_23 : decode cX7_replace 23 = .ok (.aload_n 0, 1) := by decide +kernel
theorem dX7_replace_24 : decode cX7_replace 24 = .ok (.iload_n 1, 1) := by decide +kernel
theorem dX7_replace_25 : decode cX7_replace 25 = .ok (.iaload, 1) := by decide +kernel
theorem dX7_replace_26 : decode cX7_replace 26 = .ok (.istore 4, 2) := by decide +kernel
theorem dX7_replace_28 : decode cX7_replace 28 = .ok (.aload_n 0, 1) := by decide +kernel
theorem dX7_replace_29 : decode cX7_replace 29 = .ok (.iload_n 1, 1) := by decide +kernel
theorem dX7_replace_30 : decode cX7_replace 30 = .ok (.iload_n 2, 1) := by decide +kernel
theorem dX7_replace_31 : decode cX7_replace 31 = .ok (.iastore, 1) := by decide +kernel
theorem dX7_replace_32 : decode cX7_replace 32 = .ok (.iload 4, 2) := by decide +kernel
theorem dX7_replace_34 : decode cX7_replace 34 = .ok (.ireturn, 1) := by decide +kernel
theorem dX7_imagesKept_0 : decode cX7_imagesKept 0 = .ok (.iconst 0, 1) := by decide +kernel
theorem dX7_imagesKept_1 : decode cX7_imagesKept 1 = .ok (.istore_n 1, 1) := by decide +kernel
theorem dX7_imagesKept_2 : decode cX7_imagesKept 2 = .ok (.iconst 0, 1) := by decide +kernel
theorem dX7_imagesKept_3 : decode cX7_imagesKept 3 = .ok (.istore_n 2, 1) := by decide +kernel
theorem dX7_imagesKept_4 : decode cX7_imagesKept 4 = .ok (.iload_n 2, 1) := by decide +kernel
theorem dX7_imagesKept_5 : decode cX7_imagesKept 5 = .ok (.aload_n 0, 1) := by decide +kernel
theorem dX7_imagesKept_6 : decode cX7_imagesKept 6 = .ok (.getfield 59, 3) := by decide +kernel
theorem dX7_imagesKept_9 : decode cX7_imagesKept 9 = .ok (.arraylength, 1) := by decide +kernel
theorem dX7_imagesKept_10 : decode cX7_imagesKept 10 = .ok (.if_icmp .ge 29, 3) := by decide +kernel
theorem dX7_imagesKept_13 : decode cX7_imagesKept 13 = .ok (.iload_n 1, 1) := by decide +kernel
theorem dX7_imagesKept_14 : decode cX7_imagesKept 14 = .ok (.aload_n 0, 1) := by decide +kernel
theorem dX7_imagesKept_15 : decode cX7_imagesKept 15 = .ok (.getfield 59, 3) := by decide +kernel
theorem dX7_imagesKept_18 : decode cX7_imagesKept 18 = .ok (.iload_n 2, 1) := by decide +kernel
theorem dX7_imagesKept_19 : decode cX7_imagesKept 19 = .ok (.aaload, 1) := by decide +kernel
theorem dX7_imagesKept_20 : decode cX7_imagesKept 20 = .ok (.getfield 94, 3) := by decide +kernel
theorem dX7_imagesKept_23 : decode cX7_imagesKept 23 = .ok (.ifCond .eq 7, 3) := by decide +kernel
theorem dX7_imagesKept_26 : decode cX7_imagesKept 26 = .ok (.iconst 1, 1) := by decide +kernel
theorem dX7_imagesKept_27 : decode cX7_imagesKept 27 = .ok (.goto 4, 3) := by decide +kernel
theorem dX7_imagesKept_30 : decode cX7_imagesKept 30 = .ok (.iconst 0, 1) := by decide +kernel
theorem dX7_imagesKept_31 : decode cX7_imagesKept 31 = .ok (.iadd, 1) := by decide +kernel
theorem dX7_imagesKept_32 : decode cX7_imagesKept 32 = .ok (.istore_n 1, 1) := by decide +kernel
theorem dX7_imagesKept_33 : decode cX7_imagesKept 33 = .ok (.iinc 2 1, 3) := by decide +kernel
theorem dX7_imagesKept_36 : decode cX7_imagesKept 36 = .ok (.goto (-32), 3) := by decide +kernel
theorem dX7_imagesKept_39 : decode cX7_imagesKept 39 = .ok (.iload_n 1, 1) := by decide +kernel
theorem dX7_imagesKept_40 : decode cX7_imagesKept 40 = .ok (.ireturn, 1) := by decide +kernel
theorem dX7_daysAsItIs_0 : decode cX7_daysAsItIs 0 = .ok (.aload_n 0, 1) := by decide +kernel
theorem dX7_daysAsItIs_1 : decode cX7_daysAsItIs 1 = .ok (.getfield 16, 3) := by decide +kernel
theorem dX7_daysAsItIs_4 : decode cX7_daysAsItIs 4 = .ok (.aload_n 0, 1) := by decide +kernel
theorem dX7_daysAsItIs_5 : decode cX7_daysAsItIs 5 = .ok (.getfield 12, 3) := by decide +kernel
theorem dX7_daysAsItIs_8 : decode cX7_daysAsItIs 8 = .ok (.invokevirtual 87, 3) := by decide +kernel
theorem dX7_daysAsItIs_11 : decode cX7_daysAsItIs 11 = .ok (.aload_n 0, 1) := by decide +kernel
theorem dX7_daysAsItIs_12 : decode cX7_daysAsItIs 12 = .ok (.getfield 16, 3) := by decide +kernel
theorem dX7_daysAsItIs_15 : decode cX7_daysAsItIs 15 = .ok (.bipush 60, 2) := by decide +kernel
theorem dX7_daysAsItIs_17 : decode cX7_daysAsItIs 17 = .ok (.invokevirtual 193, 3) := by decide +kernel
theorem dX7_daysAsItIs_20 : decode cX7_daysAsItIs 20 = .ok (.ireturn, 1) := by decide +kernel
theorem dX7_orNone_0 : decode cX7_orNone 0 = .ok (.iload_n 0, 1) := by decide +kernel
theorem dX7_orNone_1 : decode cX7_orNone 1 = .ok (.bipush 61, 2) := by decide +kernel
theorem dX7_orNone_3 : decode cX7_orNone 3 = .ok (.if_icmp .ne 8, 3) := by decide +kernel
theorem dX7_orNone_6 : decode cX7_orNone 6 = .ok (.bipush (-4), 2) := by decide +kernel
theorem dX7_orNone_8 : decode cX7_orNone 8 = .ok (.goto 4, 3) := by decide +kernel
theorem dX7_orNone_11 : decode cX7_orNone 11 = .ok (.iload_n 0, 1) := by decide +kernel
theorem dX7_orNone_12 : decode cX7_orNone 12 = .ok (.ireturn, 1) := by decide +kernel
theorem dX7_leastOfRule_0 : decode cX7_leastOfRule 0 = .ok (.iload_n 2, 1) := by decide +kernel
theorem dX7_leastOfRule_1 : decode cX7_leastOfRule 1 = .ok (.iconst 0, 1) := by decide +kernel
theorem dX7_leastOfRule_2 : decode cX7_leastOfRule 2 = .ok (.bipush 60, 2) := by decide +kernel
theorem dX7_leastOfRule_4 : decode cX7_leastOfRule 4 = .ok (.invokestatic 71, 3) := by decide +kernel
theorem dX7_leastOfRule_7 : decode cX7_leastOfRule 7 = .ok (.ifCond .ne 5, 3) := by decide +kernel
theorem dX7_leastOfRule_10 : decode cX7_leastOfRule 10 = .ok (.iconst (-1), 1) := by decide +kernel
theorem dX7_leastOfRule_11 : decode cX7_leastOfRule 11 = .ok (.ireturn, 1) := by decide +kernel
theorem dX7_leastOfRule_12 : decode cX7_leastOfRule 12 = .ok (.getstatic 151, 3) := by decide +kernel
theorem dX7_leastOfRule_15 : decode cX7_leastOfRule 15 = .ok (.iload_n 1, 1) := by decide +kernel
theorem dX7_leastOfRule_16 : decode cX7_leastOfRule 16 = .ok (.iaload, 1) := by decide +kernel
theorem dX7_leastOfRule_17 : decode cX7_leastOfRule 17 = .ok (.istore_n 3, 1) := by decide +kernel
theorem dX7_leastOfRule_18 : decode cX7_leastOfRule 18 = .ok (.iload_n 3, 1) := by decide +kernel
theorem dX7_leastOfRule_19 : decode cX7_leastOfRule 19 = .ok (.getstatic 154, 3) := by decide +kernel
theorem dX7_leastOfRule_22 : decode cX7_leastOfRule 22 = .ok (.iload_n 1, 1) := by decide +kernel
theorem dX7_leastOfRule_23 : decode cX7_leastOfRule 23 = .ok (.iaload, 1) := by decide +kernel
theorem dX7_leastOfRule_24 : decode cX7_leastOfRule 24 = .ok (.if_icmp .gt 45, 3) := by decide +kernel
theorem dX7_leastOfRule_27 : decode cX7_leastOfRule 27 = .ok (.aload_n 0, 1) := by decide +kernel
theorem dX7_leastOfRule_28 : decode cX7_leastOfRule 28 = .ok (.getfield 16, 3) := by decide +kernel
theorem dX7_leastOfRule_31 : decode cX7_leastOfRule 31 = .ok (.aload_n 0, 1) := by decide +kernel
theorem dX7_leastOfRule_32 : decode cX7_leastOfRule 32 = .ok (.getfield 12, 3) := by decide +kernel
theorem dX7_leastOfRule_35 : decode cX7_leastOfRule 35 = .ok (.invokevirtual 87, 3) := by decide +kernel
theorem dX7_leastOfRule_38 : decode cX7_leastOfRule 38 = .ok (.aload_n 0, 1) := by decide +kernel
theorem dX7_leastOfRule_39 : decode cX7_leastOfRule 39 = .ok (.getfield 16, 3) := by decide +kernel
theorem dX7_leastOfRule_42 : decode cX7_leastOfRule 42 = .ok (.getfield 116, 3) := by decide +kernel
theorem dX7_leastOfRule_45 : decode cX7_leastOfRule 45 = .ok (.iload_n 1, 1) := by decide +kernel
theorem dX7_leastOfRule_46 : decode cX7_leastOfRule 46 = .ok (.iload_n 3, 1) := by decide +kernel
theorem dX7_leastOfRule_47 : decode cX7_leastOfRule 47 = .ok (.iastore, 1) := by decide +kernel
theorem dX7_leastOfRule_48 : decode cX7_leastOfRule 48 = .ok (.aload_n 0, 1) := by decide +kernel
theorem dX7_leastOfRule_49 : decode cX7_leastOfRule 49 = .ok (.getfield 16, 3) := by decide +kernel
theorem dX7_leastOfRule_52 : decode cX7_leastOfRule 52 = .ok (.iload_n 2, 1) := by decide +kernel
theorem dX7_leastOfRule_53 : decode cX7_leastOfRule 53 = .ok (.invokevirtual 193, 3) := by decide +kernel
theorem dX7_leastOfRule_56 : decode cX7_leastOfRule 56 = .ok (.bipush 61, 2) := by decide +kernel
theorem dX7_leastOfRule_58 : decode cX7_leastOfRule 58 = .ok (.if_icmp .eq 5, 3) := by decide +kernel
theorem dX7_leastOfRule_61 : decode cX7_leastOfRule 61 = .ok (.iload_n 3, 1) := by decide +kernel
theorem dX7_leastOfRule_62 : decode cX7_leastOfRule 62 = .ok (.ireturn, 1) := by decide +kernel
theorem dX7_leastOfRule_63 : decode cX7_leastOfRule 63 = .ok (.iinc 3 1, 3) := by decide +kernel
theorem dX7_leastOfRule_66 : decode cX7_leastOfRule 66 = .ok (.goto (-48), 3) := by decide +kernel
theorem dX7_leastOfRule_69 : decode cX7_leastOfRule 69 = .ok (.bipush (-4), 2) := by decide +kernel
theorem dX7_leastOfRule_71 : decode cX7_leastOfRule 71 = .ok (.ireturn, 1) := by decide +kernel
theorem dX7_rainFraction_0 : decode cX7_rainFraction 0 = .ok (.iload_n 1, 1) := by decide +kernel
theorem dX7_rainFraction_1 : decode cX7_rainFraction 1 = .ok (.iconst 0, 1) := by decide +kernel
theorem dX7_rainFraction_2 : decode cX7_rainFraction 2 = .ok (.bipush 10, 2) := by decide +kernel
theorem dX7_rainFraction_4 : decode cX7_rainFraction 4 = .ok (.invokestatic 71, 3) := by decide +kernel
theorem dX7_rainFraction_7 : decode cX7_rainFraction 7 = .ok (.ifCond .eq 21, 3) := by decide +kernel
theorem dX7_rainFraction_10 : decode cX7_rainFraction 10 = .ok (.iload_n 3, 1) := by decide +kernel
theorem dX7_rainFraction_11 : decode cX7_rainFraction 11 = .ok (.iconst 0, 1) := by decide +kernel
theorem dX7_rainFraction_12 : decode cX7_rainFraction 12 = .ok (.bipush 8, 2) := by decide +kernel
theorem dX7_rainFraction_14 : decode cX7_rainFraction 14 = .ok (.invokestatic 71, 3) := by decide +kernel
theorem dX7_rainFraction_17 : decode cX7_rainFraction 17 = .ok (.ifCond .eq 11, 3) := by decide +kernel
theorem dX7_rainFraction_20 : decode cX7_rainFraction 20 = .ok (.iload 4, 2) := by decide +kernel
theorem dX7_rainFraction_22 : decode cX7_rainFraction 22 = .ok (.invokestatic 186, 3) := by decide +kernel
theorem dX7_rainFraction_25 : decode cX7_rainFraction 25 = .ok (.ifCond .ne 7, 3) := by decide +kernel
theorem dX7_rainFraction_28 : decode cX7_rainFraction 28 = .ok (.ldc2_w 205, 3) := by decide +kernel
theorem dX7_rainFraction_31 : decode cX7_rainFraction 31 = .ok (.lreturn, 1) := by decide +kernel
theorem dX7_rainFraction_32 : decode cX7_rainFraction 32 = .ok (.aload_n 0, 1) := by decide +kernel
theorem dX7_rainFraction_33 : decode cX7_rainFraction 33 = .ok (.getfield 19, 3) := by decide +kernel
theorem dX7_rainFraction_36 : decode cX7_rainFraction 36 = .ok (.iconst 0, 1) := by decide +kernel
theorem dX7_rainFraction_37 : decode cX7_rainFraction 37 = .ok (.aaload, 1) := by decide +kernel
theorem dX7_rainFraction_38 : decode cX7_rainFraction 38 = .ok (.aload_n 0, 1) := by decide +kernel
theorem dX7_rainFraction_39 : decode cX7_rainFraction 39 = .ok (.getfield 12, 3) := by decide +kernel
theorem dX7_rainFraction_42 : decode cX7_rainFraction 42 = .ok (.invokevirtual 87, 3) := by decide +kernel
theorem dX7_rainFraction_45 : decode cX7_rainFraction 45 = .ok (.aload_n 0, 1) := by decide +kernel
theorem dX7_rainFraction_46 : decode cX7_rainFraction 46 = .ok (.iconst 0, 1) := by decide +kernel
theorem dX7_rainFraction_47 : decode cX7_rainFraction 47 = .ok (.iload_n 3, 1) := by decide +kernel
theorem dX7_rainFraction_48 : decode cX7_rainFraction 48 = .ok (.iload_n 1, 1) := by decide +kernel
theorem dX7_rainFraction_49 : decode cX7_rainFraction 49 = .ok (.iload_n 2, 1) := by decide +kernel
theorem dX7_rainFraction_50 : decode cX7_rainFraction 50 = .ok (.invokevirtual 281, 3) := by decide +kernel
theorem dX7_rainFraction_53 : decode cX7_rainFraction 53 = .ok (.lstore 5, 2) := by decide +kernel
theorem dX7_rainFraction_55 : decode cX7_rainFraction 55 = .ok (.lconst 1, 1) := by decide +kernel
theorem dX7_rainFraction_56 : decode cX7_rainFraction 56 = .ok (.lstore 7, 2) := by decide +kernel
theorem dX7_rainFraction_58 : decode cX7_rainFraction 58 = .ok (.iconst 0, 1) := by decide +kernel
theorem dX7_rainFraction_59 : decode cX7_rainFraction 59 = .ok (.istore 9, 2) := by decide +kernel
theorem dX7_rainFraction_61 : decode cX7_rainFraction 61 = .ok (.iload 9, 2) := by decide +kernel
theorem dX7_rainFraction_63 : decode cX7_rainFraction 63 = .ok (.iload_n 3, 1) := by decide +kernel
theorem dX7_rainFraction_64 : decode cX7_rainFraction 64 = .ok (.if_icmp .ge 17, 3) := by decide +kernel
theorem dX7_rainFraction_67 : decode cX7_rainFraction 67 = .ok (.lload 7, 2) := by decide +kernel
theorem dX7_rainFraction_69 : decode cX7_rainFraction 69 = .ok (.ldc2_w 284, 3) := by decide +kernel
theorem dX7_rainFraction_72 : decode cX7_rainFraction 72 = .ok (.lmul, 1) := by decide +kernel
theorem dX7_rainFraction_73 : decode cX7_rainFraction 73 = .ok (.lstore 7, 2) := by decide +kernel
theorem dX7_rainFraction_75 : decode cX7_rainFraction 75 = .ok (.iinc 9 1, 3) := by decide +kernel
theorem dX7_rainFraction_78 : decode cX7_rainFraction 78 = .ok (.goto (-17), 3) := by decide +kernel
theorem dX7_rainFraction_81 : decode cX7_rainFraction 81 = .ok (.lload 5, 2) := by decide +kernel
theorem dX7_rainFraction_83 : decode cX7_rainFraction 83 = .ok (.lload 7, 2) := by decide +kernel
theorem dX7_rainFraction_85 : decode cX7_rainFraction 85 = .ok (.iload_n 3, 1) := by decide +kernel
theorem dX7_rainFraction_86 : decode cX7_rainFraction 86 = .ok (.iload 4, 2) := by decide +kernel
theorem dX7_rainFraction_88 : decode cX7_rainFraction 88 = .ok (.invokestatic 286, 3) := by decide +kernel
theorem dX7_rainFraction_91 : decode cX7_rainFraction 91 = .ok (.lreturn, 1) := by decide +kernel
theorem dX7_weigh_0 : decode cX7_weigh 0 = .ok (.iload_n 1, 1) := by decide +kernel
theorem dX7_weigh_1 : decode cX7_weigh 1 = .ok (.iload_n 2, 1) := by decide +kernel
theorem dX7_weigh_2 : decode cX7_weigh 2 = .ok (.if_icmp .ge 9, 3) := by decide +kernel
theorem dX7_weigh_5 : decode cX7_weigh 5 = .ok (.iload_n 1, 1) := by decide +kernel
theorem dX7_weigh_6 : decode cX7_weigh 6 = .ok (.bipush 8, 2) := by decide +kernel
theorem dX7_weigh_8 : decode cX7_weigh 8 = .ok (.if_icmp .lt 15, 3) := by decide +kernel
theorem dX7_weigh_11 : decode cX7_weigh 11 = .ok (.aload_n 0, 1) := by decide +kernel
theorem dX7_weigh_12 : decode cX7_weigh 12 = .ok (.getfield 19, 3) := by decide +kernel
theorem dX7_weigh_15 : decode cX7_weigh 15 = .ok (.iload_n 1, 1) := by decide +kernel
theorem dX7_weigh_16 : decode cX7_weigh 16 = .ok (.aaload, 1) := by decide +kernel
theorem dX7_weigh_17 : decode cX7_weigh 17 = .ok (.iload 4, 2) := by decide +kernel
theorem dX7_weigh_19 : decode cX7_weigh 19 = .ok (.invokestatic 290, 3) := by decide +kernel
theorem dX7_weigh_22 : decode cX7_weigh 22 = .ok (.lreturn, 1) := by decide +kernel
theorem dX7_weigh_23 : decode cX7_weigh 23 = .ok (.lconst 0, 1) := by decide +kernel
theorem dX7_weigh_24 : decode cX7_weigh 24 = .ok (.lstore 5, 2) := by decide +kernel
theorem dX7_weigh_26 : decode cX7_weigh 26 = .ok (.iload_n 3, 1) := by decide +kernel
theorem dX7_weigh_27 : decode cX7_weigh 27 = .ok (.ifCond .le 21, 3) := by decide +kernel
theorem dX7_weigh_30 : decode cX7_weigh 30 = .ok (.lload 5, 2) := by decide +kernel
theorem dX7_weigh_32 : decode cX7_weigh 32 = .ok (.iload_n 3, 1) := by decide +kernel
theorem dX7_weigh_33 : decode cX7_weigh 33 = .ok (.i2l, 1) := by decide +kernel
theorem dX7_weigh_34 : decode cX7_weigh 34 = .ok (.aload_n 0, 1) := by decide +kernel
theorem dX7_weigh_35 : decode cX7_weigh 35 = .ok (.iconst 0, 1) := by decide +kernel
theorem dX7_weigh_36 : decode cX7_weigh 36 = .ok (.iload_n 1, 1) := by decide +kernel
theorem dX7_weigh_37 : decode cX7_weigh 37 = .ok (.iload_n 2, 1) := by decide +kernel
theorem dX7_weigh_38 : decode cX7_weigh 38 = .ok (.iload_n 3, 1) := by decide +kernel
theorem dX7_weigh_39 : decode cX7_weigh 39 = .ok (.iload 4, 2) := by decide +kernel
theorem dX7_weigh_41 : decode cX7_weigh 41 = .ok (.invokevirtual 294, 3) := by decide +kernel
theorem dX7_weigh_44 : decode cX7_weigh 44 = .ok (.lmul, 1) := by decide +kernel
theorem dX7_weigh_45 : decode cX7_weigh 45 = .ok (.ladd, 1) := by decide +kernel
theorem dX7_weigh_46 : decode cX7_weigh 46 = .ok (.lstore 5, 2) := by decide +kernel
theorem dX7_weigh_48 : decode cX7_weigh 48 = .ok (.iload_n 3, 1) := by decide +kernel
theorem dX7_weigh_49 : decode cX7_weigh 49 = .ok (.bipush 10, 2) := by decide +kernel
theorem dX7_weigh_51 : decode cX7_weigh 51 = .ok (.if_icmp .ge 32, 3) := by decide +kernel
theorem dX7_weigh_54 : decode cX7_weigh 54 = .ok (.lload 5, 2) := by decide +kernel
theorem dX7_weigh_56 : decode cX7_weigh 56 = .ok (.bipush 10, 2) := by decide +kernel
theorem dX7_weigh_58 : decode cX7_weigh 58 = .ok (.iload_n 3, 1) := by decide +kernel
theorem dX7_weigh_59 : decode cX7_weigh 59 = .ok (.isub, 1) := by decide +kernel
theorem dX7_weigh_60 : decode cX7_weigh 60 = .ok (.i2l, 1) := by decide +kernel
theorem dX7_weigh_61 : decode cX7_weigh 61 = .ok (.aload_n 0, 1) := by decide +kernel
theorem dX7_weigh_62 : decode cX7_weigh 62 = .ok (.aload_n 0, 1) := by decide +kernel
theorem dX7_weigh_63 : decode cX7_weigh 63 = .ok (.getfield 19, 3) := by decide +kernel
theorem dX7_weigh_66 : decode cX7_weigh 66 = .ok (.iload_n 1, 1) := by decide +kernel
theorem dX7_weigh_67 : decode cX7_weigh 67 = .ok (.aaload, 1) := by decide +kernel
theorem dX7_weigh_68 : decode cX7_weigh 68 = .ok (.invokevirtual 113, 3) := by decide +kernel
theorem dX7_weigh_71 : decode cX7_weigh 71 = .ok (.iload_n 1, 1) := by decide +kernel
theorem dX7_weigh_72 : decode cX7_weigh 72 = .ok (.iload_n 2, 1) := by decide +kernel
theorem dX7_weigh_73 : decode cX7_weigh 73 = .ok (.iload_n 3, 1) := by decide +kernel
theorem dX7_weigh_74 : decode cX7_weigh 74 = .ok (.iload 4, 2) := by decide +kernel
theorem dX7_weigh_76 : decode cX7_weigh 76 = .ok (.invokevirtual 294, 3) := by decide +kernel
theorem dX7_weigh_79 : decode cX7_weigh 79 = .ok (.lmul, 1) := by decide +kernel
theorem dX7_weigh_80 : decode cX7_weigh 80 = .ok (.ladd, 1) := by decide +kernel
theorem dX7_weigh_81 : decode cX7_weigh 81 = .ok (.lstore 5, 2) := by decide +kernel
theorem dX7_weigh_83 : decode cX7_weigh 83 = .ok (.lload 5, 2) := by decide +kernel
theorem dX7_weigh_85 : decode cX7_weigh 85 = .ok (.lreturn, 1) := by decide +kernel
theorem dX7_weighUnder_0 : decode cX7_weighUnder 0 = .ok (.aload_n 0, 1) := by decide +kernel
theorem dX7_weighUnder_1 : decode cX7_weighUnder 1 = .ok (.getfield 19, 3) := by decide +kernel
theorem dX7_weighUnder_4 : decode cX7_weighUnder 4 = .ok (.iload_n 2, 1) := by decide +kernel
theorem dX7_weighUnder_5 : decode cX7_weighUnder 5 = .ok (.iconst 1, 1) := by decide +kernel
theorem dX7_weighUnder_6 : decode cX7_weighUnder 6 = .ok (.iadd, 1) := by decide +kernel
theorem dX7_weighUnder_7 : decode cX7_weighUnder 7 = .ok (.aaload, 1) := by decide +kernel
theorem dX7_weighUnder_8 : decode cX7_weighUnder 8 = .ok (.astore 6, 2) := by decide +kernel
theorem dX7_weighUnder_10 : decode cX7_weighUnder 10 = .ok (.aload 6, 2) := by decide +kernel
theorem dX7_weighUnder_12 : decode cX7_weighUnder 12 = .ok (.aload_n 0, 1) := by decide +kernel
theorem dX7_weighUnder_13 : decode cX7_weighUnder 13 = .ok (.getfield 19, 3) := by decide +kernel
theorem dX7_weighUnder_16 : decode cX7_weighUnder 16 = .ok (.iload_n 2, 1) := by decide +kernel
theorem dX7_weighUnder_17 : decode cX7_weighUnder 17 = .ok (.aaload, 1) := by decide +kernel
theorem dX7_weighUnder_18 : decode cX7_weighUnder 18 = .ok (.invokevirtual 87, 3) := by decide +kernel
theorem dX7_weighUnder_21 : decode cX7_weighUnder 21 = .ok (.aload 6, 2) := by decide +kernel
theorem dX7_weighUnder_23 : decode cX7_weighUnder 23 = .ok (.iload_n 1, 1) := by decide +kernel
theorem dX7_weighUnder_24 : decode cX7_weighUnder 24 = .ok (.invokevirtual 163, 3) := by decide +kernel
theorem dX7_weighUnder_27 : decode cX7_weighUnder 27 = .ok (.pop, 1) := by decide +kernel
theorem dX7_weighUnder_28 : decode cX7_weighUnder 28 = .ok (.aload_n 0, 1) := by decide +kernel
theorem dX7_weighUnder_29 : decode cX7_weighUnder 29 = .ok (.iload_n 2, 1) := by decide +kernel
theorem dX7_weighUnder_30 : decode cX7_weighUnder 30 = .ok (.iconst 1, 1) := by decide +kernel
theorem dX7_weighUnder_31 : decode cX7_weighUnder 31 = .ok (.iadd, 1) := by decide +kernel
theorem dX7_weighUnder_32 : decode cX7_weighUnder 32 = .ok (.iload_n 3, 1) := by decide +kernel
theorem dX7_weighUnder_33 : decode cX7_weighUnder 33 = .ok (.iload 4, 2) := by decide +kernel
theorem dX7_weighUnder_35 : decode cX7_weighUnder 35 = .ok (.iload 5, 2) := by decide +kernel
theorem dX7_weighUnder_37 : decode cX7_weighUnder 37 = .ok (.invokevirtual 281, 3) := by decide +kernel
theorem dX7_weighUnder_40 : decode cX7_weighUnder 40 = .ok (.lreturn, 1) := by decide +kernel
theorem dX7_worth_0 : decode cX7_worth 0 = .ok (.iload_n 1, 1) := by decide +kernel
theorem dX7_worth_1 : decode cX7_worth 1 = .ok (.iconst (-1), 1) := by decide +kernel
theorem dX7_worth_2 : decode cX7_worth 2 = .ok (.if_icmp .ne 9, 3) := by decide +kernel
theorem dX7_worth_5 : decode cX7_worth 5 = .ok (.aload_n 0, 1) := by decide +kernel
theorem dX7_worth_6 : decode cX7_worth 6 = .ok (.invokevirtual 109, 3) := by decide +kernel
theorem dX7_worth_9 : decode cX7_worth 9 = .ok (.i2l, 1) := by decide +kernel
theorem dX7_worth_10 : decode cX7_worth 10 = .ok (.lreturn, 1) := by decide +kernel
theorem dX7_worth_11 : decode cX7_worth 11 = .ok (.aload_n 0, 1) := by decide +kernel
theorem dX7_worth_12 : decode cX7_worth 12 = .ok (.getfield 131, 3) := by decide +kernel
theorem dX7_worth_15 : decode cX7_worth 15 = .ok (.iload_n 1, 1) := by decide +kernel
theorem dX7_worth_16 : decode cX7_worth 16 = .ok (.iaload, 1) := by decide +kernel
theorem dX7_worth_17 : decode cX7_worth 17 = .ok (.iconst 2, 1) := by decide +kernel
theorem dX7_worth_18 : decode cX7_worth 18 = .ok (.if_icmp .ne 7, 3) := by decide +kernel
theorem dX7_worth_21 : decode cX7_worth 21 = .ok (.lconst 1, 1) := by decide +kernel
theorem dX7_worth_22 : decode cX7_worth 22 = .ok (.goto 4, 3) := by decide +kernel
theorem dX7_worth_25 : decode cX7_worth 25 = .ok (.lconst 0, 1) := by decide +kernel
theorem dX7_worth_26 : decode cX7_worth 26 = .ok (.lreturn, 1) := by decide +kernel
theorem dX7_inLowestTerms_0 : decode cX7_inLowestTerms 0 = .ok (.iconst 0, 1) := by decide +kernel
theorem dX7_inLowestTerms_1 : decode cX7_inLowestTerms 1 = .ok (.istore 6, 2) := by decide +kernel
theorem dX7_inLowestTerms_3 : decode cX7_inLowestTerms 3 = .ok (.iload 6, 2) := by decide +kernel
theorem dX7_inLowestTerms_5 : decode cX7_inLowestTerms 5 = .ok (.iload 4, 2) := by decide +kernel
theorem dX7_inLowestTerms_7 : decode cX7_inLowestTerms 7 = .ok (.if_icmp .ge 73, 3) := by decide +kernel
theorem dX7_inLowestTerms_10 : decode cX7_inLowestTerms 10 = .ok (.lload_n 0, 1) := by decide +kernel
theorem dX7_inLowestTerms_11 : decode cX7_inLowestTerms 11 = .ok (.ldc2_w 298, 3) := by decide +kernel
theorem dX7_inLowestTerms_14 : decode cX7_inLowestTerms 14 = .ok (.lrem, 1) := by decide +kernel
theorem dX7_inLowestTerms_15 : decode cX7_inLowestTerms 15 = .ok (.lconst 0, 1) := by decide +kernel
theorem dX7_inLowestTerms_16 : decode cX7_inLowestTerms 16 = .ok (.lcmp, 1) := by decide +kernel
theorem dX7_inLowestTerms_17 : decode cX7_inLowestTerms 17 = .ok (.ifCond .ne 25, 3) := by decide +kernel
theorem dX7_inLowestTerms_20 : decode cX7_inLowestTerms 20 = .ok (.lload_n 2, 1) := by decide +kernel
theorem dX7_inLowestTerms_21 : decode cX7_inLowestTerms 21 = .ok (.ldc2_w 298, 3) := by decide +kernel
theorem dX7_inLowestTerms_24 : decode cX7_inLowestTerms 24 = .ok (.lrem, 1) := by decide +kernel
theorem dX7_inLowestTerms_25 : decode cX7_inLowestTerms 25 = .ok (.lconst 0, 1) := by decide +kernel
theorem dX7_inLowestTerms_26 : decode cX7_inLowestTerms 26 = .ok (.lcmp, 1) := by decide +kernel
theorem dX7_inLowestTerms_27 : decode cX7_inLowestTerms 27 = .ok (.ifCond .ne 15, 3) := by decide +kernel
theorem dX7_inLowestTerms_30 : decode cX7_inLowestTerms 30 = .ok (.lload_n 0, 1) := by decide +kernel
theorem dX7_inLowestTerms_31 : decode cX7_inLowestTerms 31 = .ok (.ldc2_w 298, 3) := by decide +kernel
theorem dX7_inLowestTerms_34 : decode cX7_inLowestTerms 34 = .ok (.ldiv, 1) := by decide +kernel
theorem dX7_inLowestTerms_35 : decode cX7_inLowestTerms 35 = .ok (.lstore_n 0, 1) := by decide +kernel
theorem dX7_inLowestTerms_36 : decode cX7_inLowestTerms 36 = .ok (.lload_n 2, 1) := by decide +kernel
theorem dX7_inLowestTerms_37 : decode cX7_inLowestTerms 37 = .ok (.ldc2_w 298, 3) := by decide +kernel
theorem dX7_inLowestTerms_40 : decode cX7_inLowestTerms 40 = .ok (.ldiv, 1) := by decide +kernel
theorem dX7_inLowestTerms_41 : decode cX7_inLowestTerms 41 = .ok (.lstore_n 2, 1) := by decide +kernel
theorem dX7_inLowestTerms_42 : decode cX7_inLowestTerms 42 = .ok (.lload_n 0, 1) := by decide +kernel
theorem dX7_inLowestTerms_43 : decode cX7_inLowestTerms 43 = .ok (.ldc2_w 300, 3) := by decide +kernel
theorem dX7_inLowestTerms_46 : decode cX7_inLowestTerms 46 = .ok (.lrem, 1) := by decide +kernel
theorem dX7_inLowestTerms_47 : decode cX7_inLowestTerms 47 = .ok (.lconst 0, 1) := by decide +kernel
theorem dX7_inLowestTerms_48 : decode cX7_inLowestTerms 48 = .ok (.lcmp, 1) := by decide +kernel
theorem dX7_inLowestTerms_49 : decode cX7_inLowestTerms 49 = .ok (.ifCond .ne 25, 3) := by decide +kernel
theorem dX7_inLowestTerms_52 : decode cX7_inLowestTerms 52 = .ok (.lload_n 2, 1) := by decide +kernel
theorem dX7_inLowestTerms_53 : decode cX7_inLowestTerms 53 = .ok (.ldc2_w 300, 3) := by decide +kernel
theorem dX7_inLowestTerms_56 : decode cX7_inLowestTerms 56 = .ok (.lrem, 1) := by decide +kernel
theorem dX7_inLowestTerms_57 : decode cX7_inLowestTerms 57 = .ok (.lconst 0, 1) := by decide +kernel
theorem dX7_inLowestTerms_58 : decode cX7_inLowestTerms 58 = .ok (.lcmp, 1) := by decide +kernel
theorem dX7_inLowestTerms_59 : decode cX7_inLowestTerms 59 = .ok (.ifCond .ne 15, 3) := by decide +kernel
theorem dX7_inLowestTerms_62 : decode cX7_inLowestTerms 62 = .ok (.lload_n 0, 1) := by decide +kernel
theorem dX7_inLowestTerms_63 : decode cX7_inLowestTerms 63 = .ok (.ldc2_w 300, 3) := by decide +kernel
theorem dX7_inLowestTerms_66 : decode cX7_inLowestTerms 66 = .ok (.ldiv, 1) := by decide +kernel
theorem dX7_inLowestTerms_67 : decode cX7_inLowestTerms 67 = .ok (.lstore_n 0, 1) := by decide +kernel
theorem dX7_inLowestTerms_68 : decode cX7_inLowestTerms 68 = .ok (.lload_n 2, 1) := by decide +kernel
theorem dX7_inLowestTerms_69 : decode cX7_inLowestTerms 69 = .ok (.ldc2_w 300, 3) := by decide +kernel
theorem dX7_inLowestTerms_72 : decode cX7_inLowestTerms 72 = .ok (.ldiv, 1) := by decide +kernel
theorem dX7_inLowestTerms_73 : decode cX7_inLowestTerms 73 = .ok (.lstore_n 2, 1) := by decide +kernel
theorem dX7_inLowestTerms_74 : decode cX7_inLowestTerms 74 = .ok (.iinc 6 1, 3) := by decide +kernel
theorem dX7_inLowestTerms_77 : decode cX7_inLowestTerms 77 = .ok (.goto (-74), 3) := by decide +kernel
theorem dX7_inLowestTerms_80 : decode cX7_inLowestTerms 80 = .ok (.iload 5, 2) := by decide +kernel
theorem dX7_inLowestTerms_82 : decode cX7_inLowestTerms 82 = .ok (.ifCond .ne 7, 3) := by decide +kernel
theorem dX7_inLowestTerms_85 : decode cX7_inLowestTerms 85 = .ok (.lload_n 0, 1) := by decide +kernel
theorem dX7_inLowestTerms_86 : decode cX7_inLowestTerms 86 = .ok (.goto 4, 3) := by decide +kernel
theorem dX7_inLowestTerms_89 : decode cX7_inLowestTerms 89 = .ok (.lload_n 2, 1) := by decide +kernel
theorem dX7_inLowestTerms_90 : decode cX7_inLowestTerms 90 = .ok (.lreturn, 1) := by decide +kernel
theorem dX7_greysAsSeen_0 : decode cX7_greysAsSeen 0 = .ok (.iconst 0, 1) := by decide +kernel
theorem dX7_greysAsSeen_1 : decode cX7_greysAsSeen 1 = .ok (.istore_n 2, 1) := by decide +kernel
theorem dX7_greysAsSeen_2 : decode cX7_greysAsSeen 2 = .ok (.iconst 0, 1) := by decide +kernel
theorem dX7_greysAsSeen_3 : decode cX7_greysAsSeen 3 = .ok (.istore_n 3, 1) := by decide +kernel
theorem dX7_greysAsSeen_4 : decode cX7_greysAsSeen 4 = .ok (.iload_n 3, 1) := by decide +kernel
theorem dX7_greysAsSeen_5 : decode cX7_greysAsSeen 5 = .ok (.bipush 31, 2) := by decide +kernel
theorem dX7_greysAsSeen_7 : decode cX7_greysAsSeen 7 = .ok (.if_icmp .ge 50, 3) := by decide +kernel
theorem dX7_greysAsSeen_10 : decode cX7_greysAsSeen 10 = .ok (.aload_n 0, 1) := by decide +kernel
theorem dX7_greysAsSeen_11 : decode cX7_greysAsSeen 11 = .ok (.getfield 16, 3) := by decide +kernel
theorem dX7_greysAsSeen_14 : decode cX7_greysAsSeen 14 = .ok (.aload_n 0, 1) := by decide +kernel
theorem dX7_greysAsSeen_15 : decode cX7_greysAsSeen 15 = .ok (.getfield 12, 3) := by decide +kernel
theorem dX7_greysAsSeen_18 : decode cX7_greysAsSeen 18 = .ok (.invokevirtual 87, 3) := by decide +kernel
theorem dX7_greysAsSeen_21 : decode cX7_greysAsSeen 21 = .ok (.aload_n 0, 1) := by decide +kernel
theorem dX7_greysAsSeen_22 : decode cX7_greysAsSeen 22 = .ok (.getfield 16, 3) := by decide +kernel
theorem dX7_greysAsSeen_25 : decode cX7_greysAsSeen 25 = .ok (.getfield 125, 3) := by decide +kernel
theorem dX7_greysAsSeen_28 : decode cX7_greysAsSeen 28 = .ok (.iload_n 1, 1) := by decide +kernel
theorem dX7_greysAsSeen_29 : decode cX7_greysAsSeen 29 = .ok (.iload_n 3, 1) := by decide +kernel
theorem dX7_greysAsSeen_30 : decode cX7_greysAsSeen 30 = .ok (.iastore, 1) := by decide +kernel
theorem dX7_greysAsSeen_31 : decode cX7_greysAsSeen 31 = .ok (.aload_n 0, 1) := by decide +kernel
theorem dX7_greysAsSeen_32 : decode cX7_greysAsSeen 32 = .ok (.getfield 42, 3) := by decide +kernel
theorem dX7_greysAsSeen_35 : decode cX7_greysAsSeen 35 = .ok (.aload_n 0, 1) := by decide +kernel
theorem dX7_greysAsSeen_36 : decode cX7_greysAsSeen 36 = .ok (.getfield 16, 3) := by decide +kernel
theorem dX7_greysAsSeen_39 : decode cX7_greysAsSeen 39 = .ok (.invokevirtual 214, 3) := by decide +kernel
theorem dX7_greysAsSeen_42 : decode cX7_greysAsSeen 42 = .ok (.ifCond .eq 9, 3) := by decide +kernel
theorem dX7_greysAsSeen_45 : decode cX7_greysAsSeen 45 = .ok (.iload_n 2, 1) := by decide +kernel
theorem dX7_greysAsSeen_46 : decode cX7_greysAsSeen 46 = .ok (.iconst 1, 1) := by decide +kernel
theorem dX7_greysAsSeen_47 : decode cX7_greysAsSeen 47 = .ok (.iload_n 3, 1) := by decide +kernel
theorem dX7_greysAsSeen_48 : decode cX7_greysAsSeen 48 = .ok (.ishl, 1) := by decide +kernel
theorem dX7_greysAsSeen_49 : decode cX7_greysAsSeen 49 = .ok (.ior, 1) := by decide +kernel
theorem dX7_greysAsSeen_50 : decode cX7_greysAsSeen 50 = .ok (.istore_n 2, 1) := by decide +kernel
theorem dX7_greysAsSeen_51 : decode cX7_greysAsSeen 51 = .ok (.iinc 3 1, 3) := by decide +kernel
theorem dX7_greysAsSeen_54 : decode cX7_greysAsSeen 54 = .ok (.goto (-50), 3) := by decide +kernel
theorem dX7_greysAsSeen_57 : decode cX7_greysAsSeen 57 = .ok (.iload_n 2, 1) := by decide +kernel
theorem dX7_greysAsSeen_58 : decode cX7_greysAsSeen 58 = .ok (.ireturn, 1) := by decide +kernel
theorem dX7_tallyPlaces_0 : decode cX7_tallyPlaces 0 = .ok (.aload_n 0, 1) := by decide +kernel
theorem dX7_tallyPlaces_1 : decode cX7_tallyPlaces 1 = .ok (.getfield 53, 3) := by decide +kernel
theorem dX7_tallyPlaces_4 : decode cX7_tallyPlaces 4 = .ok (.iconst 0, 1) := by decide +kernel
theorem dX7_tallyPlaces_5 : decode cX7_tallyPlaces 5 = .ok (.invokestatic 302, 3) := by decide +kernel
theorem dX7_tallyPlaces_8 : decode cX7_tallyPlaces 8 = .ok (.iconst 0, 1) := by decide +kernel
theorem dX7_tallyPlaces_9 : decode cX7_tallyPlaces 9 = .ok (.istore_n 3, 1) := by decide +kernel
theorem dX7_tallyPlaces_10 : decode cX7_tallyPlaces 10 = .ok (.iload_n 3, 1) := by decide +kernel
theorem dX7_tallyPlaces_11 : decode cX7_tallyPlaces 11 = .ok (.bipush 31, 2) := by decide +kernel
theorem dX7_tallyPlaces_13 : decode cX7_tallyPlaces 13 = .ok (.if_icmp .ge 120, 3) := by decide +kernel
theorem dX7_tallyPlaces_16 : decode cX7_tallyPlaces 16 = .ok (.iload_n 2, 1) := by decide +kernel
theorem dX7_tallyPlaces_17 : decode cX7_tallyPlaces 17 = .ok (.iload_n 3, 1) := by decide +kernel
theorem dX7_tallyPlaces_18 : decode cX7_tallyPlaces 18 = .ok (.ishr, 1) := by decide +kernel
theorem dX7_tallyPlaces_19 : decode cX7_tallyPlaces 19 = .ok (.iconst 1, 1) := by decide +kernel
theorem dX7_tallyPlaces_20 : decode cX7_tallyPlaces 20 = .ok (.iand, 1) := by decide +kernel
theorem dX7_tallyPlaces_21 : decode cX7_tallyPlaces 21 = .ok (.ifCond .ne 6, 3) := by decide +kernel
theorem dX7_tallyPlaces_24 : decode cX7_tallyPlaces 24 = .ok (.goto 103, 3) := by decide +kernel
theorem dX7_tallyPlaces_27 : decode cX7_tallyPlaces 27 = .ok (.aload_n 0, 1) := by decide +kernel
theorem dX7_tallyPlaces_28 : decode cX7_tallyPlaces 28 = .ok (.getfield 16, 3) := by decide +kernel
theorem dX7_tallyPlaces_31 : decode cX7_tallyPlaces 31 = .ok (.aload_n 0, 1) := by decide +kernel
theorem dX7_tallyPlaces_32 : decode cX7_tallyPlaces 32 = .ok (.getfield 12, 3) := by decide +kernel
theorem dX7_tallyPlaces_35 : decode cX7_tallyPlaces 35 = .ok (.invokevirtual 87, 3) := by decide +kernel
theorem dX7_tallyPlaces_38 : decode cX7_tallyPlaces 38 = .ok (.aload_n 0, 1) := by decide +kernel
theorem dX7_tallyPlaces_39 : decode cX7_tallyPlaces 39 = .ok (.getfield 16, 3) := by decide +kernel
theorem dX7_tallyPlaces_42 : decode cX7_tallyPlaces 42 = .ok (.getfield 125, 3) := by decide +kernel
theorem dX7_tallyPlaces_45 : decode cX7_tallyPlaces 45 = .ok (.iload_n 1, 1) := by decide +kernel
theorem dX7_tallyPlaces_46 : decode cX7_tallyPlaces 46 = .ok (.iload_n 3, 1) := by decide +kernel
theorem dX7_tallyPlaces_47 : decode cX7_tallyPlaces 47 = .ok (.iastore, 1) := by decide +kernel
theorem dX7_tallyPlaces_48 : decode cX7_tallyPlaces 48 = .ok (.iconst 0, 1) := by decide +kernel
theorem dX7_tallyPlaces_49 : decode cX7_tallyPlaces 49 = .ok (.istore 4, 2) := by decide +kernel
theorem dX7_tallyPlaces_51 : decode cX7_tallyPlaces 51 = .ok (.iload 4, 2) := by decide +kernel
theorem dX7_tallyPlaces_53 : decode cX7_tallyPlaces 53 = .ok (.bipush 20, 2) := by decide +kernel
theorem dX7_tallyPlaces_55 : decode cX7_tallyPlaces 55 = .ok (.if_icmp .gt 72, 3) := by decide +kernel
theorem dX7_tallyPlaces_58 : decode cX7_tallyPlaces 58 = .ok (.iconst 0, 1) := by decide +kernel
theorem dX7_tallyPlaces_59 : decode cX7_tallyPlaces 59 = .ok (.istore 5, 2) := by decide +kernel
theorem dX7_tallyPlaces_61 : decode cX7_tallyPlaces 61 = .ok (.iload 5, 2) := by decide +kernel
theorem dX7_tallyPlaces_63 : decode cX7_tallyPlaces 63 = .ok (.aload_n 0, 1) := by decide +kernel
theorem dX7_tallyPlaces_64 : decode cX7_tallyPlaces 64 = .ok (.getfield 16, 3) := by decide +kernel
theorem dX7_tallyPlaces_67 : decode cX7_tallyPlaces 67 = .ok (.getfield 101, 3) := by decide +kernel
theorem dX7_tallyPlaces_70 : decode cX7_tallyPlaces 70 = .ok (.if_icmp .ge 36, 3) := by decide +kernel
theorem dX7_tallyPlaces_73 : decode cX7_tallyPlaces 73 = .ok (.aload_n 0, 1) := by decide +kernel
theorem dX7_tallyPlaces_74 : decode cX7_tallyPlaces 74 = .ok (.getfield 53, 3) := by decide +kernel
theorem dX7_tallyPlaces_77 : decode cX7_tallyPlaces 77 = .ok (.iload 4, 2) := by decide +kernel
theorem dX7_tallyPlaces_79 : decode cX7_tallyPlaces 79 = .ok (.iload 5, 2) := by decide +kernel
theorem dX7_tallyPlaces_81 : decode cX7_tallyPlaces 81 = .ok (.invokestatic 308, 3) := by decide +kernel
theorem dX7_tallyPlaces_84 : decode cX7_tallyPlaces 84 = .ok (.aload_n 0, 1) := by decide +kernel
theorem dX7_tallyPlaces_85 : decode cX7_tallyPlaces 85 = .ok (.getfield 16, 3) := by decide +kernel
theorem dX7_tallyPlaces_88 : decode cX7_tallyPlaces 88 = .ok (.getfield 131, 3) := by decide +kernel
theorem dX7_tallyPlaces_91 : decode cX7_tallyPlaces 91 = .ok (.iload 5, 2) := by decide +kernel
theorem dX7_tallyPlaces_93 : decode cX7_tallyPlaces 93 = .ok (.iaload, 1) := by decide +kernel
theorem dX7_tallyPlaces_94 : decode cX7_tallyPlaces 94 = .ok (.iadd, 1) := by decide +kernel
theorem dX7_tallyPlaces_95 : decode cX7_tallyPlaces 95 = .ok (.dup2, 1) := by decide +kernel
theorem dX7_tallyPlaces_96 : decode cX7_tallyPlaces 96 = .ok (.iaload, 1) := by decide +kernel
theorem dX7_tallyPlaces_97 : decode cX7_tallyPlaces 97 = .ok (.iconst 1, 1) := by decide +kernel
theorem dX7_tallyPlaces_98 : decode cX7_tallyPlaces 98 = .ok (.iadd, 1) := by decide +kernel
theorem dX7_tallyPlaces_99 : decode cX7_tallyPlaces 99 = .ok (.iastore, 1) := by decide +kernel
theorem dX7_tallyPlaces_100 : decode cX7_tallyPlaces 100 = .ok (.iinc 5 1, 3) := by decide +kernel
theorem dX7_tallyPlaces_103 : decode cX7_tallyPlaces 103 = .ok (.goto (-42), 3) := by decide +kernel
theorem dX7_tallyPlaces_106 : decode cX7_tallyPlaces 106 = .ok (.aload_n 0, 1) := by decide +kernel
theorem dX7_tallyPlaces_107 : decode cX7_tallyPlaces 107 = .ok (.getfield 16, 3) := by decide +kernel
theorem dX7_tallyPlaces_110 : decode cX7_tallyPlaces 110 = .ok (.aload_n 0, 1) := by decide +kernel
theorem dX7_tallyPlaces_111 : decode cX7_tallyPlaces 111 = .ok (.getfield 16, 3) := by decide +kernel
theorem dX7_tallyPlaces_114 : decode cX7_tallyPlaces 114 = .ok (.invokevirtual 113, 3) := by decide +kernel
theorem dX7_tallyPlaces_117 : decode cX7_tallyPlaces 117 = .ok (.invokevirtual 163, 3) := by decide +kernel
theorem dX7_tallyPlaces_120 : decode cX7_tallyPlaces 120 = .ok (.pop, 1) := by decide +kernel
theorem dX7_tallyPlaces_121 : decode cX7_tallyPlaces 121 = .ok (.iinc 4 1, 3) := by decide +kernel
theorem dX7_tallyPlaces_124 : decode cX7_tallyPlaces 124 = .ok (.goto (-73), 3) := by decide +kernel
theorem dX7_tallyPlaces_127 : decode cX7_tallyPlaces 127 = .ok (.iinc 3 1, 3) := by decide +kernel
theorem dX7_tallyPlaces_130 : decode cX7_tallyPlaces 130 = .ok (.goto (-120), 3) := by decide +kernel
theorem dX7_tallyPlaces_133 : decode cX7_tallyPlaces 133 = .ok (.return_, 1) := by decide +kernel
theorem dX7_tallyAt_0 : decode cX7_tallyAt 0 = .ok (.iload_n 0, 1) := by decide +kernel
theorem dX7_tallyAt_1 : decode cX7_tallyAt 1 = .ok (.bipush 6, 2) := by decide +kernel
theorem dX7_tallyAt_3 : decode cX7_tallyAt 3 = .ok (.imul, 1) := by decide +kernel
theorem dX7_tallyAt_4 : decode cX7_tallyAt 4 = .ok (.iload_n 1, 1) := by decide +kernel
theorem dX7_tallyAt_5 : decode cX7_tallyAt 5 = .ok (.iadd, 1) := by decide +kernel
theorem dX7_tallyAt_6 : decode cX7_tallyAt 6 = .ok (.iconst 3, 1) := by decide +kernel
theorem dX7_tallyAt_7 : decode cX7_tallyAt 7 = .ok (.imul, 1) := by decide +kernel
theorem dX7_tallyAt_8 : decode cX7_tallyAt 8 = .ok (.ireturn, 1) := by decide +kernel
theorem dX7_mostLeft_0 : decode cX7_mostLeft 0 = .ok (.iload_n 1, 1) := by decide +kernel
theorem dX7_mostLeft_1 : decode cX7_mostLeft 1 = .ok (.iload_n 2, 1) := by decide +kernel
theorem dX7_mostLeft_2 : decode cX7_mostLeft 2 = .ok (.invokestatic 308, 3) := by decide +kernel
theorem dX7_mostLeft_5 : decode cX7_mostLeft 5 = .ok (.istore_n 3, 1) := by decide +kernel
theorem dX7_mostLeft_6 : decode cX7_mostLeft 6 = .ok (.aload_n 0, 1) := by decide +kernel
theorem dX7_mostLeft_7 : decode cX7_mostLeft 7 = .ok (.getfield 53, 3) := by decide +kernel
theorem dX7_mostLeft_10 : decode cX7_mostLeft 10 = .ok (.iload_n 3, 1) := by decide +kernel
theorem dX7_mostLeft_11 : decode cX7_mostLeft 11 = .ok (.iconst 0, 1) := by decide +kernel
theorem dX7_mostLeft_12 : decode cX7_mostLeft 12 = .ok (.iadd, 1) := by decide +kernel
theorem dX7_mostLeft_13 : decode cX7_mostLeft 13 = .ok (.iaload, 1) := by decide +kernel
theorem dX7_mostLeft_14 : decode cX7_mostLeft 14 = .ok (.aload_n 0, 1) := by decide +kernel
theorem dX7_mostLeft_15 : decode cX7_mostLeft 15 = .ok (.getfield 53, 3) := by decide +kernel
theorem dX7_mostLeft_18 : decode cX7_mostLeft 18 = .ok (.iload_n 3, 1) := by decide +kernel
theorem dX7_mostLeft_19 : decode cX7_mostLeft 19 = .ok (.iconst 1, 1) := by decide +kernel
theorem dX7_mostLeft_20 : decode cX7_mostLeft 20 = .ok (.iadd, 1) := by decide +kernel
theorem dX7_mostLeft_21 : decode cX7_mostLeft 21 = .ok (.iaload, 1) := by decide +kernel
theorem dX7_mostLeft_22 : decode cX7_mostLeft 22 = .ok (.aload_n 0, 1) := by decide +kernel
theorem dX7_mostLeft_23 : decode cX7_mostLeft 23 = .ok (.getfield 53, 3) := by decide +kernel
theorem dX7_mostLeft_26 : decode cX7_mostLeft 26 = .ok (.iload_n 3, 1) := by decide +kernel
theorem dX7_mostLeft_27 : decode cX7_mostLeft 27 = .ok (.iconst 2, 1) := by decide +kernel
theorem dX7_mostLeft_28 : decode cX7_mostLeft 28 = .ok (.iadd, 1) := by decide +kernel
theorem dX7_mostLeft_29 : decode cX7_mostLeft 29 = .ok (.iaload, 1) := by decide +kernel
theorem dX7_mostLeft_30 : decode cX7_mostLeft 30 = .ok (.invokestatic 311, 3) := by decide +kernel
theorem dX7_mostLeft_33 : decode cX7_mostLeft 33 = .ok (.invokestatic 311, 3) := by decide +kernel
theorem dX7_mostLeft_36 : decode cX7_mostLeft 36 = .ok (.ireturn, 1) := by decide +kernel
