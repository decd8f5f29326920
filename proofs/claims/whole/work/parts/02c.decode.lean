theorem dX8_init_0 : decode cX8_init 0 = .ok (.aload_n 0, 1) := by decide +kernel
theorem dX8_init_1 : decode cX8_init 1 = .ok (.invokespecial 1, 3) := by decide +kernel
theorem dX8_init_4 : decode cX8_init 4 = .ok (.aload_n 0, 1) := by decide +kernel
theorem dX8_init_5 : decode cX8_init 5 = .ok (.sipush 171, 3) := by decide +kernel
theorem dX8_init_8 : decode cX8_init 8 = .ok (.newarray .int, 2) := by decide +kernel
theorem dX8_init_10 : decode cX8_init 10 = .ok (.putfield 7, 3) := by decide +kernel
theorem dX8_init_13 : decode cX8_init 13 = .ok (.aload_n 0, 1) := by decide +kernel
theorem dX8_init_14 : decode cX8_init 14 = .ok (.bipush 57, 2) := by decide +kernel
theorem dX8_init_16 : decode cX8_init 16 = .ok (.newarray .int, 2) := by decide +kernel
theorem dX8_init_18 : decode cX8_init 18 = .ok (.putfield 13, 3) := by decide +kernel
theorem dX8_init_21 : decode cX8_init 21 = .ok (.aload_n 0, 1) := by decide +kernel
theorem dX8_init_22 : decode cX8_init 22 = .ok (.iconst 2, 1) := by decide +kernel
theorem dX8_init_23 : decode cX8_init 23 = .ok (.newarray .boolean, 2) := by decide +kernel
theorem dX8_init_25 : decode cX8_init 25 = .ok (.putfield 16, 3) := by decide +kernel
theorem dX8_init_28 : decode cX8_init 28 = .ok (.aload_n 0, 1) := by decide +kernel
theorem dX8_init_29 : decode cX8_init 29 = .ok (.bipush 57, 2) := by decide +kernel
theorem dX8_init_31 : decode cX8_init 31 = .ok (.newarray .int, 2) := by decide +kernel
theorem dX8_init_33 : decode cX8_init 33 = .ok (.putfield 20, 3) := by decide +kernel
theorem dX8_init_36 : decode cX8_init 36 = .ok (.aload_n 0, 1) := by decide +kernel
theorem dX8_init_37 : decode cX8_init 37 = .ok (.sipush 160, 3) := by decide +kernel
theorem dX8_init_40 : decode cX8_init 40 = .ok (.newarray .int, 2) := by decide +kernel
theorem dX8_init_42 : decode cX8_init 42 = .ok (.putfield 23, 3) := by decide +kernel
theorem dX8_init_45 : decode cX8_init 45 = .ok (.aload_n 0, 1) := by decide +kernel
theorem dX8_init_46 : decode cX8_init 46 = .ok (.bipush 126, 2) := by decide +kernel
theorem dX8_init_48 : decode cX8_init 48 = .ok (.newarray .int, 2) := by decide +kernel
theorem dX8_init_50 : decode cX8_init 50 = .ok (.putfield 26, 3) := by decide +kernel
theorem dX8_init_53 : decode cX8_init 53 = .ok (.aload_n 0, 1) := by decide +kernel
theorem dX8_init_54 : decode cX8_init 54 = .ok (.sipush 378, 3) := by decide +kernel
theorem dX8_init_57 : decode cX8_init 57 = .ok (.newarray .int, 2) := by decide +kernel
theorem dX8_init_59 : decode cX8_init 59 = .ok (.putfield 29, 3) := by decide +kernel
theorem dX8_init_62 : decode cX8_init 62 = .ok (.aload_n 0, 1) := by decide +kernel
theorem dX8_init_63 : decode cX8_init 63 = .ok (.iconst 4, 1) := by decide +kernel
theorem dX8_init_64 : decode cX8_init 64 = .ok (.newarray .int, 2) := by decide +kernel
theorem dX8_init_66 : decode cX8_init 66 = .ok (.putfield 32, 3) := by decide +kernel
theorem dX8_init_69 : decode cX8_init 69 = .ok (.aload_n 0, 1) := by decide +kernel
theorem dX8_init_70 : decode cX8_init 70 = .ok (.iconst 4, 1) := by decide +kernel
theorem dX8_init_71 : decode cX8_init 71 = .ok (.newarray .int, 2) := by decide +kernel
theorem dX8_init_73 : decode cX8_init 73 = .ok (.putfield 35, 3) := by decide +kernel
theorem dX8_init_76 : decode cX8_init 76 = .ok (.aload_n 0, 1) := by decide +kernel
theorem dX8_init_77 : decode cX8_init 77 = .ok (.sipush 160, 3) := by decide +kernel
theorem dX8_init_80 : decode cX8_init 80 = .ok (.newarray .int, 2) := by decide +kernel
theorem dX8_init_82 : decode cX8_init 82 = .ok (.putfield 38, 3) := by decide +kernel
theorem dX8_init_85 : decode cX8_init 85 = .ok (.aload_n 0, 1) := by decide +kernel
theorem dX8_init_86 : decode cX8_init 86 = .ok (.bipush 57, 2) := by decide +kernel
theorem dX8_init_88 : decode cX8_init 88 = .ok (.newarray .int, 2) := by decide +kernel
theorem dX8_init_90 : decode cX8_init 90 = .ok (.putfield 41, 3) := by decide +kernel
theorem dX8_init_93 : decode cX8_init 93 = .ok (.iconst 0, 1) := by decide +kernel
theorem dX8_init_94 : decode cX8_init 94 = .ok (.istore_n 1, 1) := by decide +kernel
theorem dX8_init_95 : decode cX8_init 95 = .ok (.iload_n 1, 1) := by decide +kernel
theorem dX8_init_96 : decode cX8_init 96 = .ok (.iconst 4, 1) := by decide +kernel
theorem dX8_init_97 : decode cX8_init 97 = .ok (.if_icmp .ge 17, 3) := by decide +kernel
theorem dX8_init_100 : decode cX8_init 100 = .ok (.aload_n 0, 1) := by decide +kernel
theorem dX8_init_101 : decode cX8_init 101 = .ok (.getfield 32, 3) := by decide +kernel
theorem dX8_init_104 : decode cX8_init 104 = .ok (.iload_n 1, 1) := by decide +kernel
theorem dX8_init_105 : decode cX8_init 105 = .ok (.bipush (-4), 2) := by decide +kernel
theorem dX8_init_107 : decode cX8_init 107 = .ok (.iastore, 1) := by decide +kernel
theorem dX8_init_108 : decode cX8_init 108 = .ok (.iinc 1 1, 3) := by decide +kernel
theorem dX8_init_111 : decode cX8_init 111 = .ok (.goto (-16), 3) := by decide +kernel
theorem dX8_init_114 : decode cX8_init 114 = .ok (.aload_n 0, 1) := by decide +kernel
theorem dX8_init_115 : decode cX8_init 115 = .ok (.invokevirtual 44, 3) := by decide +kernel
theorem dX8_init_118 : decode cX8_init 118 = .ok (.aload_n 0, 1) := by decide +kernel
theorem dX8_init_119 : decode cX8_init 119 = .ok (.invokevirtual 47, 3) := by decide +kernel
theorem dX8_init_122 : decode cX8_init 122 = .ok (.return_, 1) := by decide +kernel
theorem dX8_in_0 : decode cX8_in 0 = .ok (.lload_n 0, 1) := by decide +kernel
theorem dX8_in_1 : decode cX8_in 1 = .ok (.lload_n 2, 1) := by decide +kernel
theorem dX8_in_2 : decode cX8_in 2 = .ok (.lcmp, 1) := by decide +kernel
theorem dX8_in_3 : decode cX8_in 3 = .ok (.ifCond .lt 14, 3) := by decide +kernel
theorem dX8_in_6 : decode cX8_in 6 = .ok (.lload_n 0, 1) := by decide +kernel
theorem dX8_in_7 : decode cX8_in 7 = .ok (.lload 4, 2) := by decide +kernel
theorem dX8_in_9 : decode cX8_in 9 = .ok (.lcmp, 1) := by decide +kernel
theorem dX8_in_10 : decode cX8_in 10 = .ok (.ifCond .gt 7, 3) := by decide +kernel
theorem dX8_in_13 : decode cX8_in 13 = .ok (.iconst 1, 1) := by decide +kernel
theorem dX8_in_14 : decode cX8_in 14 = .ok (.goto 4, 3) := by decide +kernel
theorem dX8_in_17 : decode cX8_in 17 = .ok (.iconst 0, 1) := by decide +kernel
theorem dX8_in_18 : decode cX8_in 18 = .ok (.ireturn, 1) := by decide +kernel
theorem dX8_flag_0 : decode cX8_flag 0 = .ok (.iload_n 0, 1) := by decide +kernel
theorem dX8_flag_1 : decode cX8_flag 1 = .ok (.ifCond .eq 7, 3) := by decide +kernel
theorem dX8_flag_4 : decode cX8_flag 4 = .ok (.iconst 1, 1) := by decide +kernel
theorem dX8_flag_5 : decode cX8_flag 5 = .ok (.goto 4, 3) := by decide +kernel
theorem dX8_flag_8 : decode cX8_flag 8 = .ok (.iconst 0, 1) := by decide +kernel
theorem dX8_flag_9 : decode cX8_flag 9 = .ok (.ireturn, 1) := by decide +kernel
theorem dX8_lesser_0 : decode cX8_lesser 0 = .ok (.iload_n 0, 1) := by decide +kernel
theorem dX8_lesser_1 : decode cX8_lesser 1 = .ok (.iload_n 1, 1) := by decide +kernel
theorem dX8_lesser_2 : decode cX8_lesser 2 = .ok (.if_icmp .ge 7, 3) := by decide +kernel
theorem dX8_lesser_5 : decode cX8_lesser 5 = .ok (.iload_n 0, 1) := by decide +kernel
theorem dX8_lesser_6 : decode cX8_lesser 6 = .ok (.goto 4, 3) := by decide +kernel
theorem dX8_lesser_9 : decode cX8_lesser 9 = .ok (.iload_n 1, 1) := by decide +kernel
theorem dX8_lesser_10 : decode cX8_lesser 10 = .ok (.ireturn, 1) := by decide +kernel
theorem dX8_less_0 : decode cX8_less 0 = .ok (.iload_n 0, 1) := by decide +kernel
theorem dX8_less_1 : decode cX8_less 1 = .ok (.iload_n 1, 1) := by decide +kernel
theorem dX8_less_2 : decode cX8_less 2 = .ok (.if_icmp .le 9, 3) := by decide +kernel
theorem dX8_less_5 : decode cX8_less 5 = .ok (.iload_n 0, 1) := by decide +kernel
theorem dX8_less_6 : decode cX8_less 6 = .ok (.iload_n 1, 1) := by decide +kernel
theorem dX8_less_7 : decode cX8_less 7 = .ok (.isub, 1) := by decide +kernel
theorem dX8_less_8 : decode cX8_less 8 = .ok (.goto 4, 3) := by decide +kernel
theorem dX8_less_11 : decode cX8_less 11 = .ok (.iconst 0, 1) := by decide +kernel
theorem dX8_less_12 : decode cX8_less 12 = .ok (.ireturn, 1) := by decide +kernel
theorem dX8_firstDraft_0 : decode cX8_firstDraft 0 = .ok (.iconst 0, 1) := by decide +kernel
theorem dX8_firstDraft_1 : decode cX8_firstDraft 1 = .ok (.istore_n 1, 1) := by decide +kernel
theorem dX8_firstDraft_2 : decode cX8_firstDraft 2 = .ok (.iload_n 1, 1) := by decide +kernel
theorem dX8_firstDraft_3 : decode cX8_firstDraft 3 = .ok (.bipush 57, 2) := by decide +kernel
theorem dX8_firstDraft_5 : decode cX8_firstDraft 5 = .ok (.if_icmp .ge 16, 3) := by decide +kernel
theorem dX8_firstDraft_8 : decode cX8_firstDraft 8 = .ok (.aload_n 0, 1) := by decide +kernel
theorem dX8_firstDraft_9 : decode cX8_firstDraft 9 = .ok (.getfield 20, 3) := by decide +kernel
theorem dX8_firstDraft_12 : decode cX8_firstDraft 12 = .ok (.iload_n 1, 1) := by decide +kernel
theorem dX8_firstDraft_13 : decode cX8_firstDraft 13 = .ok (.iconst 0, 1) := by decide +kernel
theorem dX8_firstDraft_14 : decode cX8_firstDraft 14 = .ok (.iastore, 1) := by decide +kernel
theorem dX8_firstDraft_15 : decode cX8_firstDraft 15 = .ok (.iinc 1 1, 3) := by decide +kernel
theorem dX8_firstDraft_18 : decode cX8_firstDraft 18 = .ok (.goto (-16), 3) := by decide +kernel
theorem dX8_firstDraft_21 : decode cX8_firstDraft 21 = .ok (.aload_n 0, 1) := by decide +kernel
theorem dX8_firstDraft_22 : decode cX8_firstDraft 22 = .ok (.getfield 20, 3) := by decide +kernel
theorem dX8_firstDraft_25 : decode cX8_firstDraft 25 = .ok (.bipush 25, 2) := by decide +kernel
theorem dX8_firstDraft_27 : decode cX8_firstDraft 27 = .ok (.iconst 3, 1) := by decide +kernel
theorem dX8_firstDraft_28 : decode cX8_firstDraft 28 = .ok (.iastore, 1) := by decide +kernel
theorem dX8_firstDraft_29 : decode cX8_firstDraft 29 = .ok (.aload_n 0, 1) := by decide +kernel
theorem dX8_firstDraft_30 : decode cX8_firstDraft 30 = .ok (.getfield 20, 3) := by decide +kernel
theorem dX8_firstDraft_33 : decode cX8_firstDraft 33 = .ok (.bipush 26, 2) := by decide +kernel
theorem dX8_firstDraft_35 : decode cX8_firstDraft 35 = .ok (.iconst 2, 1) := by decide +kernel
theorem dX8_firstDraft_36 : decode cX8_firstDraft 36 = .ok (.iastore, 1) := by decide +kernel
theorem dX8_firstDraft_37 : decode cX8_firstDraft 37 = .ok (.aload_n 0, 1) := by decide +kernel
theorem dX8_firstDraft_38 : decode cX8_firstDraft 38 = .ok (.getfield 20, 3) := by decide +kernel
theorem dX8_firstDraft_41 : decode cX8_firstDraft 41 = .ok (.bipush 27, 2) := by decide +kernel
theorem dX8_firstDraft_43 : decode cX8_firstDraft 43 = .ok (.iconst 3, 1) := by decide +kernel
theorem dX8_firstDraft_44 : decode cX8_firstDraft 44 = .ok (.iastore, 1) := by decide +kernel
theorem dX8_firstDraft_45 : decode cX8_firstDraft 45 = .ok (.aload_n 0, 1) := by decide +kernel
theorem dX8_firstDraft_46 : decode cX8_firstDraft 46 = .ok (.getfield 20, 3) := by decide +kernel
theorem dX8_firstDraft_49 : decode cX8_firstDraft 49 = .ok (.bipush 29, 2) := by decide +kernel
theorem dX8_firstDraft_51 : decode cX8_firstDraft 51 = .ok (.bipush 8, 2) := by decide +kernel
theorem dX8_firstDraft_53 : decode cX8_firstDraft 53 = .ok (.iastore, 1) := by decide +kernel
theorem dX8_firstDraft_54 : decode cX8_firstDraft 54 = .ok (.iconst 0, 1) := by decide +kernel
theorem dX8_firstDraft_55 : decode cX8_firstDraft 55 = .ok (.istore_n 1, 1) := by decide +kernel
theorem dX8_firstDraft_56 : decode cX8_firstDraft 56 = .ok (.iload_n 1, 1) := by decide +kernel
theorem dX8_firstDraft_57 : decode cX8_firstDraft 57 = .ok (.bipush 7, 2) := by decide +kernel
theorem dX8_firstDraft_59 : decode cX8_firstDraft 59 = .ok (.if_icmp .ge 19, 3) := by decide +kernel
theorem dX8_firstDraft_62 : decode cX8_firstDraft 62 = .ok (.aload_n 0, 1) := by decide +kernel
theorem dX8_firstDraft_63 : decode cX8_firstDraft 63 = .ok (.getfield 20, 3) := by decide +kernel
theorem dX8_firstDraft_66 : decode cX8_firstDraft 66 = .ok (.bipush 30, 2) := by decide +kernel
theorem dX8_firstDraft_68 : decode cX8_firstDraft 68 = .ok (.iload_n 1, 1) := by decide +kernel
theorem dX8_firstDraft_69 : decode cX8_firstDraft 69 = .ok (.iadd, 1) := by decide +kernel
theorem dX8_firstDraft_70 : decode cX8_firstDraft 70 = .ok (.iconst 4, 1) := by decide +kernel
theorem dX8_firstDraft_71 : decode cX8_firstDraft 71 = .ok (.iastore, 1) := by decide +kernel
theorem dX8_firstDraft_72 : decode cX8_firstDraft 72 = .ok (.iinc 1 1, 3) := by decide +kernel
theorem dX8_firstDraft_75 : decode cX8_firstDraft 75 = .ok (.goto (-19), 3) := by decide +kernel
theorem dX8_firstDraft_78 : decode cX8_firstDraft 78 = .ok (.aload_n 0, 1) := by decide +kernel
theorem dX8_firstDraft_79 : decode cX8_firstDraft 79 = .ok (.iconst 0, 1) := by decide +kernel
theorem dX8_firstDraft_80 : decode cX8_firstDraft 80 = .ok (.putfield 50, 3) := by decide +kernel
theorem dX8_firstDraft_83 : decode cX8_firstDraft 83 = .ok (.aload_n 0, 1) := by decide +kernel
theorem dX8_firstDraft_84 : decode cX8_firstDraft 84 = .ok (.iconst 0, 1) := by decide +kernel
theorem dX8_firstDraft_85 : decode cX8_firstDraft 85 = .ok (.putfield 54, 3) := by decide +kernel
theorem dX8_firstDraft_88 : decode cX8_firstDraft 88 = .ok (.return_, 1) := by decide +kernel
theorem dX8_keepDraft_0 : decode cX8_keepDraft 0 = .ok (.iconst 0, 1) := by decide +kernel
theorem dX8_keepDraft_1 : decode cX8_keepDraft 1 = .ok (.istore_n 1, 1) := by decide +kernel
theorem dX8_keepDraft_2 : decode cX8_keepDraft 2 = .ok (.iload_n 1, 1) := by decide +kernel
theorem dX8_keepDraft_3 : decode cX8_keepDraft 3 = .ok (.bipush 57, 2) := by decide +kernel
theorem dX8_keepDraft_5 : decode cX8_keepDraft 5 = .ok (.if_icmp .ge 21, 3) := by decide +kernel
theorem dX8_keepDraft_8 : decode cX8_keepDraft 8 = .ok (.aload_n 0, 1) := by decide +kernel
theorem dX8_keepDraft_9 : decode cX8_keepDraft 9 = .ok (.getfield 7, 3) := by decide +kernel
theorem dX8_keepDraft_12 : decode cX8_keepDraft 12 = .ok (.iload_n 1, 1) := by decide +kernel
theorem dX8_keepDraft_13 : decode cX8_keepDraft 13 = .ok (.aload_n 0, 1) := by decide +kernel
theorem dX8_keepDraft_14 : decode cX8_keepDraft 14 = .ok (.getfield 20, 3) := by decide +kernel
theorem dX8_keepDraft_17 : decode cX8_keepDraft 17 = .ok (.iload_n 1, 1) := by decide +kernel
theorem dX8_keepDraft_18 : decode cX8_keepDraft 18 = .ok (.iaload, 1) := by decide +kernel
theorem dX8_keepDraft_19 : decode cX8_keepDraft 19 = .ok (.iastore, 1) := by decide +kernel
theorem dX8_keepDraft_20 : decode cX8_keepDraft 20 = .ok (.iinc 1 1, 3) := by decide +kernel
theorem dX8_keepDraft_23 : decode cX8_keepDraft 23 = .ok (.goto (-21), 3) := by decide +kernel
theorem dX8_keepDraft_26 : decode cX8_keepDraft 26 = .ok (.aload_n 0, 1) := by decide +kernel
theorem dX8_keepDraft_27 : decode cX8_keepDraft 27 = .ok (.getfield 16, 3) := by decide +kernel
theorem dX8_keepDraft_30 : decode cX8_keepDraft 30 = .ok (.iconst 0, 1) := by decide +kernel
theorem dX8_keepDraft_31 : decode cX8_keepDraft 31 = .ok (.iconst 0, 1) := by decide +kernel
theorem dX8_keepDraft_32 : decode cX8_keepDraft 32 = .ok (.bastore, 1) := by decide +kernel
theorem dX8_keepDraft_33 : decode cX8_keepDraft 33 = .ok (.aload_n 0, 1) := by decide +kernel
theorem dX8_keepDraft_34 : decode cX8_keepDraft 34 = .ok (.getfield 16, 3) := by decide +kernel
theorem dX8_keepDraft_37 : decode cX8_keepDraft 37 = .ok (.iconst 1, 1) := by decide +kernel
theorem dX8_keepDraft_38 : decode cX8_keepDraft 38 = .ok (.iconst 0, 1) := by decide +kernel
theorem dX8_keepDraft_39 : decode cX8_keepDraft 39 = .ok (.bastore, 1) := by decide +kernel
theorem dX8_keepDraft_40 : decode cX8_keepDraft 40 = .ok (.return_, 1) := by decide +kernel
theorem dX8_feed_0 : decode cX8_feed 0 = .ok (.iload_n 1, 1) := by decide +kernel
theorem dX8_feed_1 : decode cX8_feed 1 = .ok (.i2l, 1) := by decide +kernel
theorem dX8_feed_2 : decode cX8_feed 2 = .ok (.lconst 0, 1) := by decide +kernel
theorem dX8_feed_3 : decode cX8_feed 3 = .ok (.ldc2_w 57, 3) := by decide +kernel
theorem dX8_feed_6 : decode cX8_feed 6 = .ok (.invokestatic 59, 3) := by decide +kernel
theorem dX8_feed_9 : decode cX8_feed 9 = .ok (.ifCond .ne 5, 3) := by decide +kernel
theorem dX8_feed_12 : decode cX8_feed 12 = .ok (.iconst (-1), 1) := by decide +kernel
theorem dX8_feed_13 : decode cX8_feed 13 = .ok (.ireturn, 1) := by decide +kernel
theorem dX8_feed_14 : decode cX8_feed 14 = .ok (.aload_n 0, 1) := by decide +kernel
theorem dX8_feed_15 : decode cX8_feed 15 = .ok (.getfield 63, 3) := by decide +kernel
theorem dX8_feed_18 : decode cX8_feed 18 = .ok (.sipush 160, 3) := by decide +kernel
theorem dX8_feed_21 : decode cX8_feed 21 = .ok (.if_icmp .ne 6, 3) := by decide +kernel
theorem dX8_feed_24 : decode cX8_feed 24 = .ok (.bipush (-3), 2) := by decide +kernel
theorem dX8_feed_26 : decode cX8_feed 26 = .ok (.ireturn, 1) := by decide +kernel
theorem dX8_feed_27 : decode cX8_feed 27 = .ok (.aload_n 0, 1) := by decide +kernel
theorem dX8_feed_28 : decode cX8_feed 28 = .ok (.getfield 23, 3) := by decide +kernel
theorem dX8_feed_31 : decode cX8_feed 31 = .ok (.aload_n 0, 1) := by decide +kernel
theorem dX8_feed_32 : decode cX8_feed 32 = .ok (.getfield 63, 3) := by decide +kernel
theorem dX8_feed_35 : decode cX8_feed 35 = .ok (.iload_n 1, 1) := by decide +kernel
theorem dX8_feed_36 : decode cX8_feed 36 = .ok (.iastore, 1) := by decide +kernel
theorem dX8_feed_37 : decode cX8_feed 37 = .ok (.aload_n 0, 1) := by decide +kernel
theorem dX8_feed_38 : decode cX8_feed 38 = .ok (.dup, 1) := by decide +kernel
theorem dX8_feed_39 : decode cX8_feed 39 = .ok (.getfield 63, 3) := by decide +kernel
theorem dX8_feed_42 : decode cX8_feed 42 = .ok (.iconst 1, 1) := by decide +kernel
theorem dX8_feed_43 : decode cX8_feed 43 = .ok (.iadd, 1) := by decide +kernel
theorem dX8_feed_44 : decode cX8_feed 44 = .ok (.putfield 63, 3) := by decide +kernel
theorem dX8_feed_47 : decode cX8_feed 47 = .ok (.aload_n 0, 1) := by decide +kernel
theorem dX8_feed_48 : decode cX8_feed 48 = .ok (.getfield 63, 3) := by decide +kernel
theorem dX8_feed_51 : decode cX8_feed 51 = .ok (.ireturn, 1) := by decide +kernel
theorem dX8_end_0 : decode cX8_end 0 = .ok (.iload_n 1, 1) := by decide +kernel
theorem dX8_end_1 : decode cX8_end 1 = .ok (.i2l, 1) := by decide +kernel
theorem dX8_end_2 : decode cX8_end 2 = .ok (.lconst 0, 1) := by decide +kernel
theorem dX8_end_3 : decode cX8_end 3 = .ok (.aload_n 0, 1) := by decide +kernel
theorem dX8_end_4 : decode cX8_end 4 = .ok (.getfield 63, 3) := by decide +kernel
theorem dX8_end_7 : decode cX8_end 7 = .ok (.i2l, 1) := by decide +kernel
theorem dX8_end_8 : decode cX8_end 8 = .ok (.invokestatic 59, 3) := by decide +kernel
theorem dX8_end_11 : decode cX8_end 11 = .ok (.ifCond .ne 5, 3) := by decide +kernel
theorem dX8_end_14 : decode cX8_end 14 = .ok (.iconst (-1), 1) := by decide +kernel
theorem dX8_end_15 : decode cX8_end 15 = .ok (.ireturn, 1) := by decide +kernel
theorem dX8_end_16 : decode cX8_end 16 = .ok (.aload_n 0, 1) := by decide +kernel
theorem dX8_end_17 : decode cX8_end 17 = .ok (.getfield 63, 3) := by decide +kernel
theorem dX8_end_20 : decode cX8_end 20 = .ok (.istore_n 2, 1) := by decide +kernel
theorem dX8_end_21 : decode cX8_end 21 = .ok (.aload_n 0, 1) := by decide +kernel
theorem dX8_end_22 : decode cX8_end 22 = .ok (.iload_n 1, 1) := by decide +kernel
theorem dX8_end_23 : decode cX8_end 23 = .ok (.putfield 63, 3) := by decide +kernel
theorem dX8_end_26 : decode cX8_end 26 = .ok (.iload_n 2, 1) := by decide +kernel
theorem dX8_end_27 : decode cX8_end 27 = .ok (.ireturn, 1) := by decide +kernel
theorem dX8_requires_0 : decode cX8_requires 0 = .ok (.iload_n 1, 1) := by decide +kernel
theorem dX8_requires_1 : decode cX8_requires 1 = .ok (.ifCond .ne 23, 3) := by decide +kernel
theorem dX8_requires_4 : decode cX8_requires 4 = .ok (.aload_n 0, 1) := by decide +kernel
theorem dX8_requires_5 : decode cX8_requires 5 = .ok (.getfield 66, 3) := by decide +kernel
theorem dX8_requires_8 : decode cX8_requires 8 = .ok (.ifCond .ne 16, 3) := by decide +kernel
theorem dX8_requires_11 : decode cX8_requires 11 = .ok (.aload_n 0, 1) := by decide +kernel
theorem dX8_requires_12 : decode cX8_requires 12 = .ok (.iload_n 2, 1) := by decide +kernel
theorem dX8_requires_13 : decode cX8_requires 13 = .ok (.putfield 66, 3) := by decide +kernel
theorem dX8_requires_16 : decode cX8_requires 16 = .ok (.aload_n 0, 1) := by decide +kernel
theorem dX8_requires_17 : decode cX8_requires 17 = .ok (.aload_n 0, 1) := by decide +kernel
theorem dX8_requires_18 : decode cX8_requires 18 = .ok (.getfield 69, 3) := by decide +kernel
theorem dX8_requires_21 : decode cX8_requires 21 = .ok (.putfield 72, 3) := by decide +kernel
theorem dX8_requires_24 : decode cX8_requires 24 = .ok (.return_, 1) := by decide +kernel
theorem dX8_byteAt_0 : decode cX8_byteAt 0 = .ok (.iload_n 1, 1) := by decide +kernel
theorem dX8_byteAt_1 : decode cX8_byteAt 1 = .ok (.aload_n 0, 1) := by decide +kernel
theorem dX8_byteAt_2 : decode cX8_byteAt 2 = .ok (.getfield 63, 3) := by decide +kernel
theorem dX8_byteAt_5 : decode cX8_byteAt 5 = .ok (.if_icmp .ge 12, 3) := by decide +kernel
theorem dX8_byteAt_8 : decode cX8_byteAt 8 = .ok (.aload_n 0, 1) := by decide +kernel
theorem dX8_byteAt_9 : decode cX8_byteAt 9 = .ok (.getfield 23, 3) := by decide +kernel
theorem dX8_byteAt_12 : decode cX8_byteAt 12 = .ok (.iload_n 1, 1) := by decide +kernel
theorem dX8_byteAt_13 : decode cX8_byteAt 13 = .ok (.iaload, 1) := by decide +kernel
theorem dX8_byteAt_14 : decode cX8_byteAt 14 = .ok (.goto 4, 3) := by decide +kernel
theorem dX8_byteAt_17 : decode cX8_byteAt 17 = .ok (.iconst (-1), 1) := by decide +kernel
theorem dX8_byteAt_18 : decode cX8_byteAt 18 = .ok (.ireturn, 1) := by decide +kernel
theorem dX8_is_0 : decode cX8_is 0 = .ok (.aload_n 0, 1) := by decide +kernel
theorem dX8_is_1 : decode cX8_is 1 = .ok (.getfield 75, 3) := by decide +kernel
theorem dX8_is_4 : decode cX8_is 4 = .ok (.aload_n 0, 1) := by decide +kernel
theorem dX8_is_5 : decode cX8_is 5 = .ok (.getfield 69, 3) := by decide +kernel
theorem dX8_is_8 : decode cX8_is 8 = .ok (.isub, 1) := by decide +kernel
theorem dX8_is_9 : decode cX8_is 9 = .ok (.iload_n 1, 1) := by decide +kernel
theorem dX8_is_10 : decode cX8_is 10 = .ok (.if_icmp .ne 48, 3) := by decide +kernel
theorem dX8_is_13 : decode cX8_is 13 = .ok (.aload_n 0, 1) := by decide +kernel
theorem dX8_is_14 : decode cX8_is 14 = .ok (.aload_n 0, 1) := by decide +kernel
theorem dX8_is_15 : decode cX8_is 15 = .ok (.getfield 69, 3) := by decide +kernel
theorem dX8_is_18 : decode cX8_is 18 = .ok (.invokevirtual 78, 3) := by decide +kernel
theorem dX8_is_21 : decode cX8_is 21 = .ok (.iload_n 2, 1) := by decide +kernel
theorem dX8_is_22 : decode cX8_is 22 = .ok (.if_icmp .ne 36, 3) := by decide +kernel
theorem dX8_is_25 : decode cX8_is 25 = .ok (.aload_n 0, 1) := by decide +kernel
theorem dX8_is_26 : decode cX8_is 26 = .ok (.aload_n 0, 1) := by decide +kernel
theorem dX8_is_27 : decode cX8_is 27 = .ok (.getfield 69, 3) := by decide +kernel
theorem dX8_is_30 : decode cX8_is 30 = .ok (.iconst 1, 1) := by decide +kernel
theorem dX8_is_31 : decode cX8_is 31 = .ok (.iadd, 1) := by decide +kernel
theorem dX8_is_32 : decode cX8_is 32 = .ok (.invokevirtual 78, 3) := by decide +kernel
theorem dX8_is_35 : decode cX8_is 35 = .ok (.iload_n 3, 1) := by decide +kernel
theorem dX8_is_36 : decode cX8_is 36 = .ok (.if_icmp .ne 22, 3) := by decide +kernel
theorem dX8_is_39 : decode cX8_is 39 = .ok (.aload_n 0, 1) := by decide +kernel
theorem dX8_is_40 : decode cX8_is 40 = .ok (.aload_n 0, 1) := by decide +kernel
theorem dX8_is_41 : decode cX8_is 41 = .ok (.getfield 69, 3) := by decide +kernel
theorem dX8_is_44 : decode cX8_is 44 = .ok (.iconst 2, 1) := by decide +kernel
theorem dX8_is_45 : decode cX8_is 45 = .ok (.iadd, 1) := by decide +kernel
theorem dX8_is_46 : decode cX8_is 46 = .ok (.invokevirtual 78, 3) := by decide +kernel
theorem dX8_is_49 : decode cX8_is 49 = .ok (.iload 4, 2) := by decide +kernel
theorem dX8_is_51 : decode cX8_is 51 = .ok (.if_icmp .ne 7, 3) := by decide +kernel
theorem dX8_is_54 : decode cX8_is 54 = .ok (.iconst 1, 1) := by decide +kernel
theorem dX8_is_55 : decode cX8_is 55 = .ok (.goto 4, 3) := by decide +kernel
theorem dX8_is_58 : decode cX8_is 58 = .ok (.iconst 0, 1) := by decide +kernel
theorem dX8_is_59 : decode cX8_is 59 = .ok (.ireturn, 1) := by decide +kernel
theorem dX8_endsIn_0 : decode cX8_endsIn 0 = .ok (.aload_n 0, 1) := by decide +kernel
theorem dX8_endsIn_1 : decode cX8_endsIn 1 = .ok (.aload_n 0, 1) := by decide +kernel
theorem dX8_endsIn_2 : decode cX8_endsIn 2 = .ok (.getfield 69, 3) := by decide +kernel
theorem dX8_endsIn_5 : decode cX8_endsIn 5 = .ok (.iconst 3, 1) := by decide +kernel
theorem dX8_endsIn_6 : decode cX8_endsIn 6 = .ok (.iadd, 1) := by decide +kernel
theorem dX8_endsIn_7 : decode cX8_endsIn 7 = .ok (.invokevirtual 78, 3) := by decide +kernel
theorem dX8_endsIn_10 : decode cX8_endsIn 10 = .ok (.iload_n 1, 1) := by decide +kernel
theorem dX8_endsIn_11 : decode cX8_endsIn 11 = .ok (.if_icmp .ne 43, 3) := by decide +kernel
theorem dX8_endsIn_14 : decode cX8_endsIn 14 = .ok (.iload_n 2, 1) := by decide +kernel
theorem dX8_endsIn_15 : decode cX8_endsIn 15 = .ok (.ifCond .eq 17, 3) := by decide +kernel
theorem dX8_endsIn_18 : decode cX8_endsIn 18 = .ok (.aload_n 0, 1) := by decide +kernel
theorem dX8_endsIn_19 : decode cX8_endsIn 19 = .ok (.aload_n 0, 1) := by decide +kernel
theorem dX8_endsIn_20 : decode cX8_endsIn 20 = .ok (.getfield 69, 3) := by decide +kernel
theorem dX8_endsIn_23 : decode cX8_endsIn 23 = .ok (.iconst 4, 1) := by decide +kernel
theorem dX8_endsIn_24 : decode cX8_endsIn 24 = .ok (.iadd, 1) := by decide +kernel
theorem dX8_endsIn_25 : decode cX8_endsIn 25 = .ok (.invokevirtual 78, 3) := by decide +kernel
theorem dX8_endsIn_28 : decode cX8_endsIn 28 = .ok (.iload_n 2, 1) := by decide +kernel
theorem dX8_endsIn_29 : decode cX8_endsIn 29 = .ok (.if_icmp .ne 25, 3) := by decide +kernel
theorem dX8_endsIn_32 : decode cX8_endsIn 32 = .ok (.iload_n 3, 1) := by decide +kernel
theorem dX8_endsIn_33 : decode cX8_endsIn 33 = .ok (.ifCond .eq 17, 3) := by decide +kernel
theorem dX8_endsIn_36 : decode cX8_endsIn 36 = .ok (.aload_n 0, 1) := by decide +kernel
theorem dX8_endsIn_37 : decode cX8_endsIn 37 = .ok (.aload_n 0, 1) := by decide +kernel
theorem dX8_endsIn_38 : decode cX8_endsIn 38 = .ok (.getfield 69, 3) := by decide +kernel
theorem dX8_endsIn_41 : decode cX8_endsIn 41 = .ok (.iconst 5, 1) := by decide +kernel
theorem dX8_endsIn_42 : decode cX8_endsIn 42 = .ok (.iadd, 1) := by decide +kernel
theorem dX8_endsIn_43 : decode cX8_endsIn 43 = .ok (.invokevirtual 78, 3) := by decide +kernel
theorem dX8_endsIn_46 : decode cX8_endsIn 46 = .ok (.iload_n 3, 1) := by decide +kernel
theorem dX8_endsIn_47 : decode cX8_endsIn 47 = .ok (.if_icmp .ne 7, 3) := by decide +kernel
theorem dX8_endsIn_50 : decode cX8_endsIn 50 = .ok (.iconst 1, 1) := by decide +kernel
theorem dX8_endsIn_51 : decode cX8_endsIn 51 = .ok (.goto 4, 3) := by decide +kernel
theorem dX8_endsIn_54 : decode cX8_endsIn 54 = .ok (.iconst 0, 1) := by decide +kernel
theorem dX8_endsIn_55 : decode cX8_endsIn 55 = .ok (.ireturn, 1) := by decide +kernel
theorem dX8_ruleNow_0 : decode cX8_ruleNow 0 = .ok (.aload_n 0, 1) := by decide +kernel
theorem dX8_ruleNow_1 : decode cX8_ruleNow 1 = .ok (.iconst 4, 1) := by decide +kernel
theorem dX8_ruleNow_2 : decode cX8_ruleNow 2 = .ok (.bipush 98, 2) := by decide +kernel
theorem dX8_ruleNow_4 : decode cX8_ruleNow 4 = .ok (.bipush 108, 2) := by decide +kernel
theorem dX8_ruleNow_6 : decode cX8_ruleNow 6 = .ok (.bipush 117, 2) := by decide +kernel
theorem dX8_ruleNow_8 : decode cX8_ruleNow 8 = .ok (.invokevirtual 82, 3) := by decide +kernel
theorem dX8_ruleNow_11 : decode cX8_ruleNow 11 = .ok (.ifCond .eq 16, 3) := by decide +kernel
theorem dX8_ruleNow_14 : decode cX8_ruleNow 14 = .ok (.aload_n 0, 1) := by decide +kernel
theorem dX8_ruleNow_15 : decode cX8_ruleNow 15 = .ok (.bipush 101, 2) := by decide +kernel
theorem dX8_ruleNow_17 : decode cX8_ruleNow 17 = .ok (.iconst 0, 1) := by decide +kernel
theorem dX8_ruleNow_18 : decode cX8_ruleNow 18 = .ok (.iconst 0, 1) := by decide +kernel
theorem dX8_ruleNow_19 : decode cX8_ruleNow 19 = .ok (.invokevirtual 86, 3) := by decide +kernel
theorem dX8_ruleNow_22 : decode cX8_ruleNow 22 = .ok (.ifCond .eq 5, 3) := by decide +kernel
theorem dX8_ruleNow_25 : decode cX8_ruleNow 25 = .ok (.iconst 4, 1) := by decide +kernel
theorem dX8_ruleNow_26 : decode cX8_ruleNow 26 = .ok (.ireturn, 1) := by decide +kernel
theorem dX8_ruleNow_27 : decode cX8_ruleNow 27 = .ok (.aload_n 0, 1) := by decide +kernel
theorem dX8_ruleNow_28 : decode cX8_ruleNow 28 = .ok (.iconst 5, 1) := by decide +kernel
theorem dX8_ruleNow_29 : decode cX8_ruleNow 29 = .ok (.bipush 98, 2) := by decide +kernel
theorem dX8_ruleNow_31 : decode cX8_ruleNow 31 = .ok (.bipush 97, 2) := by decide +kernel
theorem dX8_ruleNow_33 : decode cX8_ruleNow 33 = .ok (.bipush 116, 2) := by decide +kernel
theorem dX8_ruleNow_35 : decode cX8_ruleNow 35 = .ok (.invokevirtual 82, 3) := by decide +kernel
theorem dX8_ruleNow_38 : decode cX8_ruleNow 38 = .ok (.ifCond .eq 17, 3) := by decide +kernel
theorem dX8_ruleNow_41 : decode cX8_ruleNow 41 = .ok (.aload_n 0, 1) := by decide +kernel
theorem dX8_ruleNow_42 : decode cX8_ruleNow 42 = .ok (.bipush 99, 2) := by decide +kernel
theorem dX8_ruleNow_44 : decode cX8_ruleNow 44 = .ok (.bipush 104, 2) := by decide +kernel
theorem dX8_ruleNow_46 : decode cX8_ruleNow 46 = .ok (.iconst 0, 1) := by decide +kernel
theorem dX8_ruleNow_47 : decode cX8_ruleNow 47 = .ok (.invokevirtual 86, 3) := by decide +kernel
theorem dX8_ruleNow_50 : decode cX8_ruleNow 50 = .ok (.ifCond .eq 5, 3) := by decide +kernel
theorem dX8_ruleNow_53 : decode cX8_ruleNow 53 = .ok (.iconst 5, 1) := by decide +kernel
theorem dX8_ruleNow_54 : decode cX8_ruleNow 54 = .ok (.ireturn, 1) := by decide +kernel
theorem dX8_ruleNow_55 : decode cX8_ruleNow 55 = .ok (.aload_n 0, 1) := by decide +kernel
theorem dX8_ruleNow_56 : decode cX8_ruleNow 56 = .ok (.iconst 4, 1) := by decide +kernel
theorem dX8_ruleNow_57 : decode cX8_ruleNow 57 = .ok (.bipush 112, 2) := by decide +kernel
theorem dX8_ruleNow_59 : decode cX8_ruleNow 59 = .ok (.bipush 101, 2) := by decide +kernel
theorem dX8_ruleNow_61 : decode cX8_ruleNow 61 = .ok (.bipush 103, 2) := by decide +kernel
theorem dX8_ruleNow_63 : decode cX8_ruleNow 63 = .ok (.invokevirtual 82, 3) := by decide +kernel
theorem dX8_ruleNow_66 : decode cX8_ruleNow 66 = .ok (.ifCond .eq 17, 3) := by decide +kernel
theorem dX8_ruleNow_69 : decode cX8_ruleNow 69 = .ok (.aload_n 0, 1) := by decide +kernel
theorem dX8_ruleNow_70 : decode cX8_ruleNow 70 = .ok (.bipush 115, 2) := by decide +kernel
theorem dX8_ruleNow_72 : decode cX8_ruleNow 72 = .ok (.iconst 0, 1) := by decide +kernel
theorem dX8_ruleNow_73 : decode cX8_ruleNow 73 = .ok (.iconst 0, 1) := by decide +kernel
theorem dX8_ruleNow_74 : decode cX8_ruleNow 74 = .ok (.invokevirtual 86, 3) := by decide +kernel
theorem dX8_ruleNow_77 : decode cX8_ruleNow 77 = .ok (.ifCond .eq 6, 3) := by decide +kernel
theorem dX8_ruleNow_80 : decode cX8_ruleNow 80 = .ok (.bipush 6, 2) := by decide +kernel
theorem dX8_ruleNow_82 : decode cX8_ruleNow 82 = .ok (.ireturn, 1) := by decide +kernel
theorem dX8_ruleNow_83 : decode cX8_ruleNow 83 = .ok (.aload_n 0, 1) := by decide +kernel
theorem dX8_ruleNow_84 : decode cX8_ruleNow 84 = .ok (.iconst 4, 1) := by decide +kernel
theorem dX8_ruleNow_85 : decode cX8_ruleNow 85 = .ok (.bipush 112, 2) := by decide +kernel
theorem dX8_ruleNow_87 : decode cX8_ruleNow 87 = .ok (.bipush 97, 2) := by decide +kernel
theorem dX8_ruleNow_89 : decode cX8_ruleNow 89 = .ok (.bipush 115, 2) := by decide +kernel
theorem dX8_ruleNow_91 : decode cX8_ruleNow 91 = .ok (.invokevirtual 82, 3) := by decide +kernel
theorem dX8_ruleNow_94 : decode cX8_ruleNow 94 = .ok (.ifCond .eq 17, 3) := by decide +kernel
theorem dX8_ruleNow_97 : decode cX8_ruleNow 97 = .ok (.aload_n 0, 1) := by decide +kernel
theorem dX8_ruleNow_98 : decode cX8_ruleNow 98 = .ok (.bipush 115, 2) := by decide +kernel
theorem dX8_ruleNow_100 : decode cX8_ruleNow 100 = .ok (.iconst 0, 1) := by decide +kernel
theorem dX8_ruleNow_101 : decode cX8_ruleNow 101 = .ok (.iconst 0, 1) := by decide +kernel
theorem dX8_ruleNow_102 : decode cX8_ruleNow 102 = .ok (.invokevirtual 86, 3) := by decide +kernel
theorem dX8_ruleNow_105 : decode cX8_ruleNow 105 = .ok (.ifCond .eq 6, 3) := by decide +kernel
theorem dX8_ruleNow_108 : decode cX8_ruleNow 108 = .ok (.bipush 7, 2) := by decide +kernel
theorem dX8_ruleNow_110 : decode cX8_ruleNow 110 = .ok (.ireturn, 1) := by decide +kernel
theorem dX8_ruleNow_111 : decode cX8_ruleNow 111 = .ok (.aload_n 0, 1) := by decide +kernel
theorem dX8_ruleNow_112 : decode cX8_ruleNow 112 = .ok (.iconst 4, 1) := by decide +kernel
theorem dX8_ruleNow_113 : decode cX8_ruleNow 113 = .ok (.bipush 115, 2) := by decide +kernel
theorem dX8_ruleNow_115 : decode cX8_ruleNow 115 = .ok (.bipush 111, 2) := by decide +kernel
theorem dX8_ruleNow_117 : decode cX8_ruleNow 117 = .ok (.bipush 97, 2) := by decide +kernel
theorem dX8_ruleNow_119 : decode cX8_ruleNow 119 = .ok (.invokevirtual 82, 3) := by decide +kernel
theorem dX8_ruleNow_122 : decode cX8_ruleNow 122 = .ok (.ifCond .eq 19, 3) := by decide +kernel
theorem dX8_ruleNow_125 : decode cX8_ruleNow 125 = .ok (.aload_n 0, 1) := by decide +kernel
theorem dX8_ruleNow_126 : decode cX8_ruleNow 126 = .ok (.bipush 107, 2) := by decide +kernel
theorem dX8_ruleNow_128 : decode cX8_ruleNow 128 = .ok (.iconst 0, 1) := by decide +kernel
theorem dX8_ruleNow_129 : decode cX8_ruleNow 129 = .ok (.iconst 0, 1) := by decide +kernel
theorem dX8_ruleNow_130 : decode cX8_ruleNow 130 = .ok (.invokevirtual 86, 3) := by decide +kernel
theorem dX8_ruleNow_133 : decode cX8_ruleNow 133 = .ok (.ifCond .eq 8, 3) := by decide +kernel
theorem dX8_ruleNow_136 : decode cX8_ruleNow 136 = .ok (.bipush 8, 2) := by decide +kernel
theorem dX8_ruleNow_138 : decode cX8_ruleNow 138 = .ok (.goto 24, 3) := by decide +kernel
theorem dX8_ruleNow_141 : decode cX8_ruleNow 141 = .ok (.aload_n 0, 1) := by decide +kernel
theorem dX8_ruleNow_142 : decode cX8_ruleNow 142 = .ok (.iconst 3, 1) := by decide +kernel
theorem dX8_ruleNow_143 : decode cX8_ruleNow 143 = .ok (.bipush 115, 2) := by decide +kernel
theorem dX8_ruleNow_145 : decode cX8_ruleNow 145 = .ok (.bipush 117, 2) := by decide +kernel
theorem dX8_ruleNow_147 : decode cX8_ruleNow 147 = .ok (.bipush 110, 2) := by decide +kernel
theorem dX8_ruleNow_149 : decode cX8_ruleNow 149 = .ok (.invokevirtual 82, 3) := by decide +kernel
theorem dX8_ruleNow_152 : decode cX8_ruleNow 152 = .ok (.ifCond .eq 8, 3) := by decide +kernel
theorem dX8_ruleNow_155 : decode cX8_ruleNow 155 = .ok (.bipush 9, 2) := by decide +kernel
theorem dX8_ruleNow_157 : decode cX8_ruleNow 157 = .ok (.goto 5, 3) := by decide +kernel
theorem dX8_ruleNow_160 : decode cX8_ruleNow 160 = .ok (.bipush (-4), 2) := by decide +kernel
theorem dX8_ruleNow_162 : decode cX8_ruleNow 162 = .ok (.ireturn, 1) := by decide +kernel
theorem dX8_lineNow_0 : decode cX8_lineNow 0 = .ok (.aload_n 0, 1) := by decide +kernel
theorem dX8_lineNow_1 : decode cX8_lineNow 1 = .ok (.iconst 5, 1) := by decide +kernel
theorem dX8_lineNow_2 : decode cX8_lineNow 2 = .ok (.bipush 112, 2) := by decide +kernel
theorem dX8_lineNow_4 : decode cX8_lineNow 4 = .ok (.bipush 108, 2) := by decide +kernel
theorem dX8_lineNow_6 : decode cX8_lineNow 6 = .ok (.bipush 97, 2) := by decide +kernel
theorem dX8_lineNow_8 : decode cX8_lineNow 8 = .ok (.invokevirtual 82, 3) := by decide +kernel
theorem dX8_lineNow_11 : decode cX8_lineNow 11 = .ok (.ifCond .eq 17, 3) := by decide +kernel
theorem dX8_lineNow_14 : decode cX8_lineNow 14 = .ok (.aload_n 0, 1) := by decide +kernel
theorem dX8_lineNow_15 : decode cX8_lineNow 15 = .ok (.bipush 105, 2) := by decide +kernel
theorem dX8_lineNow_17 : decode cX8_lineNow 17 = .ok (.bipush 110, 2) := by decide +kernel
theorem dX8_lineNow_19 : decode cX8_lineNow 19 = .ok (.iconst 0, 1) := by decide +kernel
theorem dX8_lineNow_20 : decode cX8_lineNow 20 = .ok (.invokevirtual 86, 3) := by decide +kernel
theorem dX8_lineNow_23 : decode cX8_lineNow 23 = .ok (.ifCond .eq 5, 3) := by decide +kernel
theorem dX8_lineNow_26 : decode cX8_lineNow 26 = .ok (.iconst 0, 1) := by decide +kernel
theorem dX8_lineNow_27 : decode cX8_lineNow 27 = .ok (.ireturn, 1) := by decide +kernel
theorem dX8_lineNow_28 : decode cX8_lineNow 28 = .ok (.aload_n 0, 1) := by decide +kernel
theorem dX8_lineNow_29 : decode cX8_lineNow 29 = .ok (.bipush 6, 2) := by decide +kernel
theorem dX8_lineNow_31 : decode cX8_lineNow 31 = .ok (.bipush 119, 2) := by decide +kernel
theorem dX8_lineNow_33 : decode cX8_lineNow 33 = .ok (.bipush 105, 2) := by decide +kernel
theorem dX8_lineNow_35 : decode cX8_lineNow 35 = .ok (.bipush 99, 2) := by decide +kernel
theorem dX8_lineNow_37 : decode cX8_lineNow 37 = .ok (.invokevirtual 82, 3) := by decide +kernel
theorem dX8_lineNow_40 : decode cX8_lineNow 40 = .ok (.ifCond .eq 18, 3) := by decide +kernel
theorem dX8_lineNow_43 : decode cX8_lineNow 43 = .ok (.aload_n 0, 1) := by decide +kernel
theorem dX8_lineNow_44 : decode cX8_lineNow 44 = .ok (.bipush 107, 2) := by decide +kernel
theorem dX8_lineNow_46 : decode cX8_lineNow 46 = .ok (.bipush 101, 2) := by decide +kernel
theorem dX8_lineNow_48 : decode cX8_lineNow 48 = .ok (.bipush 100, 2) := by decide +kernel
theorem dX8_lineNow_50 : decode cX8_lineNow 50 = .ok (.invokevirtual 86, 3) := by decide +kernel
theorem dX8_lineNow_53 : decode cX8_lineNow 53 = .ok (.ifCond .eq 5, 3) := by decide +kernel
theorem dX8_lineNow_56 : decode cX8_lineNow 56 = .ok (.iconst 1, 1) := by decide +kernel
theorem dX8_lineNow_57 : decode cX8_lineNow 57 = .ok (.ireturn, 1) := by decide +kernel
theorem dX8_lineNow_58 : decode cX8_lineNow 58 = .ok (.aload_n 0, 1) := by decide +kernel
theorem dX8_lineNow_59 : decode cX8_lineNow 59 = .ok (.bipush 7, 2) := by decide +kernel
theorem dX8_lineNow_61 : decode cX8_lineNow 61 = .ok (.bipush 99, 2) := by decide +kernel
theorem dX8_lineNow_63 : decode cX8_lineNow 63 = .ok (.bipush 114, 2) := by decide +kernel
theorem dX8_lineNow_65 : decode cX8_lineNow 65 = .ok (.bipush 101, 2) := by decide +kernel
theorem dX8_lineNow_67 : decode cX8_lineNow 67 = .ok (.invokevirtual 82, 3) := by decide +kernel
theorem dX8_lineNow_70 : decode cX8_lineNow 70 = .ok (.ifCond .eq 34, 3) := by decide +kernel
theorem dX8_lineNow_73 : decode cX8_lineNow 73 = .ok (.aload_n 0, 1) := by decide +kernel
theorem dX8_lineNow_74 : decode cX8_lineNow 74 = .ok (.bipush 97, 2) := by decide +kernel
theorem dX8_lineNow_76 : decode cX8_lineNow 76 = .ok (.bipush 115, 2) := by decide +kernel
theorem dX8_lineNow_78 : decode cX8_lineNow 78 = .ok (.bipush 101, 2) := by decide +kernel
theorem dX8_lineNow_80 : decode cX8_lineNow 80 = .ok (.invokevirtual 86, 3) := by decide +kernel
theorem dX8_lineNow_83 : decode cX8_lineNow 83 = .ok (.ifCond .eq 21, 3) := by decide +kernel
theorem dX8_lineNow_86 : decode cX8_lineNow 86 = .ok (.aload_n 0, 1) := by decide +kernel
theorem dX8_lineNow_87 : decode cX8_lineNow 87 = .ok (.aload_n 0, 1) := by decide +kernel
theorem dX8_lineNow_88 : decode cX8_lineNow 88 = .ok (.getfield 69, 3) := by decide +kernel
theorem dX8_lineNow_91 : decode cX8_lineNow 91 = .ok (.bipush 6, 2) := by decide +kernel
theorem dX8_lineNow_93 : decode cX8_lineNow 93 = .ok (.iadd, 1) := by decide +kernel
theorem dX8_lineNow_94 : decode cX8_lineNow 94 = .ok (.invokevirtual 78, 3) := by decide +kernel
theorem dX8_lineNow_97 : decode cX8_lineNow 97 = .ok (.bipush 100, 2) := by decide +kernel
theorem dX8_lineNow_99 : decode cX8_lineNow 99 = .ok (.if_icmp .ne 5, 3) := by decide +kernel
theorem dX8_lineNow_102 : decode cX8_lineNow 102 = .ok (.iconst 2, 1) := by decide +kernel
theorem dX8_lineNow_103 : decode cX8_lineNow 103 = .ok (.ireturn, 1) := by decide +kernel
theorem dX8_lineNow_104 : decode cX8_lineNow 104 = .ok (.aload_n 0, 1) := by decide +kernel
theorem dX8_lineNow_105 : decode cX8_lineNow 105 = .ok (.bipush 6, 2) := by decide +kernel
theorem dX8_lineNow_107 : decode cX8_lineNow 107 = .ok (.bipush 110, 2) := by decide +kernel
theorem dX8_lineNow_109 : decode cX8_lineNow 109 = .ok (.bipush 97, 2) := by decide +kernel
theorem dX8_lineNow_111 : decode cX8_lineNow 111 = .ok (.bipush 112, 2) := by decide +kernel
theorem dX8_lineNow_113 : decode cX8_lineNow 113 = .ok (.invokevirtual 82, 3) := by decide +kernel
theorem dX8_lineNow_116 : decode cX8_lineNow 116 = .ok (.ifCond .eq 20, 3) := by decide +kernel
theorem dX8_lineNow_119 : decode cX8_lineNow 119 = .ok (.aload_n 0, 1) := by decide +kernel
theorem dX8_lineNow_120 : decode cX8_lineNow 120 = .ok (.bipush 107, 2) := by decide +kernel
theorem dX8_lineNow_122 : decode cX8_lineNow 122 = .ok (.bipush 105, 2) := by decide +kernel
theorem dX8_lineNow_124 : decode cX8_lineNow 124 = .ok (.bipush 110, 2) := by decide +kernel
theorem dX8_lineNow_126 : decode cX8_lineNow 126 = .ok (.invokevirtual 86, 3) := by decide +kernel
theorem dX8_lineNow_129 : decode cX8_lineNow 129 = .ok (.ifCond .eq 7, 3) := by decide +kernel
theorem dX8_lineNow_132 : decode cX8_lineNow 132 = .ok (.iconst 3, 1) := by decide +kernel
theorem dX8_lineNow_133 : decode cX8_lineNow 133 = .ok (.goto 7, 3) := by decide +kernel
theorem dX8_lineNow_136 : decode cX8_lineNow 136 = .ok (.aload_n 0, 1) := by decide +kernel
theorem dX8_lineNow_137 : decode cX8_lineNow 137 = .ok (.invokevirtual 90, 3) := by decide +kernel
theorem dX8_lineNow_140 : decode cX8_lineNow 140 = .ok (.ireturn, 1) := by decide +kernel
theorem dX8_reads_0 : decode cX8_reads 0 = .ok (.aload_n 0, 1) := by decide +kernel
theorem dX8_reads_1 : decode cX8_reads 1 = .ok (.getfield 66, 3) := by decide +kernel
theorem dX8_reads_4 : decode cX8_reads 4 = .ok (.ifCond .le 4, 3) := by decide +kernel
theorem dX8_reads_7 : decode cX8_reads 7 = .ok (.return_, 1) := by decide +kernel
theorem dX8_reads_8 : decode cX8_reads 8 = .ok (.aload_n 0, 1) := by decide +kernel
theorem dX8_reads_9 : decode cX8_reads 9 = .ok (.aload_n 0, 1) := by decide +kernel
theorem dX8_reads_10 : decode cX8_reads 10 = .ok (.getfield 75, 3) := by decide +kernel
theorem dX8_reads_13 : decode cX8_reads 13 = .ok (.invokevirtual 78, 3) := by decide +kernel
theorem dX8_reads_16 : decode cX8_reads 16 = .ok (.bipush 32, 2) := by decide +kernel
theorem dX8_reads_18 : decode cX8_reads 18 = .ok (.if_icmp .ne 16, 3) := by decide +kernel
theorem dX8_reads_21 : decode cX8_reads 21 = .ok (.aload_n 0, 1) := by decide +kernel
theorem dX8_reads_22 : decode cX8_reads 22 = .ok (.dup, 1) := by decide +kernel
theorem dX8_reads_23 : decode cX8_reads 23 = .ok (.getfield 75, 3) := by decide +kernel
theorem dX8_reads_26 : decode cX8_reads 26 = .ok (.iconst 1, 1) := by decide +kernel
theorem dX8_reads_27 : decode cX8_reads 27 = .ok (.iadd, 1) := by decide +kernel
theorem dX8_reads_28 : decode cX8_reads 28 = .ok (.putfield 75, 3) := by decide +kernel
theorem dX8_reads_31 : decode cX8_reads 31 = .ok (.goto (-23), 3) := by decide +kernel
theorem dX8_reads_34 : decode cX8_reads 34 = .ok (.aload_n 0, 1) := by decide +kernel
theorem dX8_reads_35 : decode cX8_reads 35 = .ok (.aload_n 0, 1) := by decide +kernel
theorem dX8_reads_36 : decode cX8_reads 36 = .ok (.getfield 75, 3) := by decide +kernel
theorem dX8_reads_39 : decode cX8_reads 39 = .ok (.putfield 69, 3) := by decide +kernel
theorem dX8_reads_42 : decode cX8_reads 42 = .ok (.aload_n 0, 1) := by decide +kernel
theorem dX8_reads_43 : decode cX8_reads 43 = .ok (.aload_n 0, 1) := by decide +kernel
theorem dX8_reads_44 : decode cX8_reads 44 = .ok (.getfield 75, 3) := by decide +kernel
theorem dX8_reads_47 : decode cX8_reads 47 = .ok (.invokevirtual 78, 3) := by decide +kernel
theorem dX8_reads_50 : decode cX8_reads 50 = .ok (.istore_n 1, 1) := by decide +kernel
theorem dX8_reads_51 : decode cX8_reads 51 = .ok (.iload_n 1, 1) := by decide +kernel
theorem dX8_reads_52 : decode cX8_reads 52 = .ok (.ifCond .ge 11, 3) := by decide +kernel
theorem dX8_reads_55 : decode cX8_reads 55 = .ok (.aload_n 0, 1) := by decide +kernel
theorem dX8_reads_56 : decode cX8_reads 56 = .ok (.iconst 0, 1) := by decide +kernel
theorem dX8_reads_57 : decode cX8_reads 57 = .ok (.putfield 94, 3) := by decide +kernel
theorem dX8_reads_60 : decode cX8_reads 60 = .ok (.goto 214, 3) := by decide +kernel
theorem dX8_reads_63 : decode cX8_reads 63 = .ok (.iload_n 1, 1) := by decide +kernel
theorem dX8_reads_64 : decode cX8_reads 64 = .ok (.i2l, 1) := by decide +kernel
theorem dX8_reads_65 : decode cX8_reads 65 = .ok (.ldc2_w 97, 3) := by decide +kernel
theorem dX8_reads_68 : decode cX8_reads 68 = .ok (.ldc2_w 99, 3) := by decide +kernel
theorem dX8_reads_71 : decode cX8_reads 71 = .ok (.invokestatic 59, 3) := by decide +kernel
theorem dX8_reads_74 : decode cX8_reads 74 = .ok (.ifCond .eq 42, 3) := by decide +kernel
theorem dX8_reads_77 : decode cX8_reads 77 = .ok (.aload_n 0, 1) := by decide +kernel
theorem dX8_reads_78 : decode cX8_reads 78 = .ok (.iconst 1, 1) := by decide +kernel
theorem dX8_reads_79 : decode cX8_reads 79 = .ok (.putfield 94, 3) := by decide +kernel
theorem dX8_reads_82 : decode cX8_reads 82 = .ok (.aload_n 0, 1) := by decide +kernel
theorem dX8_reads_83 : decode cX8_reads 83 = .ok (.aload_n 0, 1) := by decide +kernel
theorem dX8_reads_84 : decode cX8_reads 84 = .ok (.getfield 75, 3) := by decide +kernel
theorem dX8_reads_87 : decode cX8_reads 87 = .ok (.invokevirtual 78, 3) := by decide +kernel
theorem dX8_reads_90 : decode cX8_reads 90 = .ok (.i2l, 1) := by decide +kernel
theorem dX8_reads_91 : decode cX8_reads 91 = .ok (.ldc2_w 97, 3) := by decide +kernel
theorem dX8_reads_94 : decode cX8_reads 94 = .ok (.ldc2_w 99, 3) := by decide +kernel
theorem dX8_reads_97 : decode cX8_reads 97 = .ok (.invokestatic 59, 3) := by decide +kernel
theorem dX8_reads_100 : decode cX8_reads 100 = .ok (.ifCond .eq 174, 3) := by decide +kernel
theorem dX8_reads_103 : decode cX8_reads 103 = .ok (.aload_n 0, 1) := by decide +kernel
theorem dX8_reads_104 : decode cX8_reads 104 = .ok (.dup, 1) := by decide +kernel
theorem dX8_reads_105 : decode cX8_reads 105 = .ok (.getfield 75, 3) := by decide +kernel
theorem dX8_reads_108 : decode cX8_reads 108 = .ok (.iconst 1, 1) := by decide +kernel
theorem dX8_reads_109 : decode cX8_reads 109 = .ok (.iadd, 1) := by decide +kernel
theorem dX8_reads_110 : decode cX8_reads 110 = .ok (.putfield 75, 3) := by decide +kernel
theorem dX8_reads_113 : decode cX8_reads 113 = .ok (.goto (-31), 3) := by decide +kernel
theorem dX8_reads_116 : decode cX8_reads 116 = .ok (.iload_n 1, 1) := by decide +kernel
theorem dX8_reads_117 : decode cX8_reads 117 = .ok (.i2l, 1) := by decide +kernel
theorem dX8_reads_118 : decode cX8_reads 118 = .ok (.ldc2_w 101, 3) := by decide +kernel
theorem dX8_reads_121 : decode cX8_reads 121 = .ok (.ldc2_w 103, 3) := by decide +kernel
theorem dX8_reads_124 : decode cX8_reads 124 = .ok (.invokestatic 59, 3) := by decide +kernel
theorem dX8_reads_127 : decode cX8_reads 127 = .ok (.ifCond .eq 116, 3) := by decide +kernel
theorem dX8_reads_130 : decode cX8_reads 130 = .ok (.aload_n 0, 1) := by decide +kernel
theorem dX8_reads_131 : decode cX8_reads 131 = .ok (.iconst 2, 1) := by decide +kernel
theorem dX8_reads_132 : decode cX8_reads 132 = .ok (.putfield 94, 3) := by decide +kernel
theorem dX8_reads_135 : decode cX8_reads 135 = .ok (.aload_n 0, 1) := by decide +kernel
theorem dX8_reads_136 : decode cX8_reads 136 = .ok (.iconst 0, 1) := by decide +kernel
theorem dX8_reads_137 : decode cX8_reads 137 = .ok (.putfield 105, 3) := by decide +kernel
theorem dX8_reads_140 : decode cX8_reads 140 = .ok (.aload_n 0, 1) := by decide +kernel
theorem dX8_reads_141 : decode cX8_reads 141 = .ok (.aload_n 0, 1) := by decide +kernel
theorem dX8_reads_142 : decode cX8_reads 142 = .ok (.getfield 75, 3) := by decide +kernel
theorem dX8_reads_145 : decode cX8_reads 145 = .ok (.invokevirtual 78, 3) := by decide +kernel
theorem dX8_reads_148 : decode cX8_reads 148 = .ok (.i2l, 1) := by decide +kernel
theorem dX8_reads_149 : decode cX8_reads 149 = .ok (.ldc2_w 101, 3) := by decide +kernel
theorem dX8_reads_152 : decode cX8_reads 152 = .ok (.ldc2_w 103, 3) := by decide +kernel
theorem dX8_reads_155 : decode cX8_reads 155 = .ok (.invokestatic 59, 3) := by decide +kernel
theorem dX8_reads_158 : decode cX8_reads 158 = .ok (.ifCond .eq 59, 3) := by decide +kernel
theorem dX8_reads_161 : decode cX8_reads 161 = .ok (.aload_n 0, 1) := by decide +kernel
theorem dX8_reads_162 : decode cX8_reads 162 = .ok (.aload_n 0, 1) := by decide +kernel
theorem dX8_reads_163 : decode cX8_reads 163 = .ok (.getfield 75, 3) := by decide +kernel
theorem dX8_reads_166 : decode cX8_reads 166 = .ok (.aload_n 0, 1) := by decide +kernel
theorem dX8_reads_167 : decode cX8_reads 167 = .ok (.getfield 69, 3) := by decide +kernel
theorem dX8_reads_170 : decode cX8_reads 170 = .ok (.isub, 1) := by decide +kernel
theorem dX8_reads_171 : decode cX8_reads 171 = .ok (.iconst 2, 1) := by decide +kernel
theorem dX8_reads_172 : decode cX8_reads 172 = .ok (.if_icmp .ge 25, 3) := by decide +kernel
theorem dX8_reads_175 : decode cX8_reads 175 = .ok (.bipush 10, 2) := by decide +kernel
theorem dX8_reads_177 : decode cX8_reads 177 = .ok (.aload_n 0, 1) := by decide +kernel
theorem dX8_reads_178 : decode cX8_reads 178 = .ok (.getfield 105, 3) := by decide +kernel
theorem dX8_reads_181 : decode cX8_reads 181 = .ok (.imul, 1) := by decide +kernel
theorem dX8_reads_182 : decode cX8_reads 182 = .ok (.aload_n 0, 1) := by decide +kernel
theorem dX8_reads_183 : decode cX8_reads 183 = .ok (.aload_n 0, 1) := by decide +kernel
theorem dX8_reads_184 : decode cX8_reads 184 = .ok (.getfield 75, 3) := by decide +kernel
theorem dX8_reads_187 : decode cX8_reads 187 = .ok (.invokevirtual 78, 3) := by decide +kernel
theorem dX8_reads_190 : decode cX8_reads 190 = .ok (.iadd, 1) := by decide +kernel
theorem dX8_reads_191 : decode cX8_reads 191 = .ok (.bipush 48, 2) := by decide +kernel
theorem dX8_reads_193 : decode cX8_reads 193 = .ok (.isub, 1) := by decide +kernel
theorem dX8_reads_194 : decode cX8_reads 194 = .ok (.goto 7, 3) := by decide +kernel
theorem dX8_reads_197 : decode cX8_reads 197 = .ok (.aload_n 0, 1) := by decide +kernel
theorem dX8_reads_198 : decode cX8_reads 198 = .ok (.getfield 105, 3) := by decide +kernel
theorem dX8_reads_201 : decode cX8_reads 201 = .ok (.putfield 105, 3) := by decide +kernel
theorem dX8_reads_204 : decode cX8_reads 204 = .ok (.aload_n 0, 1) := by decide +kernel
theorem dX8_reads_205 : decode cX8_reads 205 = .ok (.dup, 1) := by decide +kernel
theorem dX8_reads_206 : decode cX8_reads 206 = .ok (.getfield 75, 3) := by decide +kernel
theorem dX8_reads_209 : decode cX8_reads 209 = .ok (.iconst 1, 1) := by decide +kernel
theorem dX8_reads_210 : decode cX8_reads 210 = .ok (.iadd, 1) := by decide +kernel
theorem dX8_reads_211 : decode cX8_reads 211 = .ok (.putfield 75, 3) := by decide +kernel
theorem dX8_reads_214 : decode cX8_reads 214 = .ok (.goto (-74), 3) := by decide +kernel
theorem dX8_reads_217 : decode cX8_reads 217 = .ok (.aload_n 0, 1) := by decide +kernel
theorem dX8_reads_218 : decode cX8_reads 218 = .ok (.aload_n 0, 1) := by decide +kernel
theorem dX8_reads_219 : decode cX8_reads 219 = .ok (.getfield 75, 3) := by decide +kernel
theorem dX8_reads_222 : decode cX8_reads 222 = .ok (.aload_n 0, 1) := by decide +kernel
theorem dX8_reads_223 : decode cX8_reads 223 = .ok (.getfield 69, 3) := by decide +kernel
theorem dX8_reads_226 : decode cX8_reads 226 = .ok (.isub, 1) := by decide +kernel
theorem dX8_reads_227 : decode cX8_reads 227 = .ok (.iconst 2, 1) := by decide +kernel
theorem dX8_reads_228 : decode cX8_reads 228 = .ok (.if_icmp .gt 7, 3) := by decide +kernel
theorem dX8_reads_231 : decode cX8_reads 231 = .ok (.iconst 1, 1) := by decide +kernel
theorem dX8_reads_232 : decode cX8_reads 232 = .ok (.goto 4, 3) := by decide +kernel
theorem dX8_reads_235 : decode cX8_reads 235 = .ok (.iconst 0, 1) := by decide +kernel
theorem dX8_reads_236 : decode cX8_reads 236 = .ok (.iconst 1, 1) := by decide +kernel
theorem dX8_reads_237 : decode cX8_reads 237 = .ok (.invokevirtual 108, 3) := by decide +kernel
theorem dX8_reads_240 : decode cX8_reads 240 = .ok (.goto 34, 3) := by decide +kernel
theorem dX8_reads_243 : decode cX8_reads 243 = .ok (.aload_n 0, 1) := by decide +kernel
theorem dX8_reads_244 : decode cX8_reads 244 = .ok (.iconst 3, 1) := by decide +kernel
theorem dX8_reads_245 : decode cX8_reads 245 = .ok (.putfield 94, 3) := by decide +kernel
theorem dX8_reads_248 : decode cX8_reads 248 = .ok (.aload_n 0, 1) := by decide +kernel
theorem dX8_reads_249 : decode cX8_reads 249 = .ok (.iload_n 1, 1) := by decide +kernel
theorem dX8_reads_250 : decode cX8_reads 250 = .ok (.bipush 59, 2) := by decide +kernel
theorem dX8_reads_252 : decode cX8_reads 252 = .ok (.if_icmp .ne 7, 3) := by decide +kernel
theorem dX8_reads_255 : decode cX8_reads 255 = .ok (.iconst 1, 1) := by decide +kernel
theorem dX8_reads_256 : decode cX8_reads 256 = .ok (.goto 4, 3) := by decide +kernel
theorem dX8_reads_259 : decode cX8_reads 259 = .ok (.iconst 0, 1) := by decide +kernel
theorem dX8_reads_260 : decode cX8_reads 260 = .ok (.iconst 1, 1) := by decide +kernel
theorem dX8_reads_261 : decode cX8_reads 261 = .ok (.invokevirtual 108, 3) := by decide +kernel
theorem dX8_reads_264 : decode cX8_reads 264 = .ok (.aload_n 0, 1) := by decide +kernel
theorem dX8_reads_265 : decode cX8_reads 265 = .ok (.dup, 1) := by decide +kernel
theorem dX8_reads_266 : decode cX8_reads 266 = .ok (.getfield 75, 3) := by decide +kernel
theorem dX8_reads_269 : decode cX8_reads 269 = .ok (.iconst 1, 1) := by decide +kernel
theorem dX8_reads_270 : decode cX8_reads 270 = .ok (.iadd, 1) := by decide +kernel
theorem dX8_reads_271 : decode cX8_reads 271 = .ok (.putfield 75, 3) := by decide +kernel
theorem dX8_reads_274 : decode cX8_reads 274 = .ok (.return_, 1) := by decide +kernel
theorem dX8_readNumber_0 : decode cX8_readNumber 0 = .ok (.aload_n 0, 1) := by decide +kernel
theorem dX8_readNumber_1 : decode cX8_readNumber 1 = .ok (.getfield 66, 3) := by decide +kernel
theorem dX8_readNumber_4 : decode cX8_readNumber 4 = .ok (.ifCond .ne 21, 3) := by decide +kernel
theorem dX8_readNumber_7 : decode cX8_readNumber 7 = .ok (.aload_n 0, 1) := by decide +kernel
theorem dX8_readNumber_8 : decode cX8_readNumber 8 = .ok (.aload_n 0, 1) := by decide +kernel
theorem dX8_readNumber_9 : decode cX8_readNumber 9 = .ok (.getfield 94, 3) := by decide +kernel
theorem dX8_readNumber_12 : decode cX8_readNumber 12 = .ok (.iconst 2, 1) := by decide +kernel
theorem dX8_readNumber_13 : decode cX8_readNumber 13 = .ok (.if_icmp .ne 7, 3) := by decide +kernel
theorem dX8_readNumber_16 : decode cX8_readNumber 16 = .ok (.iconst 1, 1) := by decide +kernel
theorem dX8_readNumber_17 : decode cX8_readNumber 17 = .ok (.goto 4, 3) := by decide +kernel
theorem dX8_readNumber_20 : decode cX8_readNumber 20 = .ok (.iconst 0, 1) := by decide +kernel
theorem dX8_readNumber_21 : decode cX8_readNumber 21 = .ok (.iconst 2, 1) := by decide +kernel
theorem dX8_readNumber_22 : decode cX8_readNumber 22 = .ok (.invokevirtual 108, 3) := by decide +kernel
theorem dX8_readNumber_25 : decode cX8_readNumber 25 = .ok (.aload_n 0, 1) := by decide +kernel
theorem dX8_readNumber_26 : decode cX8_readNumber 26 = .ok (.getfield 66, 3) := by decide +kernel
theorem dX8_readNumber_29 : decode cX8_readNumber 29 = .ok (.ifCond .ne 20, 3) := by decide +kernel
theorem dX8_readNumber_32 : decode cX8_readNumber 32 = .ok (.aload_n 0, 1) := by decide +kernel
theorem dX8_readNumber_33 : decode cX8_readNumber 33 = .ok (.aload_n 0, 1) := by decide +kernel
theorem dX8_readNumber_34 : decode cX8_readNumber 34 = .ok (.getfield 105, 3) := by decide +kernel
theorem dX8_readNumber_37 : decode cX8_readNumber 37 = .ok (.i2l, 1) := by decide +kernel
theorem dX8_readNumber_38 : decode cX8_readNumber 38 = .ok (.iload_n 1, 1) := by decide +kernel
theorem dX8_readNumber_39 : decode cX8_readNumber 39 = .ok (.i2l, 1) := by decide +kernel
theorem dX8_readNumber_40 : decode cX8_readNumber 40 = .ok (.iload_n 2, 1) := by decide +kernel
theorem dX8_readNumber_41 : decode cX8_readNumber 41 = .ok (.i2l, 1) := by decide +kernel
theorem dX8_readNumber_42 : decode cX8_readNumber 42 = .ok (.invokestatic 59, 3) := by decide +kernel
theorem dX8_readNumber_45 : decode cX8_readNumber 45 = .ok (.iconst 3, 1) := by decide +kernel
theorem dX8_readNumber_46 : decode cX8_readNumber 46 = .ok (.invokevirtual 108, 3) := by decide +kernel
theorem dX8_readNumber_49 : decode cX8_readNumber 49 = .ok (.aload_n 0, 1) := by decide +kernel
theorem dX8_readNumber_50 : decode cX8_readNumber 50 = .ok (.getfield 66, 3) := by decide +kernel
theorem dX8_readNumber_53 : decode cX8_readNumber 53 = .ok (.ifCond .ne 10, 3) := by decide +kernel
theorem dX8_readNumber_56 : decode cX8_readNumber 56 = .ok (.aload_n 0, 1) := by decide +kernel
theorem dX8_readNumber_57 : decode cX8_readNumber 57 = .ok (.getfield 105, 3) := by decide +kernel
theorem dX8_readNumber_60 : decode cX8_readNumber 60 = .ok (.goto 4, 3) := by decide +kernel
theorem dX8_readNumber_63 : decode cX8_readNumber 63 = .ok (.iconst 0, 1) := by decide +kernel
theorem dX8_readNumber_64 : decode cX8_readNumber 64 = .ok (.istore_n 3, 1) := by decide +kernel
theorem dX8_readNumber_65 : decode cX8_readNumber 65 = .ok (.aload_n 0, 1) := by decide +kernel
theorem dX8_readNumber_66 : decode cX8_readNumber 66 = .ok (.invokevirtual 112, 3) := by decide +kernel
theorem dX8_readNumber_69 : decode cX8_readNumber 69 = .ok (.iload_n 3, 1) := by decide +kernel
theorem dX8_readNumber_70 : decode cX8_readNumber 70 = .ok (.ireturn, 1) := by decide +kernel
theorem dX8_lowOf_0 : decode cX8_lowOf 0 = .ok (.iload_n 0, 1) := by decide +kernel
theorem dX8_lowOf_1 : decode cX8_lowOf 1 = .ok (.iconst 1, 1) := by decide +kernel
theorem dX8_lowOf_2 : decode cX8_lowOf 2 = .ok (.if_icmp .eq 8, 3) := by decide +kernel
theorem dX8_lowOf_5 : decode cX8_lowOf 5 = .ok (.iload_n 0, 1) := by decide +kernel
theorem dX8_lowOf_6 : decode cX8_lowOf 6 = .ok (.iconst 4, 1) := by decide +kernel
theorem dX8_lowOf_7 : decode cX8_lowOf 7 = .ok (.if_icmp .ne 7, 3) := by decide +kernel
theorem dX8_lowOf_10 : decode cX8_lowOf 10 = .ok (.iconst 1, 1) := by decide +kernel
theorem dX8_lowOf_11 : decode cX8_lowOf 11 = .ok (.goto 4, 3) := by decide +kernel
theorem dX8_lowOf_14 : decode cX8_lowOf 14 = .ok (.iconst 0, 1) := by decide +kernel
theorem dX8_lowOf_15 : decode cX8_lowOf 15 = .ok (.ireturn, 1) := by decide +kernel
theorem dX8_mostOf_0 : decode cX8_mostOf 0 = .ok (.iload_n 0, 1) := by decide +kernel
theorem dX8_mostOf_1 : decode cX8_mostOf 1 = .ok (.tableswitch 44 0 4 #[35, 44, 44, 38, 41], 35) := by decide +kernel
theorem dX8_mostOf_36 : decode cX8_mostOf 36 = .ok (.bipush 9, 2) := by decide +kernel
theorem dX8_mostOf_38 : decode cX8_mostOf 38 = .ok (.ireturn, 1) := by decide +kernel
theorem dX8_mostOf_39 : decode cX8_mostOf 39 = .ok (.bipush 30, 2) := by decide +kernel
theorem dX8_mostOf_41 : decode cX8_mostOf 41 = .ok (.ireturn, 1) := by decide +kernel
theorem dX8_mostOf_42 : decode cX8_mostOf 42 = .ok (.bipush 20, 2) := by decide +kernel
theorem dX8_mostOf_44 : decode cX8_mostOf 44 = .ok (.ireturn, 1) := by decide +kernel
theorem dX8_mostOf_45 : decode cX8_mostOf 45 = .ok (.bipush 6, 2) := by decide +kernel
theorem dX8_mostOf_47 : decode cX8_mostOf 47 = .ok (.ireturn, 1) := by decide +kernel
theorem dX8_readSuns_0 : decode cX8_readSuns 0 = .ok (.aload_n 0, 1) := by decide +kernel
theorem dX8_readSuns_1 : decode cX8_readSuns 1 = .ok (.getfield 66, 3) := by decide +kernel
theorem dX8_readSuns_4 : decode cX8_readSuns 4 = .ok (.ifCond .ne 69, 3) := by decide +kernel
theorem dX8_readSuns_7 : decode cX8_readSuns 7 = .ok (.aload_n 0, 1) := by decide +kernel
theorem dX8_readSuns_8 : decode cX8_readSuns 8 = .ok (.getfield 94, 3) := by decide +kernel
theorem dX8_readSuns_11 : decode cX8_readSuns 11 = .ok (.iconst 2, 1) := by decide +kernel
theorem dX8_readSuns_12 : decode cX8_readSuns 12 = .ok (.if_icmp .ne 61, 3) := by decide +kernel
theorem dX8_readSuns_15 : decode cX8_readSuns 15 = .ok (.aload_n 0, 1) := by decide +kernel
theorem dX8_readSuns_16 : decode cX8_readSuns 16 = .ok (.aload_n 0, 1) := by decide +kernel
theorem dX8_readSuns_17 : decode cX8_readSuns 17 = .ok (.getfield 54, 3) := by decide +kernel
theorem dX8_readSuns_20 : decode cX8_readSuns 20 = .ok (.bipush 7, 2) := by decide +kernel
theorem dX8_readSuns_22 : decode cX8_readSuns 22 = .ok (.if_icmp .ge 7, 3) := by decide +kernel
theorem dX8_readSuns_25 : decode cX8_readSuns 25 = .ok (.iconst 1, 1) := by decide +kernel
theorem dX8_readSuns_26 : decode cX8_readSuns 26 = .ok (.goto 4, 3) := by decide +kernel
theorem dX8_readSuns_29 : decode cX8_readSuns 29 = .ok (.iconst 0, 1) := by decide +kernel
theorem dX8_readSuns_30 : decode cX8_readSuns 30 = .ok (.iconst 5, 1) := by decide +kernel
theorem dX8_readSuns_31 : decode cX8_readSuns 31 = .ok (.invokevirtual 108, 3) := by decide +kernel
theorem dX8_readSuns_34 : decode cX8_readSuns 34 = .ok (.aload_n 0, 1) := by decide +kernel
theorem dX8_readSuns_35 : decode cX8_readSuns 35 = .ok (.getfield 66, 3) := by decide +kernel
theorem dX8_readSuns_38 : decode cX8_readSuns 38 = .ok (.ifCond .ne (-38), 3) := by decide +kernel
theorem dX8_readSuns_41 : decode cX8_readSuns 41 = .ok (.aload_n 0, 1) := by decide +kernel
theorem dX8_readSuns_42 : decode cX8_readSuns 42 = .ok (.getfield 20, 3) := by decide +kernel
theorem dX8_readSuns_45 : decode cX8_readSuns 45 = .ok (.bipush 30, 2) := by decide +kernel
theorem dX8_readSuns_47 : decode cX8_readSuns 47 = .ok (.aload_n 0, 1) := by decide +kernel
theorem dX8_readSuns_48 : decode cX8_readSuns 48 = .ok (.getfield 54, 3) := by decide +kernel
theorem dX8_readSuns_51 : decode cX8_readSuns 51 = .ok (.iadd, 1) := by decide +kernel
theorem dX8_readSuns_52 : decode cX8_readSuns 52 = .ok (.aload_n 0, 1) := by decide +kernel
theorem dX8_readSuns_53 : decode cX8_readSuns 53 = .ok (.iconst 0, 1) := by decide +kernel
theorem dX8_readSuns_54 : decode cX8_readSuns 54 = .ok (.bipush 9, 2) := by decide +kernel
theorem dX8_readSuns_56 : decode cX8_readSuns 56 = .ok (.invokevirtual 115, 3) := by decide +kernel
theorem dX8_readSuns_59 : decode cX8_readSuns 59 = .ok (.iastore, 1) := by decide +kernel
theorem dX8_readSuns_60 : decode cX8_readSuns 60 = .ok (.aload_n 0, 1) := by decide +kernel
theorem dX8_readSuns_61 : decode cX8_readSuns 61 = .ok (.dup, 1) := by decide +kernel
theorem dX8_readSuns_62 : decode cX8_readSuns 62 = .ok (.getfield 54, 3) := by decide +kernel
theorem dX8_readSuns_65 : decode cX8_readSuns 65 = .ok (.iconst 1, 1) := by decide +kernel
theorem dX8_readSuns_66 : decode cX8_readSuns 66 = .ok (.iadd, 1) := by decide +kernel
theorem dX8_readSuns_67 : decode cX8_readSuns 67 = .ok (.putfield 54, 3) := by decide +kernel
theorem dX8_readSuns_70 : decode cX8_readSuns 70 = .ok (.goto (-70), 3) := by decide +kernel
theorem dX8_readSuns_73 : decode cX8_readSuns 73 = .ok (.return_, 1) := by decide +kernel
theorem dX8_readLineOf_0 : decode cX8_readLineOf 0 = .ok (.iload_n 1, 1) := by decide +kernel
theorem dX8_readLineOf_1 : decode cX8_readLineOf 1 = .ok (.iconst 4, 1) := by decide +kernel
theorem dX8_readLineOf_2 : decode cX8_readLineOf 2 = .ok (.if_icmp .ge 57, 3) := by decide +kernel
theorem dX8_readLineOf_5 : decode cX8_readLineOf 5 = .ok (.aload_n 0, 1) := by decide +kernel
theorem dX8_readLineOf_6 : decode cX8_readLineOf 6 = .ok (.getfield 20, 3) := by decide +kernel
theorem dX8_readLineOf_9 : decode cX8_readLineOf 9 = .ok (.iconst 4, 1) := by decide +kernel
theorem dX8_readLineOf_10 : decode cX8_readLineOf 10 = .ok (.aload_n 0, 1) := by decide +kernel
theorem dX8_readLineOf_11 : decode cX8_readLineOf 11 = .ok (.getfield 20, 3) := by decide +kernel
theorem dX8_readLineOf_14 : decode cX8_readLineOf 14 = .ok (.bipush 24, 2) := by decide +kernel
theorem dX8_readLineOf_16 : decode cX8_readLineOf 16 = .ok (.iaload, 1) := by decide +kernel
theorem dX8_readLineOf_17 : decode cX8_readLineOf 17 = .ok (.imul, 1) := by decide +kernel
theorem dX8_readLineOf_18 : decode cX8_readLineOf 18 = .ok (.iconst 0, 1) := by decide +kernel
theorem dX8_readLineOf_19 : decode cX8_readLineOf 19 = .ok (.iadd, 1) := by decide +kernel
theorem dX8_readLineOf_20 : decode cX8_readLineOf 20 = .ok (.iload_n 1, 1) := by decide +kernel
theorem dX8_readLineOf_21 : decode cX8_readLineOf 21 = .ok (.iastore, 1) := by decide +kernel
theorem dX8_readLineOf_22 : decode cX8_readLineOf 22 = .ok (.aload_n 0, 1) := by decide +kernel
theorem dX8_readLineOf_23 : decode cX8_readLineOf 23 = .ok (.getfield 20, 3) := by decide +kernel
theorem dX8_readLineOf_26 : decode cX8_readLineOf 26 = .ok (.iconst 4, 1) := by decide +kernel
theorem dX8_readLineOf_27 : decode cX8_readLineOf 27 = .ok (.aload_n 0, 1) := by decide +kernel
theorem dX8_readLineOf_28 : decode cX8_readLineOf 28 = .ok (.getfield 20, 3) := by decide +kernel
theorem dX8_readLineOf_31 : decode cX8_readLineOf 31 = .ok (.bipush 24, 2) := by decide +kernel
theorem dX8_readLineOf_33 : decode cX8_readLineOf 33 = .ok (.iaload, 1) := by decide +kernel
theorem dX8_readLineOf_34 : decode cX8_readLineOf 34 = .ok (.imul, 1) := by decide +kernel
theorem dX8_readLineOf_35 : decode cX8_readLineOf 35 = .ok (.iconst 1, 1) := by decide +kernel
theorem dX8_readLineOf_36 : decode cX8_readLineOf 36 = .ok (.iadd, 1) := by decide +kernel
theorem dX8_readLineOf_37 : decode cX8_readLineOf 37 = .ok (.aload_n 0, 1) := by decide +kernel
theorem dX8_readLineOf_38 : decode cX8_readLineOf 38 = .ok (.iconst 0, 1) := by decide +kernel
theorem dX8_readLineOf_39 : decode cX8_readLineOf 39 = .ok (.bipush 60, 2) := by decide +kernel
theorem dX8_readLineOf_41 : decode cX8_readLineOf 41 = .ok (.invokevirtual 115, 3) := by decide +kernel
theorem dX8_readLineOf_44 : decode cX8_readLineOf 44 = .ok (.iastore, 1) := by decide +kernel
theorem dX8_readLineOf_45 : decode cX8_readLineOf 45 = .ok (.aload_n 0, 1) := by decide +kernel
theorem dX8_readLineOf_46 : decode cX8_readLineOf 46 = .ok (.getfield 20, 3) := by decide +kernel
theorem dX8_readLineOf_49 : decode cX8_readLineOf 49 = .ok (.bipush 24, 2) := by decide +kernel
theorem dX8_readLineOf_51 : decode cX8_readLineOf 51 = .ok (.dup2, 1) := by decide +kernel
theorem dX8_readLineOf_52 : decode cX8_readLineOf 52 = .ok (.iaload, 1) := by decide +kernel
theorem dX8_readLineOf_53 : decode cX8_readLineOf 53 = .ok (.iconst 1, 1) := by decide +kernel
theorem dX8_readLineOf_54 : decode cX8_readLineOf 54 = .ok (.iadd, 1) := by decide +kernel
theorem dX8_readLineOf_55 : decode cX8_readLineOf 55 = .ok (.iastore, 1) := by decide +kernel
theorem dX8_readLineOf_56 : decode cX8_readLineOf 56 = .ok (.goto 43, 3) := by decide +kernel
theorem dX8_readLineOf_59 : decode cX8_readLineOf 59 = .ok (.iload_n 1, 1) := by decide +kernel
theorem dX8_readLineOf_60 : decode cX8_readLineOf 60 = .ok (.bipush 9, 2) := by decide +kernel
theorem dX8_readLineOf_62 : decode cX8_readLineOf 62 = .ok (.if_icmp .ne 10, 3) := by decide +kernel
theorem dX8_readLineOf_65 : decode cX8_readLineOf 65 = .ok (.aload_n 0, 1) := by decide +kernel
theorem dX8_readLineOf_66 : decode cX8_readLineOf 66 = .ok (.invokevirtual 119, 3) := by decide +kernel
theorem dX8_readLineOf_69 : decode cX8_readLineOf 69 = .ok (.goto 30, 3) := by decide +kernel
theorem dX8_readLineOf_72 : decode cX8_readLineOf 72 = .ok (.aload_n 0, 1) := by decide +kernel
theorem dX8_readLineOf_73 : decode cX8_readLineOf 73 = .ok (.getfield 20, 3) := by decide +kernel
theorem dX8_readLineOf_76 : decode cX8_readLineOf 76 = .ok (.bipush 25, 2) := by decide +kernel
theorem dX8_readLineOf_78 : decode cX8_readLineOf 78 = .ok (.iload_n 1, 1) := by decide +kernel
theorem dX8_readLineOf_79 : decode cX8_readLineOf 79 = .ok (.iadd, 1) := by decide +kernel
theorem dX8_readLineOf_80 : decode cX8_readLineOf 80 = .ok (.iconst 4, 1) := by decide +kernel
theorem dX8_readLineOf_81 : decode cX8_readLineOf 81 = .ok (.isub, 1) := by decide +kernel
theorem dX8_readLineOf_82 : decode cX8_readLineOf 82 = .ok (.aload_n 0, 1) := by decide +kernel
theorem dX8_readLineOf_83 : decode cX8_readLineOf 83 = .ok (.iload_n 1, 1) := by decide +kernel
theorem dX8_readLineOf_84 : decode cX8_readLineOf 84 = .ok (.iconst 4, 1) := by decide +kernel
theorem dX8_readLineOf_85 : decode cX8_readLineOf 85 = .ok (.isub, 1) := by decide +kernel
theorem dX8_readLineOf_86 : decode cX8_readLineOf 86 = .ok (.invokestatic 122, 3) := by decide +kernel
theorem dX8_readLineOf_89 : decode cX8_readLineOf 89 = .ok (.iload_n 1, 1) := by decide +kernel
theorem dX8_readLineOf_90 : decode cX8_readLineOf 90 = .ok (.iconst 4, 1) := by decide +kernel
theorem dX8_readLineOf_91 : decode cX8_readLineOf 91 = .ok (.isub, 1) := by decide +kernel
theorem dX8_readLineOf_92 : decode cX8_readLineOf 92 = .ok (.invokestatic 125, 3) := by decide +kernel
theorem dX8_readLineOf_95 : decode cX8_readLineOf 95 = .ok (.invokevirtual 115, 3) := by decide +kernel
theorem dX8_readLineOf_98 : decode cX8_readLineOf 98 = .ok (.iastore, 1) := by decide +kernel
theorem dX8_readLineOf_99 : decode cX8_readLineOf 99 = .ok (.return_, 1) := by decide +kernel
theorem dX8_readLine_0 : decode cX8_readLine 0 = .ok (.aload_n 0, 1) := by decide +kernel
theorem dX8_readLine_1 : decode cX8_readLine 1 = .ok (.getfield 94, 3) := by decide +kernel
theorem dX8_readLine_4 : decode cX8_readLine 4 = .ok (.iconst 1, 1) := by decide +kernel
theorem dX8_readLine_5 : decode cX8_readLine 5 = .ok (.if_icmp .ne 10, 3) := by decide +kernel
theorem dX8_readLine_8 : decode cX8_readLine 8 = .ok (.aload_n 0, 1) := by decide +kernel
theorem dX8_readLine_9 : decode cX8_readLine 9 = .ok (.invokevirtual 128, 3) := by decide +kernel
theorem dX8_readLine_12 : decode cX8_readLine 12 = .ok (.goto 5, 3) := by decide +kernel
theorem dX8_readLine_15 : decode cX8_readLine 15 = .ok (.bipush (-4), 2) := by decide +kernel
theorem dX8_readLine_17 : decode cX8_readLine 17 = .ok (.istore_n 1, 1) := by decide +kernel
theorem dX8_readLine_18 : decode cX8_readLine 18 = .ok (.aload_n 0, 1) := by decide +kernel
theorem dX8_readLine_19 : decode cX8_readLine 19 = .ok (.iload_n 1, 1) := by decide +kernel
theorem dX8_readLine_20 : decode cX8_readLine 20 = .ok (.bipush (-4), 2) := by decide +kernel
theorem dX8_readLine_22 : decode cX8_readLine 22 = .ok (.if_icmp .eq 7, 3) := by decide +kernel
theorem dX8_readLine_25 : decode cX8_readLine 25 = .ok (.iconst 1, 1) := by decide +kernel
theorem dX8_readLine_26 : decode cX8_readLine 26 = .ok (.goto 4, 3) := by decide +kernel
theorem dX8_readLine_29 : decode cX8_readLine 29 = .ok (.iconst 0, 1) := by decide +kernel
theorem dX8_readLine_30 : decode cX8_readLine 30 = .ok (.iconst 2, 1) := by decide +kernel
theorem dX8_readLine_31 : decode cX8_readLine 31 = .ok (.invokevirtual 108, 3) := by decide +kernel
theorem dX8_readLine_34 : decode cX8_readLine 34 = .ok (.aload_n 0, 1) := by decide +kernel
theorem dX8_readLine_35 : decode cX8_readLine 35 = .ok (.iload_n 1, 1) := by decide +kernel
theorem dX8_readLine_36 : decode cX8_readLine 36 = .ok (.iconst 4, 1) := by decide +kernel
theorem dX8_readLine_37 : decode cX8_readLine 37 = .ok (.if_icmp .ge 15, 3) := by decide +kernel
theorem dX8_readLine_40 : decode cX8_readLine 40 = .ok (.aload_n 0, 1) := by decide +kernel
theorem dX8_readLine_41 : decode cX8_readLine 41 = .ok (.getfield 20, 3) := by decide +kernel
theorem dX8_readLine_44 : decode cX8_readLine 44 = .ok (.bipush 24, 2) := by decide +kernel
theorem dX8_readLine_46 : decode cX8_readLine 46 = .ok (.iaload, 1) := by decide +kernel
theorem dX8_readLine_47 : decode cX8_readLine 47 = .ok (.bipush 6, 2) := by decide +kernel
theorem dX8_readLine_49 : decode cX8_readLine 49 = .ok (.if_icmp .ge 7, 3) := by decide +kernel
theorem dX8_readLine_52 : decode cX8_readLine 52 = .ok (.iconst 1, 1) := by decide +kernel
theorem dX8_readLine_53 : decode cX8_readLine 53 = .ok (.goto 4, 3) := by decide +kernel
theorem dX8_readLine_56 : decode cX8_readLine 56 = .ok (.iconst 0, 1) := by decide +kernel
theorem dX8_readLine_57 : decode cX8_readLine 57 = .ok (.iconst 5, 1) := by decide +kernel
theorem dX8_readLine_58 : decode cX8_readLine 58 = .ok (.invokevirtual 108, 3) := by decide +kernel
theorem dX8_readLine_61 : decode cX8_readLine 61 = .ok (.aload_n 0, 1) := by decide +kernel
theorem dX8_readLine_62 : decode cX8_readLine 62 = .ok (.iload_n 1, 1) := by decide +kernel
theorem dX8_readLine_63 : decode cX8_readLine 63 = .ok (.iconst 4, 1) := by decide +kernel
theorem dX8_readLine_64 : decode cX8_readLine 64 = .ok (.if_icmp .lt 14, 3) := by decide +kernel
theorem dX8_readLine_67 : decode cX8_readLine 67 = .ok (.aload_n 0, 1) := by decide +kernel
theorem dX8_readLine_68 : decode cX8_readLine 68 = .ok (.getfield 50, 3) := by decide +kernel
theorem dX8_readLine_71 : decode cX8_readLine 71 = .ok (.iload_n 1, 1) := by decide +kernel
theorem dX8_readLine_72 : decode cX8_readLine 72 = .ok (.ishr, 1) := by decide +kernel
theorem dX8_readLine_73 : decode cX8_readLine 73 = .ok (.iconst 1, 1) := by decide +kernel
theorem dX8_readLine_74 : decode cX8_readLine 74 = .ok (.iand, 1) := by decide +kernel
theorem dX8_readLine_75 : decode cX8_readLine 75 = .ok (.ifCond .ne 7, 3) := by decide +kernel
theorem dX8_readLine_78 : decode cX8_readLine 78 = .ok (.iconst 1, 1) := by decide +kernel
theorem dX8_readLine_79 : decode cX8_readLine 79 = .ok (.goto 4, 3) := by decide +kernel
theorem dX8_readLine_82 : decode cX8_readLine 82 = .ok (.iconst 0, 1) := by decide +kernel
theorem dX8_readLine_83 : decode cX8_readLine 83 = .ok (.iconst 4, 1) := by decide +kernel
theorem dX8_readLine_84 : decode cX8_readLine 84 = .ok (.invokevirtual 108, 3) := by decide +kernel
theorem dX8_readLine_87 : decode cX8_readLine 87 = .ok (.aload_n 0, 1) := by decide +kernel
theorem dX8_readLine_88 : decode cX8_readLine 88 = .ok (.invokevirtual 112, 3) := by decide +kernel
theorem dX8_readLine_91 : decode cX8_readLine 91 = .ok (.aload_n 0, 1) := by decide +kernel
theorem dX8_readLine_92 : decode cX8_readLine 92 = .ok (.getfield 66, 3) := by decide +kernel
theorem dX8_readLine_95 : decode cX8_readLine 95 = .ok (.ifCond .le 4, 3) := by decide +kernel
theorem dX8_readLine_98 : decode cX8_readLine 98 = .ok (.return_, 1) := by decide +kernel
theorem dX8_readLine_99 : decode cX8_readLine 99 = .ok (.aload_n 0, 1) := by decide +kernel
theorem dX8_readLine_100 : decode cX8_readLine 100 = .ok (.dup, 1) := by decide +kernel
theorem dX8_readLine_101 : decode cX8_readLine 101 = .ok (.getfield 50, 3) := by decide +kernel
theorem dX8_readLine_104 : decode cX8_readLine 104 = .ok (.iconst 1, 1) := by decide +kernel
theorem dX8_readLine_105 : decode cX8_readLine 105 = .ok (.iload_n 1, 1) := by decide +kernel
theorem dX8_readLine_106 : decode cX8_readLine 106 = .ok (.ishl, 1) := by decide +kernel
theorem dX8_readLine_107 : decode cX8_readLine 107 = .ok (.ior, 1) := by decide +kernel
theorem dX8_readLine_108 : decode cX8_readLine 108 = .ok (.putfield 50, 3) := by decide +kernel
theorem dX8_readLine_111 : decode cX8_readLine 111 = .ok (.aload_n 0, 1) := by decide +kernel
theorem dX8_readLine_112 : decode cX8_readLine 112 = .ok (.iload_n 1, 1) := by decide +kernel
theorem dX8_readLine_113 : decode cX8_readLine 113 = .ok (.invokevirtual 131, 3) := by decide +kernel
theorem dX8_readLine_116 : decode cX8_readLine 116 = .ok (.aload_n 0, 1) := by decide +kernel
theorem dX8_readLine_117 : decode cX8_readLine 117 = .ok (.getfield 66, 3) := by decide +kernel
theorem dX8_readLine_120 : decode cX8_readLine 120 = .ok (.ifCond .ne 21, 3) := by decide +kernel
theorem dX8_readLine_123 : decode cX8_readLine 123 = .ok (.aload_n 0, 1) := by decide +kernel
theorem dX8_readLine_124 : decode cX8_readLine 124 = .ok (.aload_n 0, 1) := by decide +kernel
theorem dX8_readLine_125 : decode cX8_readLine 125 = .ok (.getfield 94, 3) := by decide +kernel
theorem dX8_readLine_128 : decode cX8_readLine 128 = .ok (.iconst 3, 1) := by decide +kernel
theorem dX8_readLine_129 : decode cX8_readLine 129 = .ok (.if_icmp .ne 7, 3) := by decide +kernel
theorem dX8_readLine_132 : decode cX8_readLine 132 = .ok (.iconst 1, 1) := by decide +kernel
theorem dX8_readLine_133 : decode cX8_readLine 133 = .ok (.goto 4, 3) := by decide +kernel
theorem dX8_readLine_136 : decode cX8_readLine 136 = .ok (.iconst 0, 1) := by decide +kernel
theorem dX8_readLine_137 : decode cX8_readLine 137 = .ok (.iconst 2, 1) := by decide +kernel
theorem dX8_readLine_138 : decode cX8_readLine 138 = .ok (.invokevirtual 108, 3) := by decide +kernel
theorem dX8_readLine_141 : decode cX8_readLine 141 = .ok (.aload_n 0, 1) := by decide +kernel
theorem dX8_readLine_142 : decode cX8_readLine 142 = .ok (.invokevirtual 112, 3) := by decide +kernel
theorem dX8_readLine_145 : decode cX8_readLine 145 = .ok (.return_, 1) := by decide +kernel
theorem dX8_text_0 : decode cX8_text 0 = .ok (.iconst 0, 1) := by decide +kernel
theorem dX8_text_1 : decode cX8_text 1 = .ok (.istore_n 1, 1) := by decide +kernel
theorem dX8_text_2 : decode cX8_text 2 = .ok (.aload_n 0, 1) := by decide +kernel
theorem dX8_text_3 : decode cX8_text 3 = .ok (.iconst 0, 1) := by decide +kernel
theorem dX8_text_4 : decode cX8_text 4 = .ok (.putfield 66, 3) := by decide +kernel
theorem dX8_text_7 : decode cX8_text 7 = .ok (.aload_n 0, 1) := by decide +kernel
theorem dX8_text_8 : decode cX8_text 8 = .ok (.iconst 0, 1) := by decide +kernel
theorem dX8_text_9 : decode cX8_text 9 = .ok (.putfield 75, 3) := by decide +kernel
theorem dX8_text_12 : decode cX8_text 12 = .ok (.aload_n 0, 1) := by decide +kernel
theorem dX8_text_13 : decode cX8_text 13 = .ok (.invokevirtual 44, 3) := by decide +kernel
theorem dX8_text_16 : decode cX8_text 16 = .ok (.aload_n 0, 1) := by decide +kernel
theorem dX8_text_17 : decode cX8_text 17 = .ok (.invokevirtual 112, 3) := by decide +kernel
theorem dX8_text_20 : decode cX8_text 20 = .ok (.aload_n 0, 1) := by decide +kernel
theorem dX8_text_21 : decode cX8_text 21 = .ok (.getfield 66, 3) := by decide +kernel
theorem dX8_text_24 : decode cX8_text 24 = .ok (.ifCond .ne 20, 3) := by decide +kernel
theorem dX8_text_27 : decode cX8_text 27 = .ok (.aload_n 0, 1) := by decide +kernel
theorem dX8_text_28 : decode cX8_text 28 = .ok (.getfield 94, 3) := by decide +kernel
theorem dX8_text_31 : decode cX8_text 31 = .ok (.ifCond .eq 13, 3) := by decide +kernel
theorem dX8_text_34 : decode cX8_text 34 = .ok (.aload_n 0, 1) := by decide +kernel
theorem dX8_text_35 : decode cX8_text 35 = .ok (.invokevirtual 135, 3) := by decide +kernel
theorem dX8_text_38 : decode cX8_text 38 = .ok (.iinc 1 1, 3) := by decide +kernel
theorem dX8_text_41 : decode cX8_text 41 = .ok (.goto (-21), 3) := by decide +kernel
theorem dX8_text_44 : decode cX8_text 44 = .ok (.aload_n 0, 1) := by decide +kernel
theorem dX8_text_45 : decode cX8_text 45 = .ok (.iconst 0, 1) := by decide +kernel
theorem dX8_text_46 : decode cX8_text 46 = .ok (.putfield 63, 3) := by decide +kernel
theorem dX8_text_49 : decode cX8_text 49 = .ok (.aload_n 0, 1) := by decide +kernel
theorem dX8_text_50 : decode cX8_text 50 = .ok (.getfield 66, 3) := by decide +kernel
theorem dX8_text_53 : decode cX8_text 53 = .ok (.ifCond .le 11, 3) := by decide +kernel
theorem dX8_text_56 : decode cX8_text 56 = .ok (.bipush (-10), 2) := by decide +kernel
theorem dX8_text_58 : decode cX8_text 58 = .ok (.aload_n 0, 1) := by decide +kernel
theorem dX8_text_59 : decode cX8_text 59 = .ok (.getfield 72, 3) := by decide +kernel
theorem dX8_text_62 : decode cX8_text 62 = .ok (.isub, 1) := by decide +kernel
theorem dX8_text_63 : decode cX8_text 63 = .ok (.ireturn, 1) := by decide +kernel
theorem dX8_text_64 : decode cX8_text 64 = .ok (.aload_n 0, 1) := by decide +kernel
theorem dX8_text_65 : decode cX8_text 65 = .ok (.invokevirtual 47, 3) := by decide +kernel
theorem dX8_text_68 : decode cX8_text 68 = .ok (.iload_n 1, 1) := by decide +kernel
theorem dX8_text_69 : decode cX8_text 69 = .ok (.ireturn, 1) := by decide +kernel
theorem dX8_fault_0 : decode cX8_fault 0 = .ok (.aload_n 0, 1) := by decide +kernel
theorem dX8_fault_1 : decode cX8_fault 1 = .ok (.getfield 66, 3) := by decide +kernel
theorem dX8_fault_4 : decode cX8_fault 4 = .ok (.ireturn, 1) := by decide +kernel
theorem dX8_isOne_0 : decode cX8_isOne 0 = .ok (.iload_n 1, 1) := by decide +kernel
theorem dX8_isOne_1 : decode cX8_isOne 1 = .ok (.i2l, 1) := by decide +kernel
theorem dX8_isOne_2 : decode cX8_isOne 2 = .ok (.lconst 0, 1) := by decide +kernel
theorem dX8_isOne_3 : decode cX8_isOne 3 = .ok (.aload_n 0, 1) := by decide +kernel
theorem dX8_isOne_4 : decode cX8_isOne 4 = .ok (.getfield 7, 3) := by decide +kernel
theorem dX8_isOne_7 : decode cX8_isOne 7 = .ok (.bipush 24, 2) := by decide +kernel
theorem dX8_isOne_9 : decode cX8_isOne 9 = .ok (.iaload, 1) := by decide +kernel
theorem dX8_isOne_10 : decode cX8_isOne 10 = .ok (.iconst 1, 1) := by decide +kernel
theorem dX8_isOne_11 : decode cX8_isOne 11 = .ok (.isub, 1) := by decide +kernel
theorem dX8_isOne_12 : decode cX8_isOne 12 = .ok (.i2l, 1) := by decide +kernel
theorem dX8_isOne_13 : decode cX8_isOne 13 = .ok (.invokestatic 59, 3) := by decide +kernel
theorem dX8_isOne_16 : decode cX8_isOne 16 = .ok (.ireturn, 1) := by decide +kernel
theorem dX8_isPart_0 : decode cX8_isPart 0 = .ok (.iload_n 0, 1) := by decide +kernel
theorem dX8_isPart_1 : decode cX8_isPart 1 = .ok (.i2l, 1) := by decide +kernel
theorem dX8_isPart_2 : decode cX8_isPart 2 = .ok (.lconst 0, 1) := by decide +kernel
theorem dX8_isPart_3 : decode cX8_isPart 3 = .ok (.lconst 1, 1) := by decide +kernel
theorem dX8_isPart_4 : decode cX8_isPart 4 = .ok (.invokestatic 59, 3) := by decide +kernel
theorem dX8_isPart_7 : decode cX8_isPart 7 = .ok (.ireturn, 1) := by decide +kernel
theorem dX8_starts_0 : decode cX8_starts 0 = .ok (.iconst 0, 1) := by decide +kernel
theorem dX8_starts_1 : decode cX8_starts 1 = .ok (.istore_n 1, 1) := by decide +kernel
theorem dX8_starts_2 : decode cX8_starts 2 = .ok (.iload_n 1, 1) := by decide +kernel
theorem dX8_starts_3 : decode cX8_starts 3 = .ok (.bipush 57, 2) := by decide +kernel
theorem dX8_starts_5 : decode cX8_starts 5 = .ok (.if_icmp .ge 21, 3) := by decide +kernel
theorem dX8_starts_8 : decode cX8_starts 8 = .ok (.aload_n 0, 1) := by decide +kernel
theorem dX8_starts_9 : decode cX8_starts 9 = .ok (.getfield 13, 3) := by decide +kernel
theorem dX8_starts_12 : decode cX8_starts 12 = .ok (.iload_n 1, 1) := by decide +kernel
theorem dX8_starts_13 : decode cX8_starts 13 = .ok (.aload_n 0, 1) := by decide +kernel
theorem dX8_starts_14 : decode cX8_starts 14 = .ok (.getfield 7, 3) := by decide +kernel
theorem dX8_starts_17 : decode cX8_starts 17 = .ok (.iload_n 1, 1) := by decide +kernel
theorem dX8_starts_18 : decode cX8_starts 18 = .ok (.iaload, 1) := by decide +kernel
theorem dX8_starts_19 : decode cX8_starts 19 = .ok (.iastore, 1) := by decide +kernel
theorem dX8_starts_20 : decode cX8_starts 20 = .ok (.iinc 1 1, 3) := by decide +kernel
theorem dX8_starts_23 : decode cX8_starts 23 = .ok (.goto (-21), 3) := by decide +kernel
theorem dX8_starts_26 : decode cX8_starts 26 = .ok (.aload_n 0, 1) := by decide +kernel
theorem dX8_starts_27 : decode cX8_starts 27 = .ok (.iconst 0, 1) := by decide +kernel
theorem dX8_starts_28 : decode cX8_starts 28 = .ok (.putfield 138, 3) := by decide +kernel
theorem dX8_starts_31 : decode cX8_starts 31 = .ok (.aload_n 0, 1) := by decide +kernel
theorem dX8_starts_32 : decode cX8_starts 32 = .ok (.iconst 0, 1) := by decide +kernel
theorem dX8_starts_33 : decode cX8_starts 33 = .ok (.putfield 141, 3) := by decide +kernel
theorem dX8_starts_36 : decode cX8_starts 36 = .ok (.return_, 1) := by decide +kernel
theorem dX8_settles_0 : decode cX8_settles 0 = .ok (.iconst 0, 1) := by decide +kernel
theorem dX8_settles_1 : decode cX8_settles 1 = .ok (.istore_n 1, 1) := by decide +kernel
theorem dX8_settles_2 : decode cX8_settles 2 = .ok (.iload_n 1, 1) := by decide +kernel
theorem dX8_settles_3 : decode cX8_settles 3 = .ok (.bipush 57, 2) := by decide +kernel
theorem dX8_settles_5 : decode cX8_settles 5 = .ok (.if_icmp .ge 21, 3) := by decide +kernel
theorem dX8_settles_8 : decode cX8_settles 8 = .ok (.aload_n 0, 1) := by decide +kernel
theorem dX8_settles_9 : decode cX8_settles 9 = .ok (.getfield 7, 3) := by decide +kernel
theorem dX8_settles_12 : decode cX8_settles 12 = .ok (.iload_n 1, 1) := by decide +kernel
theorem dX8_settles_13 : decode cX8_settles 13 = .ok (.aload_n 0, 1) := by decide +kernel
theorem dX8_settles_14 : decode cX8_settles 14 = .ok (.getfield 13, 3) := by decide +kernel
theorem dX8_settles_17 : decode cX8_settles 17 = .ok (.iload_n 1, 1) := by decide +kernel
theorem dX8_settles_18 : decode cX8_settles 18 = .ok (.iaload, 1) := by decide +kernel
theorem dX8_settles_19 : decode cX8_settles 19 = .ok (.iastore, 1) := by decide +kernel
theorem dX8_settles_20 : decode cX8_settles 20 = .ok (.iinc 1 1, 3) := by decide +kernel
theorem dX8_settles_23 : decode cX8_settles 23 = .ok (.goto (-21), 3) := by decide +kernel
theorem dX8_settles_26 : decode cX8_settles 26 = .ok (.return_, 1) := by decide +kernel
theorem dX8_of_0 : decode cX8_of 0 = .ok (.aload_n 0, 1) := by decide +kernel
theorem dX8_of_1 : decode cX8_of 1 = .ok (.getfield 13, 3) := by decide +kernel
theorem dX8_of_4 : decode cX8_of 4 = .ok (.iconst 4, 1) := by decide +kernel
theorem dX8_of_5 : decode cX8_of 5 = .ok (.iload_n 1, 1) := by decide +kernel
theorem dX8_of_6 : decode cX8_of 6 = .ok (.imul, 1) := by decide +kernel
theorem dX8_of_7 : decode cX8_of 7 = .ok (.iload_n 2, 1) := by decide +kernel
theorem dX8_of_8 : decode cX8_of 8 = .ok (.iadd, 1) := by decide +kernel
theorem dX8_of_9 : decode cX8_of 9 = .ok (.iaload, 1) := by decide +kernel
theorem dX8_of_10 : decode cX8_of 10 = .ok (.ireturn, 1) := by decide +kernel
theorem dX8_becomesOf_0 : decode cX8_becomesOf 0 = .ok (.aload_n 0, 1) := by decide +kernel
theorem dX8_becomesOf_1 : decode cX8_becomesOf 1 = .ok (.getfield 13, 3) := by decide +kernel
theorem dX8_becomesOf_4 : decode cX8_becomesOf 4 = .ok (.iconst 4, 1) := by decide +kernel
theorem dX8_becomesOf_5 : decode cX8_becomesOf 5 = .ok (.iload_n 1, 1) := by decide +kernel
theorem dX8_becomesOf_6 : decode cX8_becomesOf 6 = .ok (.imul, 1) := by decide +kernel
theorem dX8_becomesOf_7 : decode cX8_becomesOf 7 = .ok (.iload_n 2, 1) := by decide +kernel
theorem dX8_becomesOf_8 : decode cX8_becomesOf 8 = .ok (.iadd, 1) := by decide +kernel
theorem dX8_becomesOf_9 : decode cX8_becomesOf 9 = .ok (.iload_n 3, 1) := by decide +kernel
theorem dX8_becomesOf_10 : decode cX8_becomesOf 10 = .ok (.iastore, 1) := by decide +kernel
theorem dX8_becomesOf_11 : decode cX8_becomesOf 11 = .ok (.return_, 1) := by decide +kernel
theorem dX8_those_0 : decode cX8_those 0 = .ok (.iconst 0, 1) := by decide +kernel
theorem dX8_those_1 : decode cX8_those 1 = .ok (.istore_n 2, 1) := by decide +kernel
theorem dX8_those_2 : decode cX8_those 2 = .ok (.iconst 0, 1) := by decide +kernel
theorem dX8_those_3 : decode cX8_those 3 = .ok (.istore_n 3, 1) := by decide +kernel
theorem dX8_those_4 : decode cX8_those 4 = .ok (.iload_n 3, 1) := by decide +kernel
theorem dX8_those_5 : decode cX8_those 5 = .ok (.aload_n 0, 1) := by decide +kernel
theorem dX8_those_6 : decode cX8_those 6 = .ok (.getfield 13, 3) := by decide +kernel
theorem dX8_those_9 : decode cX8_those 9 = .ok (.bipush 24, 2) := by decide +kernel
theorem dX8_those_11 : decode cX8_those 11 = .ok (.iaload, 1) := by decide +kernel
theorem dX8_those_12 : decode cX8_those 12 = .ok (.if_icmp .ge 32, 3) := by decide +kernel
theorem dX8_those_15 : decode cX8_those 15 = .ok (.iload_n 2, 1) := by decide +kernel
theorem dX8_those_16 : decode cX8_those 16 = .ok (.aload_n 0, 1) := by decide +kernel
theorem dX8_those_17 : decode cX8_those 17 = .ok (.iload_n 3, 1) := by decide +kernel
theorem dX8_those_18 : decode cX8_those 18 = .ok (.iconst 3, 1) := by decide +kernel
theorem dX8_those_19 : decode cX8_those 19 = .ok (.invokevirtual 144, 3) := by decide +kernel
theorem dX8_those_22 : decode cX8_those 22 = .ok (.iload_n 1, 1) := by decide +kernel
theorem dX8_those_23 : decode cX8_those 23 = .ok (.if_icmp .ne 7, 3) := by decide +kernel
theorem dX8_those_26 : decode cX8_those 26 = .ok (.iconst 1, 1) := by decide +kernel
theorem dX8_those_27 : decode cX8_those 27 = .ok (.goto 4, 3) := by decide +kernel
theorem dX8_those_30 : decode cX8_those 30 = .ok (.iconst 0, 1) := by decide +kernel
theorem dX8_those_31 : decode cX8_those 31 = .ok (.invokestatic 147, 3) := by decide +kernel
theorem dX8_those_34 : decode cX8_those 34 = .ok (.iload_n 3, 1) := by decide +kernel
theorem dX8_those_35 : decode cX8_those 35 = .ok (.ishl, 1) := by decide +kernel
theorem dX8_those_36 : decode cX8_those 36 = .ok (.ior, 1) := by decide +kernel
theorem dX8_those_37 : decode cX8_those 37 = .ok (.istore_n 2, 1) := by decide +kernel
theorem dX8_those_38 : decode cX8_those 38 = .ok (.iinc 3 1, 3) := by decide +kernel
theorem dX8_those_41 : decode cX8_those 41 = .ok (.goto (-37), 3) := by decide +kernel
theorem dX8_those_44 : decode cX8_those 44 = .ok (.iload_n 2, 1) := by decide +kernel
theorem dX8_those_45 : decode cX8_those 45 = .ok (.ireturn, 1) := by decide +kernel
theorem dX8_manyAt_0 : decode cX8_manyAt 0 = .ok (.iconst 0, 1) := by decide +kernel
theorem dX8_manyAt_1 : decode cX8_manyAt 1 = .ok (.istore_n 2, 1) := by decide +kernel
theorem dX8_manyAt_2 : decode cX8_manyAt 2 = .ok (.iconst 0, 1) := by decide +kernel
theorem dX8_manyAt_3 : decode cX8_manyAt 3 = .ok (.istore_n 3, 1) := by decide +kernel
theorem dX8_manyAt_4 : decode cX8_manyAt 4 = .ok (.iload_n 3, 1) := by decide +kernel
theorem dX8_manyAt_5 : decode cX8_manyAt 5 = .ok (.aload_n 0, 1) := by decide +kernel
theorem dX8_manyAt_6 : decode cX8_manyAt 6 = .ok (.getfield 13, 3) := by decide +kernel
theorem dX8_manyAt_9 : decode cX8_manyAt 9 = .ok (.bipush 24, 2) := by decide +kernel
theorem dX8_manyAt_11 : decode cX8_manyAt 11 = .ok (.iaload, 1) := by decide +kernel
theorem dX8_manyAt_12 : decode cX8_manyAt 12 = .ok (.if_icmp .ge 30, 3) := by decide +kernel
theorem dX8_manyAt_15 : decode cX8_manyAt 15 = .ok (.iload_n 2, 1) := by decide +kernel
theorem dX8_manyAt_16 : decode cX8_manyAt 16 = .ok (.aload_n 0, 1) := by decide +kernel
theorem dX8_manyAt_17 : decode cX8_manyAt 17 = .ok (.iload_n 3, 1) := by decide +kernel
theorem dX8_manyAt_18 : decode cX8_manyAt 18 = .ok (.iconst 3, 1) := by decide +kernel
theorem dX8_manyAt_19 : decode cX8_manyAt 19 = .ok (.invokevirtual 144, 3) := by decide +kernel
theorem dX8_manyAt_22 : decode cX8_manyAt 22 = .ok (.iload_n 1, 1) := by decide +kernel
theorem dX8_manyAt_23 : decode cX8_manyAt 23 = .ok (.if_icmp .ne 7, 3) := by decide +kernel
theorem dX8_manyAt_26 : decode cX8_manyAt 26 = .ok (.iconst 1, 1) := by decide +kernel
theorem dX8_manyAt_27 : decode cX8_manyAt 27 = .ok (.goto 4, 3) := by decide +kernel
theorem dX8_manyAt_30 : decode cX8_manyAt 30 = .ok (.iconst 0, 1) := by decide +kernel
theorem dX8_manyAt_31 : decode cX8_manyAt 31 = .ok (.invokestatic 147, 3) := by decide +kernel
theorem dX8_manyAt_34 : decode cX8_manyAt 34 = .ok (.iadd, 1) := by decide +kernel
theorem dX8_manyAt_35 : decode cX8_manyAt 35 = .ok (.istore_n 2, 1) := by decide +kernel
theorem dX8_manyAt_36 : decode cX8_manyAt 36 = .ok (.iinc 3 1, 3) := by decide +kernel
theorem dX8_manyAt_39 : decode cX8_manyAt 39 = .ok (.goto (-35), 3) := by decide +kernel
theorem dX8_manyAt_42 : decode cX8_manyAt 42 = .ok (.iload_n 2, 1) := by decide +kernel
theorem dX8_manyAt_43 : decode cX8_manyAt 43 = .ok (.ireturn, 1) := by decide +kernel
theorem dX8_sumOf_0 : decode cX8_sumOf 0 = .ok (.iconst 0, 1) := by decide +kernel
theorem dX8_sumOf_1 : decode cX8_sumOf 1 = .ok (.istore_n 2, 1) := by decide +kernel
theorem dX8_sumOf_2 : decode cX8_sumOf 2 = .ok (.iconst 0, 1) := by decide +kernel
theorem dX8_sumOf_3 : decode cX8_sumOf 3 = .ok (.istore_n 3, 1) := by decide +kernel
theorem dX8_sumOf_4 : decode cX8_sumOf 4 = .ok (.iload_n 3, 1) := by decide +kernel
theorem dX8_sumOf_5 : decode cX8_sumOf 5 = .ok (.aload_n 0, 1) := by decide +kernel
theorem dX8_sumOf_6 : decode cX8_sumOf 6 = .ok (.getfield 13, 3) := by decide +kernel
theorem dX8_sumOf_9 : decode cX8_sumOf 9 = .ok (.bipush 24, 2) := by decide +kernel
theorem dX8_sumOf_11 : decode cX8_sumOf 11 = .ok (.iaload, 1) := by decide +kernel
theorem dX8_sumOf_12 : decode cX8_sumOf 12 = .ok (.if_icmp .ge 18, 3) := by decide +kernel
theorem dX8_sumOf_15 : decode cX8_sumOf 15 = .ok (.iload_n 2, 1) := by decide +kernel
theorem dX8_sumOf_16 : decode cX8_sumOf 16 = .ok (.aload_n 0, 1) := by decide +kernel
theorem dX8_sumOf_17 : decode cX8_sumOf 17 = .ok (.iload_n 3, 1) := by decide +kernel
theorem dX8_sumOf_18 : decode cX8_sumOf 18 = .ok (.iload_n 1, 1) := by decide +kernel
theorem dX8_sumOf_19 : decode cX8_sumOf 19 = .ok (.invokevirtual 144, 3) := by decide +kernel
theorem dX8_sumOf_22 : decode cX8_sumOf 22 = .ok (.iadd, 1) := by decide +kernel
theorem dX8_sumOf_23 : decode cX8_sumOf 23 = .ok (.istore_n 2, 1) := by decide +kernel
theorem dX8_sumOf_24 : decode cX8_sumOf 24 = .ok (.iinc 3 1, 3) := by decide +kernel
theorem dX8_sumOf_27 : decode cX8_sumOf 27 = .ok (.goto (-23), 3) := by decide +kernel
theorem dX8_sumOf_30 : decode cX8_sumOf 30 = .ok (.iload_n 2, 1) := by decide +kernel
theorem dX8_sumOf_31 : decode cX8_sumOf 31 = .ok (.ireturn, 1) := by decide +kernel
theorem dX8_scrubs_0 : decode cX8_scrubs 0 = .ok (.aload_n 0, 1) := by decide +kernel
theorem dX8_scrubs_1 : decode cX8_scrubs 1 = .ok (.getfield 13, 3) := by decide +kernel
theorem dX8_scrubs_4 : decode cX8_scrubs 4 = .ok (.bipush 25, 2) := by decide +kernel
theorem dX8_scrubs_6 : decode cX8_scrubs 6 = .ok (.iaload, 1) := by decide +kernel
theorem dX8_scrubs_7 : decode cX8_scrubs 7 = .ok (.istore_n 2, 1) := by decide +kernel
theorem dX8_scrubs_8 : decode cX8_scrubs 8 = .ok (.aload_n 0, 1) := by decide +kernel
theorem dX8_scrubs_9 : decode cX8_scrubs 9 = .ok (.iload_n 1, 1) := by decide +kernel
theorem dX8_scrubs_10 : decode cX8_scrubs 10 = .ok (.iconst 0, 1) := by decide +kernel
theorem dX8_scrubs_11 : decode cX8_scrubs 11 = .ok (.invokevirtual 144, 3) := by decide +kernel
theorem dX8_scrubs_14 : decode cX8_scrubs 14 = .ok (.istore_n 3, 1) := by decide +kernel
theorem dX8_scrubs_15 : decode cX8_scrubs 15 = .ok (.iload_n 3, 1) := by decide +kernel
theorem dX8_scrubs_16 : decode cX8_scrubs 16 = .ok (.iconst 1, 1) := by decide +kernel
theorem dX8_scrubs_17 : decode cX8_scrubs 17 = .ok (.if_icmp .ne 9, 3) := by decide +kernel
theorem dX8_scrubs_20 : decode cX8_scrubs 20 = .ok (.iload_n 2, 1) := by decide +kernel
theorem dX8_scrubs_21 : decode cX8_scrubs 21 = .ok (.iconst 2, 1) := by decide +kernel
theorem dX8_scrubs_22 : decode cX8_scrubs 22 = .ok (.idiv, 1) := by decide +kernel
theorem dX8_scrubs_23 : decode cX8_scrubs 23 = .ok (.goto 19, 3) := by decide +kernel
theorem dX8_scrubs_26 : decode cX8_scrubs 26 = .ok (.iload_n 3, 1) := by decide +kernel
theorem dX8_scrubs_27 : decode cX8_scrubs 27 = .ok (.iconst 3, 1) := by decide +kernel
theorem dX8_scrubs_28 : decode cX8_scrubs 28 = .ok (.if_icmp .ne 13, 3) := by decide +kernel
theorem dX8_scrubs_31 : decode cX8_scrubs 31 = .ok (.iload_n 2, 1) := by decide +kernel
theorem dX8_scrubs_32 : decode cX8_scrubs 32 = .ok (.iconst 2, 1) := by decide +kernel
theorem dX8_scrubs_33 : decode cX8_scrubs 33 = .ok (.idiv, 1) := by decide +kernel
theorem dX8_scrubs_34 : decode cX8_scrubs 34 = .ok (.iconst 1, 1) := by decide +kernel
theorem dX8_scrubs_35 : decode cX8_scrubs 35 = .ok (.invokestatic 151, 3) := by decide +kernel
theorem dX8_scrubs_38 : decode cX8_scrubs 38 = .ok (.goto 4, 3) := by decide +kernel
theorem dX8_scrubs_41 : decode cX8_scrubs 41 = .ok (.iload_n 2, 1) := by decide +kernel
theorem dX8_scrubs_42 : decode cX8_scrubs 42 = .ok (.ireturn, 1) := by decide +kernel
theorem dX8_dries_0 : decode cX8_dries 0 = .ok (.aload_n 0, 1) := by decide +kernel
theorem dX8_dries_1 : decode cX8_dries 1 = .ok (.iload_n 1, 1) := by decide +kernel
theorem dX8_dries_2 : decode cX8_dries 2 = .ok (.iconst 0, 1) := by decide +kernel
theorem dX8_dries_3 : decode cX8_dries 3 = .ok (.invokevirtual 144, 3) := by decide +kernel
theorem dX8_dries_6 : decode cX8_dries 6 = .ok (.istore_n 3, 1) := by decide +kernel
theorem dX8_dries_7 : decode cX8_dries 7 = .ok (.iload_n 3, 1) := by decide +kernel
theorem dX8_dries_8 : decode cX8_dries 8 = .ok (.iconst 2, 1) := by decide +kernel
theorem dX8_dries_9 : decode cX8_dries 9 = .ok (.if_icmp .ne 9, 3) := by decide +kernel
theorem dX8_dries_12 : decode cX8_dries 12 = .ok (.iload_n 2, 1) := by decide +kernel
theorem dX8_dries_13 : decode cX8_dries 13 = .ok (.iconst 2, 1) := by decide +kernel
theorem dX8_dries_14 : decode cX8_dries 14 = .ok (.idiv, 1) := by decide +kernel
theorem dX8_dries_15 : decode cX8_dries 15 = .ok (.goto 15, 3) := by decide +kernel
theorem dX8_dries_18 : decode cX8_dries 18 = .ok (.iload_n 3, 1) := by decide +kernel
theorem dX8_dries_19 : decode cX8_dries 19 = .ok (.iconst 3, 1) := by decide +kernel
theorem dX8_dries_20 : decode cX8_dries 20 = .ok (.if_icmp .ne 9, 3) := by decide +kernel
theorem dX8_dries_23 : decode cX8_dries 23 = .ok (.iconst 2, 1) := by decide +kernel
theorem dX8_dries_24 : decode cX8_dries 24 = .ok (.iload_n 2, 1) := by decide +kernel
theorem dX8_dries_25 : decode cX8_dries 25 = .ok (.imul, 1) := by decide +kernel
theorem dX8_dries_26 : decode cX8_dries 26 = .ok (.goto 4, 3) := by decide +kernel
theorem dX8_dries_29 : decode cX8_dries 29 = .ok (.iload_n 2, 1) := by decide +kernel
theorem dX8_dries_30 : decode cX8_dries 30 = .ok (.ireturn, 1) := by decide +kernel
theorem dX8_boils_0 : decode cX8_boils 0 = .ok (.aload_n 0, 1) := by decide +kernel
theorem dX8_boils_1 : decode cX8_boils 1 = .ok (.iconst 0, 1) := by decide +kernel
theorem dX8_boils_2 : decode cX8_boils 2 = .ok (.invokevirtual 154, 3) := by decide +kernel
theorem dX8_boils_5 : decode cX8_boils 5 = .ok (.istore_n 1, 1) := by decide +kernel
theorem dX8_boils_6 : decode cX8_boils 6 = .ok (.iconst 0, 1) := by decide +kernel
theorem dX8_boils_7 : decode cX8_boils 7 = .ok (.istore_n 2, 1) := by decide +kernel
theorem dX8_boils_8 : decode cX8_boils 8 = .ok (.iconst 0, 1) := by decide +kernel
theorem dX8_boils_9 : decode cX8_boils 9 = .ok (.istore_n 3, 1) := by decide +kernel
theorem dX8_boils_10 : decode cX8_boils 10 = .ok (.iload_n 3, 1) := by decide +kernel
theorem dX8_boils_11 : decode cX8_boils 11 = .ok (.aload_n 0, 1) := by decide +kernel
theorem dX8_boils_12 : decode cX8_boils 12 = .ok (.getfield 13, 3) := by decide +kernel
theorem dX8_boils_15 : decode cX8_boils 15 = .ok (.bipush 24, 2) := by decide +kernel
theorem dX8_boils_17 : decode cX8_boils 17 = .ok (.iaload, 1) := by decide +kernel
theorem dX8_boils_18 : decode cX8_boils 18 = .ok (.if_icmp .ge 91, 3) := by decide +kernel
theorem dX8_boils_21 : decode cX8_boils 21 = .ok (.iload_n 1, 1) := by decide +kernel
theorem dX8_boils_22 : decode cX8_boils 22 = .ok (.iload_n 3, 1) := by decide +kernel
theorem dX8_boils_23 : decode cX8_boils 23 = .ok (.ishr, 1) := by decide +kernel
theorem dX8_boils_24 : decode cX8_boils 24 = .ok (.iconst 1, 1) := by decide +kernel
theorem dX8_boils_25 : decode cX8_boils 25 = .ok (.iand, 1) := by decide +kernel
theorem dX8_boils_26 : decode cX8_boils 26 = .ok (.iconst 1, 1) := by decide +kernel
theorem dX8_boils_27 : decode cX8_boils 27 = .ok (.if_icmp .ne 76, 3) := by decide +kernel
theorem dX8_boils_30 : decode cX8_boils 30 = .ok (.iload_n 2, 1) := by decide +kernel
theorem dX8_boils_31 : decode cX8_boils 31 = .ok (.aload_n 0, 1) := by decide +kernel
theorem dX8_boils_32 : decode cX8_boils 32 = .ok (.getfield 13, 3) := by decide +kernel
theorem dX8_boils_35 : decode cX8_boils 35 = .ok (.bipush 26, 2) := by decide +kernel
theorem dX8_boils_37 : decode cX8_boils 37 = .ok (.iaload, 1) := by decide +kernel
theorem dX8_boils_38 : decode cX8_boils 38 = .ok (.if_icmp .ge 65, 3) := by decide +kernel
theorem dX8_boils_41 : decode cX8_boils 41 = .ok (.iinc 2 1, 3) := by decide +kernel
theorem dX8_boils_44 : decode cX8_boils 44 = .ok (.aload_n 0, 1) := by decide +kernel
theorem dX8_boils_45 : decode cX8_boils 45 = .ok (.iload_n 3, 1) := by decide +kernel
theorem dX8_boils_46 : decode cX8_boils 46 = .ok (.iconst 1, 1) := by decide +kernel
theorem dX8_boils_47 : decode cX8_boils 47 = .ok (.aload_n 0, 1) := by decide +kernel
theorem dX8_boils_48 : decode cX8_boils 48 = .ok (.iload_n 3, 1) := by decide +kernel
theorem dX8_boils_49 : decode cX8_boils 49 = .ok (.iconst 1, 1) := by decide +kernel
theorem dX8_boils_50 : decode cX8_boils 50 = .ok (.invokevirtual 144, 3) := by decide +kernel
theorem dX8_boils_53 : decode cX8_boils 53 = .ok (.aload_n 0, 1) := by decide +kernel
theorem dX8_boils_54 : decode cX8_boils 54 = .ok (.iload_n 3, 1) := by decide +kernel
theorem dX8_boils_55 : decode cX8_boils 55 = .ok (.invokevirtual 157, 3) := by decide +kernel
theorem dX8_boils_58 : decode cX8_boils 58 = .ok (.invokestatic 151, 3) := by decide +kernel
theorem dX8_boils_61 : decode cX8_boils 61 = .ok (.invokevirtual 160, 3) := by decide +kernel
theorem dX8_boils_64 : decode cX8_boils 64 = .ok (.aload_n 0, 1) := by decide +kernel
theorem dX8_boils_65 : decode cX8_boils 65 = .ok (.iload_n 3, 1) := by decide +kernel
theorem dX8_boils_66 : decode cX8_boils 66 = .ok (.iconst 2, 1) := by decide +kernel
theorem dX8_boils_67 : decode cX8_boils 67 = .ok (.aload_n 0, 1) := by decide +kernel
theorem dX8_boils_68 : decode cX8_boils 68 = .ok (.getfield 13, 3) := by decide +kernel
theorem dX8_boils_71 : decode cX8_boils 71 = .ok (.bipush 29, 2) := by decide +kernel
theorem dX8_boils_73 : decode cX8_boils 73 = .ok (.iaload, 1) := by decide +kernel
theorem dX8_boils_74 : decode cX8_boils 74 = .ok (.invokevirtual 160, 3) := by decide +kernel
theorem dX8_boils_77 : decode cX8_boils 77 = .ok (.aload_n 0, 1) := by decide +kernel
theorem dX8_boils_78 : decode cX8_boils 78 = .ok (.iload_n 3, 1) := by decide +kernel
theorem dX8_boils_79 : decode cX8_boils 79 = .ok (.iconst 3, 1) := by decide +kernel
theorem dX8_boils_80 : decode cX8_boils 80 = .ok (.aload_n 0, 1) := by decide +kernel
theorem dX8_boils_81 : decode cX8_boils 81 = .ok (.iconst 1, 1) := by decide +kernel
theorem dX8_boils_82 : decode cX8_boils 82 = .ok (.invokevirtual 164, 3) := by decide +kernel
theorem dX8_boils_85 : decode cX8_boils 85 = .ok (.aload_n 0, 1) := by decide +kernel
theorem dX8_boils_86 : decode cX8_boils 86 = .ok (.getfield 13, 3) := by decide +kernel
theorem dX8_boils_89 : decode cX8_boils 89 = .ok (.bipush 27, 2) := by decide +kernel
theorem dX8_boils_91 : decode cX8_boils 91 = .ok (.iaload, 1) := by decide +kernel
theorem dX8_boils_92 : decode cX8_boils 92 = .ok (.if_icmp .ge 7, 3) := by decide +kernel
theorem dX8_boils_95 : decode cX8_boils 95 = .ok (.iconst 1, 1) := by decide +kernel
theorem dX8_boils_96 : decode cX8_boils 96 = .ok (.goto 4, 3) := by decide +kernel
theorem dX8_boils_99 : decode cX8_boils 99 = .ok (.iconst 0, 1) := by decide +kernel
theorem dX8_boils_100 : decode cX8_boils 100 = .ok (.invokevirtual 160, 3) := by decide +kernel
theorem dX8_boils_103 : decode cX8_boils 103 = .ok (.iinc 3 1, 3) := by decide +kernel
theorem dX8_boils_106 : decode cX8_boils 106 = .ok (.goto (-96), 3) := by decide +kernel
theorem dX8_boils_109 : decode cX8_boils 109 = .ok (.aload_n 0, 1) := by decide +kernel
theorem dX8_boils_110 : decode cX8_boils 110 = .ok (.dup, 1) := by decide +kernel
theorem dX8_boils_111 : decode cX8_boils 111 = .ok (.getfield 138, 3) := by decide +kernel
theorem dX8_boils_114 : decode cX8_boils 114 = .ok (.iload_n 2, 1) := by decide +kernel
theorem dX8_boils_115 : decode cX8_boils 115 = .ok (.iadd, 1) := by decide +kernel
theorem dX8_boils_116 : decode cX8_boils 116 = .ok (.putfield 138, 3) := by decide +kernel
theorem dX8_boils_119 : decode cX8_boils 119 = .ok (.return_, 1) := by decide +kernel
theorem dX8_hangs_0 : decode cX8_hangs 0 = .ok (.aload_n 0, 1) := by decide +kernel
theorem dX8_hangs_1 : decode cX8_hangs 1 = .ok (.iload_n 1, 1) := by decide +kernel
theorem dX8_hangs_2 : decode cX8_hangs 2 = .ok (.iconst 2, 1) := by decide +kernel
theorem dX8_hangs_3 : decode cX8_hangs 3 = .ok (.aload_n 0, 1) := by decide +kernel
theorem dX8_hangs_4 : decode cX8_hangs 4 = .ok (.iload_n 1, 1) := by decide +kernel
theorem dX8_hangs_5 : decode cX8_hangs 5 = .ok (.iconst 2, 1) := by decide +kernel
theorem dX8_hangs_6 : decode cX8_hangs 6 = .ok (.invokevirtual 144, 3) := by decide +kernel
theorem dX8_hangs_9 : decode cX8_hangs 9 = .ok (.aload_n 0, 1) := by decide +kernel
theorem dX8_hangs_10 : decode cX8_hangs 10 = .ok (.iload_n 1, 1) := by decide +kernel
theorem dX8_hangs_11 : decode cX8_hangs 11 = .ok (.iload_n 2, 1) := by decide +kernel
theorem dX8_hangs_12 : decode cX8_hangs 12 = .ok (.invokevirtual 167, 3) := by decide +kernel
theorem dX8_hangs_15 : decode cX8_hangs 15 = .ok (.invokestatic 151, 3) := by decide +kernel
theorem dX8_hangs_18 : decode cX8_hangs 18 = .ok (.invokevirtual 160, 3) := by decide +kernel
theorem dX8_hangs_21 : decode cX8_hangs 21 = .ok (.aload_n 0, 1) := by decide +kernel
theorem dX8_hangs_22 : decode cX8_hangs 22 = .ok (.iload_n 1, 1) := by decide +kernel
theorem dX8_hangs_23 : decode cX8_hangs 23 = .ok (.iconst 1, 1) := by decide +kernel
theorem dX8_hangs_24 : decode cX8_hangs 24 = .ok (.aload_n 0, 1) := by decide +kernel
theorem dX8_hangs_25 : decode cX8_hangs 25 = .ok (.iload_n 1, 1) := by decide +kernel
theorem dX8_hangs_26 : decode cX8_hangs 26 = .ok (.iconst 1, 1) := by decide +kernel
theorem dX8_hangs_27 : decode cX8_hangs 27 = .ok (.invokevirtual 144, 3) := by decide +kernel
theorem dX8_hangs_30 : decode cX8_hangs 30 = .ok (.iload_n 2, 1) := by decide +kernel
theorem dX8_hangs_31 : decode cX8_hangs 31 = .ok (.iconst 5, 1) := by decide +kernel
theorem dX8_hangs_32 : decode cX8_hangs 32 = .ok (.if_icmp .lt 7, 3) := by decide +kernel
theorem dX8_hangs_35 : decode cX8_hangs 35 = .ok (.iconst 1, 1) := by decide +kernel
theorem dX8_hangs_36 : decode cX8_hangs 36 = .ok (.goto 4, 3) := by decide +kernel
theorem dX8_hangs_39 : decode cX8_hangs 39 = .ok (.iconst 0, 1) := by decide +kernel
theorem dX8_hangs_40 : decode cX8_hangs 40 = .ok (.invokestatic 147, 3) := by decide +kernel
theorem dX8_hangs_43 : decode cX8_hangs 43 = .ok (.invokestatic 151, 3) := by decide +kernel
theorem dX8_hangs_46 : decode cX8_hangs 46 = .ok (.invokevirtual 160, 3) := by decide +kernel
theorem dX8_hangs_49 : decode cX8_hangs 49 = .ok (.aload_n 0, 1) := by decide +kernel
theorem dX8_hangs_50 : decode cX8_hangs 50 = .ok (.iload_n 1, 1) := by decide +kernel
theorem dX8_hangs_51 : decode cX8_hangs 51 = .ok (.iconst 2, 1) := by decide +kernel
theorem dX8_hangs_52 : decode cX8_hangs 52 = .ok (.invokevirtual 144, 3) := by decide +kernel
theorem dX8_hangs_55 : decode cX8_hangs 55 = .ok (.ifCond .ne 53, 3) := by decide +kernel
theorem dX8_hangs_58 : decode cX8_hangs 58 = .ok (.aload_n 0, 1) := by decide +kernel
theorem dX8_hangs_59 : decode cX8_hangs 59 = .ok (.iload_n 1, 1) := by decide +kernel
theorem dX8_hangs_60 : decode cX8_hangs 60 = .ok (.iconst 1, 1) := by decide +kernel
theorem dX8_hangs_61 : decode cX8_hangs 61 = .ok (.invokevirtual 144, 3) := by decide +kernel
theorem dX8_hangs_64 : decode cX8_hangs 64 = .ok (.aload_n 0, 1) := by decide +kernel
theorem dX8_hangs_65 : decode cX8_hangs 65 = .ok (.getfield 13, 3) := by decide +kernel
theorem dX8_hangs_68 : decode cX8_hangs 68 = .ok (.bipush 28, 2) := by decide +kernel
theorem dX8_hangs_70 : decode cX8_hangs 70 = .ok (.iaload, 1) := by decide +kernel
theorem dX8_hangs_71 : decode cX8_hangs 71 = .ok (.if_icmp .gt 7, 3) := by decide +kernel
theorem dX8_hangs_74 : decode cX8_hangs 74 = .ok (.iconst 1, 1) := by decide +kernel
theorem dX8_hangs_75 : decode cX8_hangs 75 = .ok (.goto 4, 3) := by decide +kernel
theorem dX8_hangs_78 : decode cX8_hangs 78 = .ok (.iconst 0, 1) := by decide +kernel
theorem dX8_hangs_79 : decode cX8_hangs 79 = .ok (.istore_n 3, 1) := by decide +kernel
theorem dX8_hangs_80 : decode cX8_hangs 80 = .ok (.aload_n 0, 1) := by decide +kernel
theorem dX8_hangs_81 : decode cX8_hangs 81 = .ok (.iload_n 1, 1) := by decide +kernel
theorem dX8_hangs_82 : decode cX8_hangs 82 = .ok (.iconst 3, 1) := by decide +kernel
theorem dX8_hangs_83 : decode cX8_hangs 83 = .ok (.iload_n 3, 1) := by decide +kernel
theorem dX8_hangs_84 : decode cX8_hangs 84 = .ok (.ifCond .eq 7, 3) := by decide +kernel
theorem dX8_hangs_87 : decode cX8_hangs 87 = .ok (.iconst 2, 1) := by decide +kernel
theorem dX8_hangs_88 : decode cX8_hangs 88 = .ok (.goto 4, 3) := by decide +kernel
theorem dX8_hangs_91 : decode cX8_hangs 91 = .ok (.iconst 0, 1) := by decide +kernel
theorem dX8_hangs_92 : decode cX8_hangs 92 = .ok (.invokevirtual 160, 3) := by decide +kernel
theorem dX8_hangs_95 : decode cX8_hangs 95 = .ok (.aload_n 0, 1) := by decide +kernel
theorem dX8_hangs_96 : decode cX8_hangs 96 = .ok (.dup, 1) := by decide +kernel
theorem dX8_hangs_97 : decode cX8_hangs 97 = .ok (.getfield 141, 3) := by decide +kernel
theorem dX8_hangs_100 : decode cX8_hangs 100 = .ok (.iload_n 3, 1) := by decide +kernel
theorem dX8_hangs_101 : decode cX8_hangs 101 = .ok (.invokestatic 147, 3) := by decide +kernel
theorem dX8_hangs_104 : decode cX8_hangs 104 = .ok (.iadd, 1) := by decide +kernel
theorem dX8_hangs_105 : decode cX8_hangs 105 = .ok (.putfield 141, 3) := by decide +kernel
theorem dX8_hangs_108 : decode cX8_hangs 108 = .ok (.return_, 1) := by decide +kernel
theorem dX8_dayGoesBy_0 : decode cX8_dayGoesBy 0 = .ok (.aload_n 0, 1) := by decide +kernel
theorem dX8_dayGoesBy_1 : decode cX8_dayGoesBy 1 = .ok (.invokevirtual 170, 3) := by decide +kernel
theorem dX8_dayGoesBy_4 : decode cX8_dayGoesBy 4 = .ok (.iconst 0, 1) := by decide +kernel
theorem dX8_dayGoesBy_5 : decode cX8_dayGoesBy 5 = .ok (.istore_n 2, 1) := by decide +kernel
theorem dX8_dayGoesBy_6 : decode cX8_dayGoesBy 6 = .ok (.iload_n 2, 1) := by decide +kernel
theorem dX8_dayGoesBy_7 : decode cX8_dayGoesBy 7 = .ok (.aload_n 0, 1) := by decide +kernel
theorem dX8_dayGoesBy_8 : decode cX8_dayGoesBy 8 = .ok (.getfield 13, 3) := by decide +kernel
theorem dX8_dayGoesBy_11 : decode cX8_dayGoesBy 11 = .ok (.bipush 24, 2) := by decide +kernel
theorem dX8_dayGoesBy_13 : decode cX8_dayGoesBy 13 = .ok (.iaload, 1) := by decide +kernel
theorem dX8_dayGoesBy_14 : decode cX8_dayGoesBy 14 = .ok (.if_icmp .ge 25, 3) := by decide +kernel
theorem dX8_dayGoesBy_17 : decode cX8_dayGoesBy 17 = .ok (.aload_n 0, 1) := by decide +kernel
theorem dX8_dayGoesBy_18 : decode cX8_dayGoesBy 18 = .ok (.iload_n 2, 1) := by decide +kernel
theorem dX8_dayGoesBy_19 : decode cX8_dayGoesBy 19 = .ok (.iconst 3, 1) := by decide +kernel
theorem dX8_dayGoesBy_20 : decode cX8_dayGoesBy 20 = .ok (.invokevirtual 144, 3) := by decide +kernel
theorem dX8_dayGoesBy_23 : decode cX8_dayGoesBy 23 = .ok (.iconst 1, 1) := by decide +kernel
theorem dX8_dayGoesBy_24 : decode cX8_dayGoesBy 24 = .ok (.if_icmp .ne 9, 3) := by decide +kernel
theorem dX8_dayGoesBy_27 : decode cX8_dayGoesBy 27 = .ok (.aload_n 0, 1) := by decide +kernel
theorem dX8_dayGoesBy_28 : decode cX8_dayGoesBy 28 = .ok (.iload_n 2, 1) := by decide +kernel
theorem dX8_dayGoesBy_29 : decode cX8_dayGoesBy 29 = .ok (.iload_n 1, 1) := by decide +kernel
theorem dX8_dayGoesBy_30 : decode cX8_dayGoesBy 30 = .ok (.invokevirtual 173, 3) := by decide +kernel
theorem dX8_dayGoesBy_33 : decode cX8_dayGoesBy 33 = .ok (.iinc 2 1, 3) := by decide +kernel
theorem dX8_dayGoesBy_36 : decode cX8_dayGoesBy 36 = .ok (.goto (-30), 3) := by decide +kernel
theorem dX8_dayGoesBy_39 : decode cX8_dayGoesBy 39 = .ok (.aload_n 0, 1) := by decide +kernel
theorem dX8_dayGoesBy_40 : decode cX8_dayGoesBy 40 = .ok (.getfield 13, 3) := by decide +kernel
theorem dX8_dayGoesBy_43 : decode cX8_dayGoesBy 43 = .ok (.bipush 37, 2) := by decide +kernel
theorem dX8_dayGoesBy_45 : decode cX8_dayGoesBy 45 = .ok (.dup2, 1) := by decide +kernel
theorem dX8_dayGoesBy_46 : decode cX8_dayGoesBy 46 = .ok (.iaload, 1) := by decide +kernel
theorem dX8_dayGoesBy_47 : decode cX8_dayGoesBy 47 = .ok (.iconst 1, 1) := by decide +kernel
theorem dX8_dayGoesBy_48 : decode cX8_dayGoesBy 48 = .ok (.iadd, 1) := by decide +kernel
theorem dX8_dayGoesBy_49 : decode cX8_dayGoesBy 49 = .ok (.iastore, 1) := by decide +kernel
theorem dX8_dayGoesBy_50 : decode cX8_dayGoesBy 50 = .ok (.return_, 1) := by decide +kernel
theorem dX8_sunNow_0 : decode cX8_sunNow 0 = .ok (.aload_n 0, 1) := by decide +kernel
theorem dX8_sunNow_1 : decode cX8_sunNow 1 = .ok (.getfield 13, 3) := by decide +kernel
theorem dX8_sunNow_4 : decode cX8_sunNow 4 = .ok (.bipush 30, 2) := by decide +kernel
theorem dX8_sunNow_6 : decode cX8_sunNow 6 = .ok (.aload_n 0, 1) := by decide +kernel
theorem dX8_sunNow_7 : decode cX8_sunNow 7 = .ok (.getfield 13, 3) := by decide +kernel
theorem dX8_sunNow_10 : decode cX8_sunNow 10 = .ok (.bipush 37, 2) := by decide +kernel
theorem dX8_sunNow_12 : decode cX8_sunNow 12 = .ok (.iaload, 1) := by decide +kernel
theorem dX8_sunNow_13 : decode cX8_sunNow 13 = .ok (.bipush 7, 2) := by decide +kernel
theorem dX8_sunNow_15 : decode cX8_sunNow 15 = .ok (.irem, 1) := by decide +kernel
theorem dX8_sunNow_16 : decode cX8_sunNow 16 = .ok (.iadd, 1) := by decide +kernel
theorem dX8_sunNow_17 : decode cX8_sunNow 17 = .ok (.iaload, 1) := by decide +kernel
theorem dX8_sunNow_18 : decode cX8_sunNow 18 = .ok (.ireturn, 1) := by decide +kernel
theorem dX8_daysGo_0 : decode cX8_daysGo 0 = .ok (.iconst 0, 1) := by decide +kernel
theorem dX8_daysGo_1 : decode cX8_daysGo 1 = .ok (.istore_n 2, 1) := by decide +kernel
theorem dX8_daysGo_2 : decode cX8_daysGo 2 = .ok (.iload_n 2, 1) := by decide +kernel
theorem dX8_daysGo_3 : decode cX8_daysGo 3 = .ok (.iload_n 1, 1) := by decide +kernel
theorem dX8_daysGo_4 : decode cX8_daysGo 4 = .ok (.if_icmp .ge 17, 3) := by decide +kernel
theorem dX8_daysGo_7 : decode cX8_daysGo 7 = .ok (.aload_n 0, 1) := by decide +kernel
theorem dX8_daysGo_8 : decode cX8_daysGo 8 = .ok (.aload_n 0, 1) := by decide +kernel
theorem dX8_daysGo_9 : decode cX8_daysGo 9 = .ok (.invokevirtual 177, 3) := by decide +kernel
theorem dX8_daysGo_12 : decode cX8_daysGo 12 = .ok (.invokevirtual 180, 3) := by decide +kernel
theorem dX8_daysGo_15 : decode cX8_daysGo 15 = .ok (.iinc 2 1, 3) := by decide +kernel
theorem dX8_daysGo_18 : decode cX8_daysGo 18 = .ok (.goto (-16), 3) := by decide +kernel
theorem dX8_daysGo_21 : decode cX8_daysGo 21 = .ok (.return_, 1) := by decide +kernel
theorem dX8_isDone_0 : decode cX8_isDone 0 = .ok (.aload_n 0, 1) := by decide +kernel
theorem dX8_isDone_1 : decode cX8_isDone 1 = .ok (.iconst 2, 1) := by decide +kernel
theorem dX8_isDone_2 : decode cX8_isDone 2 = .ok (.invokevirtual 164, 3) := by decide +kernel
theorem dX8_isDone_5 : decode cX8_isDone 5 = .ok (.aload_n 0, 1) := by decide +kernel
theorem dX8_isDone_6 : decode cX8_isDone 6 = .ok (.getfield 13, 3) := by decide +kernel
theorem dX8_isDone_9 : decode cX8_isDone 9 = .ok (.bipush 24, 2) := by decide +kernel
theorem dX8_isDone_11 : decode cX8_isDone 11 = .ok (.iaload, 1) := by decide +kernel
theorem dX8_isDone_12 : decode cX8_isDone 12 = .ok (.if_icmp .ne 7, 3) := by decide +kernel
theorem dX8_isDone_15 : decode cX8_isDone 15 = .ok (.iconst 1, 1) := by decide +kernel
theorem dX8_isDone_16 : decode cX8_isDone 16 = .ok (.goto 4, 3) := by decide +kernel
theorem dX8_isDone_19 : decode cX8_isDone 19 = .ok (.iconst 0, 1) := by decide +kernel
theorem dX8_isDone_20 : decode cX8_isDone 20 = .ok (.ireturn, 1) := by decide +kernel
theorem dX8_rule_0 : decode cX8_rule 0 = .ok (.aload_n 0, 1) := by decide +kernel
theorem dX8_rule_1 : decode cX8_rule 1 = .ok (.invokevirtual 183, 3) := by decide +kernel
theorem dX8_rule_4 : decode cX8_rule 4 = .ok (.iload_n 1, 1) := by decide +kernel
theorem dX8_rule_5 : decode cX8_rule 5 = .ok (.tableswitch 88 0 6 #[43, 51, 59, 65, 71, 77, 83], 43) := by decide +kernel
theorem dX8_rule_48 : decode cX8_rule 48 = .ok (.aload_n 0, 1) := by decide +kernel
theorem dX8_rule_49 : decode cX8_rule 49 = .ok (.getfield 7, 3) := by decide +kernel
theorem dX8_rule_52 : decode cX8_rule 52 = .ok (.bipush 24, 2) := by decide +kernel
theorem dX8_rule_54 : decode cX8_rule 54 = .ok (.iaload, 1) := by decide +kernel
theorem dX8_rule_55 : decode cX8_rule 55 = .ok (.ireturn, 1) := by decide +kernel
theorem dX8_rule_56 : decode cX8_rule 56 = .ok (.aload_n 0, 1) := by decide +kernel
theorem dX8_rule_57 : decode cX8_rule 57 = .ok (.getfield 7, 3) := by decide +kernel
theorem dX8_rule_60 : decode cX8_rule 60 = .ok (.bipush 37, 2) := by decide +kernel
theorem dX8_rule_62 : decode cX8_rule 62 = .ok (.iaload, 1) := by decide +kernel
theorem dX8_rule_63 : decode cX8_rule 63 = .ok (.ireturn, 1) := by decide +kernel
theorem dX8_rule_64 : decode cX8_rule 64 = .ok (.aload_n 0, 1) := by decide +kernel
theorem dX8_rule_65 : decode cX8_rule 65 = .ok (.iconst 0, 1) := by decide +kernel
theorem dX8_rule_66 : decode cX8_rule 66 = .ok (.invokevirtual 154, 3) := by decide +kernel
theorem dX8_rule_69 : decode cX8_rule 69 = .ok (.ireturn, 1) := by decide +kernel
theorem dX8_rule_70 : decode cX8_rule 70 = .ok (.aload_n 0, 1) := by decide +kernel
theorem dX8_rule_71 : decode cX8_rule 71 = .ok (.iconst 1, 1) := by decide +kernel
theorem dX8_rule_72 : decode cX8_rule 72 = .ok (.invokevirtual 154, 3) := by decide +kernel
theorem dX8_rule_75 : decode cX8_rule 75 = .ok (.ireturn, 1) := by decide +kernel
theorem dX8_rule_76 : decode cX8_rule 76 = .ok (.aload_n 0, 1) := by decide +kernel
theorem dX8_rule_77 : decode cX8_rule 77 = .ok (.iconst 2, 1) := by decide +kernel
theorem dX8_rule_78 : decode cX8_rule 78 = .ok (.invokevirtual 154, 3) := by decide +kernel
theorem dX8_rule_81 : decode cX8_rule 81 = .ok (.ireturn, 1) := by decide +kernel
theorem dX8_rule_82 : decode cX8_rule 82 = .ok (.aload_n 0, 1) := by decide +kernel
theorem dX8_rule_83 : decode cX8_rule 83 = .ok (.iconst 1, 1) := by decide +kernel
theorem dX8_rule_84 : decode cX8_rule 84 = .ok (.invokevirtual 186, 3) := by decide +kernel
theorem dX8_rule_87 : decode cX8_rule 87 = .ok (.ireturn, 1) := by decide +kernel
theorem dX8_rule_88 : decode cX8_rule 88 = .ok (.aload_n 0, 1) := by decide +kernel
theorem dX8_rule_89 : decode cX8_rule 89 = .ok (.invokevirtual 177, 3) := by decide +kernel
theorem dX8_rule_92 : decode cX8_rule 92 = .ok (.ireturn, 1) := by decide +kernel
theorem dX8_rule_93 : decode cX8_rule 93 = .ok (.iconst (-1), 1) := by decide +kernel
theorem dX8_rule_94 : decode cX8_rule 94 = .ok (.ireturn, 1) := by decide +kernel
theorem dX8_told_0 : decode cX8_told 0 = .ok (.iload_n 1, 1) := by decide +kernel
theorem dX8_told_1 : decode cX8_told 1 = .ok (.i2l, 1) := by decide +kernel
theorem dX8_told_2 : decode cX8_told 2 = .ok (.lconst 0, 1) := by decide +kernel
theorem dX8_told_3 : decode cX8_told 3 = .ok (.ldc2_w 189, 3) := by decide +kernel
theorem dX8_told_6 : decode cX8_told 6 = .ok (.invokestatic 59, 3) := by decide +kernel
theorem dX8_told_9 : decode cX8_told 9 = .ok (.ifCond .eq 15, 3) := by decide +kernel
theorem dX8_told_12 : decode cX8_told 12 = .ok (.aload_n 0, 1) := by decide +kernel
theorem dX8_told_13 : decode cX8_told 13 = .ok (.getfield 7, 3) := by decide +kernel
theorem dX8_told_16 : decode cX8_told 16 = .ok (.bipush 25, 2) := by decide +kernel
theorem dX8_told_18 : decode cX8_told 18 = .ok (.iload_n 1, 1) := by decide +kernel
theorem dX8_told_19 : decode cX8_told 19 = .ok (.iadd, 1) := by decide +kernel
theorem dX8_told_20 : decode cX8_told 20 = .ok (.iaload, 1) := by decide +kernel
theorem dX8_told_21 : decode cX8_told 21 = .ok (.goto 4, 3) := by decide +kernel
theorem dX8_told_24 : decode cX8_told 24 = .ok (.iconst (-1), 1) := by decide +kernel
theorem dX8_told_25 : decode cX8_told 25 = .ok (.ireturn, 1) := by decide +kernel
theorem dX8_one_0 : decode cX8_one 0 = .ok (.aload_n 0, 1) := by decide +kernel
theorem dX8_one_1 : decode cX8_one 1 = .ok (.iload_n 1, 1) := by decide +kernel
theorem dX8_one_2 : decode cX8_one 2 = .ok (.invokevirtual 191, 3) := by decide +kernel
theorem dX8_one_5 : decode cX8_one 5 = .ok (.ifCond .ne 5, 3) := by decide +kernel
theorem dX8_one_8 : decode cX8_one 8 = .ok (.iconst (-1), 1) := by decide +kernel
theorem dX8_one_9 : decode cX8_one 9 = .ok (.ireturn, 1) := by decide +kernel
theorem dX8_one_10 : decode cX8_one 10 = .ok (.aload_n 0, 1) := by decide +kernel
theorem dX8_one_11 : decode cX8_one 11 = .ok (.invokevirtual 183, 3) := by decide +kernel
theorem dX8_one_14 : decode cX8_one 14 = .ok (.iload_n 2, 1) := by decide +kernel
theorem dX8_one_15 : decode cX8_one 15 = .ok (.tableswitch 60 0 5 #[37, 37, 37, 37, 44, 50], 37) := by decide +kernel
theorem dX8_one_52 : decode cX8_one 52 = .ok (.aload_n 0, 1) := by decide +kernel
theorem dX8_one_53 : decode cX8_one 53 = .ok (.iload_n 1, 1) := by decide +kernel
theorem dX8_one_54 : decode cX8_one 54 = .ok (.iload_n 2, 1) := by decide +kernel
theorem dX8_one_55 : decode cX8_one 55 = .ok (.invokevirtual 144, 3) := by decide +kernel
theorem dX8_one_58 : decode cX8_one 58 = .ok (.ireturn, 1) := by decide +kernel
theorem dX8_one_59 : decode cX8_one 59 = .ok (.aload_n 0, 1) := by decide +kernel
theorem dX8_one_60 : decode cX8_one 60 = .ok (.iload_n 1, 1) := by decide +kernel
theorem dX8_one_61 : decode cX8_one 61 = .ok (.invokevirtual 157, 3) := by decide +kernel
theorem dX8_one_64 : decode cX8_one 64 = .ok (.ireturn, 1) := by decide +kernel
theorem dX8_one_65 : decode cX8_one 65 = .ok (.aload_n 0, 1) := by decide +kernel
theorem dX8_one_66 : decode cX8_one 66 = .ok (.iload_n 1, 1) := by decide +kernel
theorem dX8_one_67 : decode cX8_one 67 = .ok (.aload_n 0, 1) := by decide +kernel
theorem dX8_one_68 : decode cX8_one 68 = .ok (.invokevirtual 177, 3) := by decide +kernel
theorem dX8_one_71 : decode cX8_one 71 = .ok (.invokevirtual 167, 3) := by decide +kernel
theorem dX8_one_74 : decode cX8_one 74 = .ok (.ireturn, 1) := by decide +kernel
theorem dX8_one_75 : decode cX8_one 75 = .ok (.iconst (-1), 1) := by decide +kernel
theorem dX8_one_76 : decode cX8_one 76 = .ok (.ireturn, 1) := by decide +kernel
theorem dX8_sun_0 : decode cX8_sun 0 = .ok (.iload_n 1, 1) := by decide +kernel
theorem dX8_sun_1 : decode cX8_sun 1 = .ok (.i2l, 1) := by decide +kernel
theorem dX8_sun_2 : decode cX8_sun 2 = .ok (.lconst 0, 1) := by decide +kernel
theorem dX8_sun_3 : decode cX8_sun 3 = .ok (.ldc2_w 195, 3) := by decide +kernel
theorem dX8_sun_6 : decode cX8_sun 6 = .ok (.invokestatic 59, 3) := by decide +kernel
theorem dX8_sun_9 : decode cX8_sun 9 = .ok (.ifCond .eq 15, 3) := by decide +kernel
theorem dX8_sun_12 : decode cX8_sun 12 = .ok (.aload_n 0, 1) := by decide +kernel
theorem dX8_sun_13 : decode cX8_sun 13 = .ok (.getfield 7, 3) := by decide +kernel
theorem dX8_sun_16 : decode cX8_sun 16 = .ok (.bipush 30, 2) := by decide +kernel
theorem dX8_sun_18 : decode cX8_sun 18 = .ok (.iload_n 1, 1) := by decide +kernel
theorem dX8_sun_19 : decode cX8_sun 19 = .ok (.iadd, 1) := by decide +kernel
theorem dX8_sun_20 : decode cX8_sun 20 = .ok (.iaload, 1) := by decide +kernel
theorem dX8_sun_21 : decode cX8_sun 21 = .ok (.goto 4, 3) := by decide +kernel
theorem dX8_sun_24 : decode cX8_sun 24 = .ok (.iconst (-1), 1) := by decide +kernel
theorem dX8_sun_25 : decode cX8_sun 25 = .ok (.ireturn, 1) := by decide +kernel
theorem dX8_becomes_0 : decode cX8_becomes 0 = .ok (.aload_n 0, 1) := by decide +kernel
theorem dX8_becomes_1 : decode cX8_becomes 1 = .ok (.getfield 7, 3) := by decide +kernel
theorem dX8_becomes_4 : decode cX8_becomes 4 = .ok (.iload_n 1, 1) := by decide +kernel
theorem dX8_becomes_5 : decode cX8_becomes 5 = .ok (.iaload, 1) := by decide +kernel
theorem dX8_becomes_6 : decode cX8_becomes 6 = .ok (.istore_n 3, 1) := by decide +kernel
theorem dX8_becomes_7 : decode cX8_becomes 7 = .ok (.aload_n 0, 1) := by decide +kernel
theorem dX8_becomes_8 : decode cX8_becomes 8 = .ok (.getfield 7, 3) := by decide +kernel
theorem dX8_becomes_11 : decode cX8_becomes 11 = .ok (.iload_n 1, 1) := by decide +kernel
theorem dX8_becomes_12 : decode cX8_becomes 12 = .ok (.iload_n 2, 1) := by decide +kernel
theorem dX8_becomes_13 : decode cX8_becomes 13 = .ok (.iastore, 1) := by decide +kernel
theorem dX8_becomes_14 : decode cX8_becomes 14 = .ok (.iload_n 3, 1) := by decide +kernel
theorem dX8_becomes_15 : decode cX8_becomes 15 = .ok (.ireturn, 1) := by decide +kernel
theorem dX8_alter_0 : decode cX8_alter 0 = .ok (.iload_n 2, 1) := by decide +kernel
theorem dX8_alter_1 : decode cX8_alter 1 = .ok (.ifCond .ne 15, 3) := by decide +kernel
theorem dX8_alter_4 : decode cX8_alter 4 = .ok (.iload_n 3, 1) := by decide +kernel
theorem dX8_alter_5 : decode cX8_alter 5 = .ok (.i2l, 1) := by decide +kernel
theorem dX8_alter_6 : decode cX8_alter 6 = .ok (.lconst 0, 1) := by decide +kernel
theorem dX8_alter_7 : decode cX8_alter 7 = .ok (.ldc2_w 197, 3) := by decide +kernel
theorem dX8_alter_10 : decode cX8_alter 10 = .ok (.invokestatic 59, 3) := by decide +kernel
theorem dX8_alter_13 : decode cX8_alter 13 = .ok (.goto 42, 3) := by decide +kernel
theorem dX8_alter_16 : decode cX8_alter 16 = .ok (.iload_n 2, 1) := by decide +kernel
theorem dX8_alter_17 : decode cX8_alter 17 = .ok (.iconst 1, 1) := by decide +kernel
theorem dX8_alter_18 : decode cX8_alter 18 = .ok (.if_icmp .ne 15, 3) := by decide +kernel
theorem dX8_alter_21 : decode cX8_alter 21 = .ok (.iload_n 3, 1) := by decide +kernel
theorem dX8_alter_22 : decode cX8_alter 22 = .ok (.i2l, 1) := by decide +kernel
theorem dX8_alter_23 : decode cX8_alter 23 = .ok (.lconst 0, 1) := by decide +kernel
theorem dX8_alter_24 : decode cX8_alter 24 = .ok (.ldc2_w 199, 3) := by decide +kernel
theorem dX8_alter_27 : decode cX8_alter 27 = .ok (.invokestatic 59, 3) := by decide +kernel
theorem dX8_alter_30 : decode cX8_alter 30 = .ok (.goto 25, 3) := by decide +kernel
theorem dX8_alter_33 : decode cX8_alter 33 = .ok (.iload_n 2, 1) := by decide +kernel
theorem dX8_alter_34 : decode cX8_alter 34 = .ok (.iconst 2, 1) := by decide +kernel
theorem dX8_alter_35 : decode cX8_alter 35 = .ok (.if_icmp .ne 19, 3) := by decide +kernel
theorem dX8_alter_38 : decode cX8_alter 38 = .ok (.iload_n 3, 1) := by decide +kernel
theorem dX8_alter_39 : decode cX8_alter 39 = .ok (.i2l, 1) := by decide +kernel
theorem dX8_alter_40 : decode cX8_alter 40 = .ok (.lconst 0, 1) := by decide +kernel
theorem dX8_alter_41 : decode cX8_alter 41 = .ok (.ldc2_w 201, 3) := by decide +kernel
theorem dX8_alter_44 : decode cX8_alter 44 = .ok (.invokestatic 59, 3) := by decide +kernel
theorem dX8_alter_47 : decode cX8_alter 47 = .ok (.ifCond .eq 7, 3) := by decide +kernel
theorem dX8_alter_50 : decode cX8_alter 50 = .ok (.iconst 1, 1) := by decide +kernel
theorem dX8_alter_51 : decode cX8_alter 51 = .ok (.goto 4, 3) := by decide +kernel
theorem dX8_alter_54 : decode cX8_alter 54 = .ok (.iconst 0, 1) := by decide +kernel
theorem dX8_alter_55 : decode cX8_alter 55 = .ok (.istore 4, 2) := by decide +kernel
theorem dX8_alter_57 : decode cX8_alter 57 = .ok (.aload_n 0, 1) := by decide +kernel
theorem dX8_alter_58 : decode cX8_alter 58 = .ok (.iload_n 1, 1) := by decide +kernel
theorem dX8_alter_59 : decode cX8_alter 59 = .ok (.invokevirtual 191, 3) := by decide +kernel
theorem dX8_alter_62 : decode cX8_alter 62 = .ok (.ifCond .eq 21, 3) := by decide +kernel
theorem dX8_alter_65 : decode cX8_alter 65 = .ok (.iload 4, 2) := by decide +kernel
theorem dX8_alter_67 : decode cX8_alter 67 = .ok (.ifCond .eq 16, 3) := by decide +kernel
theorem dX8_alter_70 : decode cX8_alter 70 = .ok (.aload_n 0, 1) := by decide +kernel
theorem dX8_alter_71 : decode cX8_alter 71 = .ok (.iconst 4, 1) := by decide +kernel
theorem dX8_alter_72 : decode cX8_alter 72 = .ok (.iload_n 1, 1) := by decide +kernel
theorem dX8_alter_73 : decode cX8_alter 73 = .ok (.imul, 1) := by decide +kernel
theorem dX8_alter_74 : decode cX8_alter 74 = .ok (.iload_n 2, 1) := by decide +kernel
theorem dX8_alter_75 : decode cX8_alter 75 = .ok (.iadd, 1) := by decide +kernel
theorem dX8_alter_76 : decode cX8_alter 76 = .ok (.iload_n 3, 1) := by decide +kernel
theorem dX8_alter_77 : decode cX8_alter 77 = .ok (.invokevirtual 203, 3) := by decide +kernel
theorem dX8_alter_80 : decode cX8_alter 80 = .ok (.goto 4, 3) := by decide +kernel
theorem dX8_alter_83 : decode cX8_alter 83 = .ok (.iconst (-1), 1) := by decide +kernel
theorem dX8_alter_84 : decode cX8_alter 84 = .ok (.ireturn, 1) := by decide +kernel
theorem dX8_set_0 : decode cX8_set 0 = .ok (.iload_n 1, 1) := by decide +kernel
theorem dX8_set_1 : decode cX8_set 1 = .ok (.i2l, 1) := by decide +kernel
theorem dX8_set_2 : decode cX8_set 2 = .ok (.lconst 0, 1) := by decide +kernel
theorem dX8_set_3 : decode cX8_set 3 = .ok (.ldc2_w 189, 3) := by decide +kernel
theorem dX8_set_6 : decode cX8_set 6 = .ok (.invokestatic 59, 3) := by decide +kernel
theorem dX8_set_9 : decode cX8_set 9 = .ok (.ifCond .eq 33, 3) := by decide +kernel
theorem dX8_set_12 : decode cX8_set 12 = .ok (.iload_n 2, 1) := by decide +kernel
theorem dX8_set_13 : decode cX8_set 13 = .ok (.i2l, 1) := by decide +kernel
theorem dX8_set_14 : decode cX8_set 14 = .ok (.iload_n 1, 1) := by decide +kernel
theorem dX8_set_15 : decode cX8_set 15 = .ok (.invokestatic 122, 3) := by decide +kernel
theorem dX8_set_18 : decode cX8_set 18 = .ok (.i2l, 1) := by decide +kernel
theorem dX8_set_19 : decode cX8_set 19 = .ok (.iload_n 1, 1) := by decide +kernel
theorem dX8_set_20 : decode cX8_set 20 = .ok (.invokestatic 125, 3) := by decide +kernel
theorem dX8_set_23 : decode cX8_set 23 = .ok (.i2l, 1) := by decide +kernel
theorem dX8_set_24 : decode cX8_set 24 = .ok (.invokestatic 59, 3) := by decide +kernel
theorem dX8_set_27 : decode cX8_set 27 = .ok (.ifCond .eq 15, 3) := by decide +kernel
theorem dX8_set_30 : decode cX8_set 30 = .ok (.aload_n 0, 1) := by decide +kernel
theorem dX8_set_31 : decode cX8_set 31 = .ok (.bipush 25, 2) := by decide +kernel
theorem dX8_set_33 : decode cX8_set 33 = .ok (.iload_n 1, 1) := by decide +kernel
theorem dX8_set_34 : decode cX8_set 34 = .ok (.iadd, 1) := by decide +kernel
theorem dX8_set_35 : decode cX8_set 35 = .ok (.iload_n 2, 1) := by decide +kernel
theorem dX8_set_36 : decode cX8_set 36 = .ok (.invokevirtual 203, 3) := by decide +kernel
theorem dX8_set_39 : decode cX8_set 39 = .ok (.goto 4, 3) := by decide +kernel
theorem dX8_set_42 : decode cX8_set 42 = .ok (.iconst (-1), 1) := by decide +kernel
theorem dX8_set_43 : decode cX8_set 43 = .ok (.ireturn, 1) := by decide +kernel
theorem dX8_shine_0 : decode cX8_shine 0 = .ok (.iload_n 1, 1) := by decide +kernel
theorem dX8_shine_1 : decode cX8_shine 1 = .ok (.i2l, 1) := by decide +kernel
theorem dX8_shine_2 : decode cX8_shine 2 = .ok (.lconst 0, 1) := by decide +kernel
theorem dX8_shine_3 : decode cX8_shine 3 = .ok (.ldc2_w 195, 3) := by decide +kernel
theorem dX8_shine_6 : decode cX8_shine 6 = .ok (.invokestatic 59, 3) := by decide +kernel
theorem dX8_shine_9 : decode cX8_shine 9 = .ok (.ifCond .eq 27, 3) := by decide +kernel
theorem dX8_shine_12 : decode cX8_shine 12 = .ok (.iload_n 2, 1) := by decide +kernel
theorem dX8_shine_13 : decode cX8_shine 13 = .ok (.i2l, 1) := by decide +kernel
theorem dX8_shine_14 : decode cX8_shine 14 = .ok (.lconst 0, 1) := by decide +kernel
theorem dX8_shine_15 : decode cX8_shine 15 = .ok (.ldc2_w 206, 3) := by decide +kernel
theorem dX8_shine_18 : decode cX8_shine 18 = .ok (.invokestatic 59, 3) := by decide +kernel
theorem dX8_shine_21 : decode cX8_shine 21 = .ok (.ifCond .eq 15, 3) := by decide +kernel
theorem dX8_shine_24 : decode cX8_shine 24 = .ok (.aload_n 0, 1) := by decide +kernel
theorem dX8_shine_25 : decode cX8_shine 25 = .ok (.bipush 30, 2) := by decide +kernel
theorem dX8_shine_27 : decode cX8_shine 27 = .ok (.iload_n 1, 1) := by decide +kernel
theorem dX8_shine_28 : decode cX8_shine 28 = .ok (.iadd, 1) := by decide +kernel
theorem dX8_shine_29 : decode cX8_shine 29 = .ok (.iload_n 2, 1) := by decide +kernel
theorem dX8_shine_30 : decode cX8_shine 30 = .ok (.invokevirtual 203, 3) := by decide +kernel
theorem dX8_shine_33 : decode cX8_shine 33 = .ok (.goto 4, 3) := by decide +kernel
theorem dX8_shine_36 : decode cX8_shine 36 = .ok (.iconst (-1), 1) := by decide +kernel
theorem dX8_shine_37 : decode cX8_shine 37 = .ok (.ireturn, 1) := by decide +kernel
theorem dX8_bring_0 : decode cX8_bring 0 = .ok (.iload_n 1, 1) := by decide +kernel
theorem dX8_bring_1 : decode cX8_bring 1 = .ok (.i2l, 1) := by decide +kernel
theorem dX8_bring_2 : decode cX8_bring 2 = .ok (.lconst 0, 1) := by decide +kernel
theorem dX8_bring_3 : decode cX8_bring 3 = .ok (.ldc2_w 197, 3) := by decide +kernel
theorem dX8_bring_6 : decode cX8_bring 6 = .ok (.invokestatic 59, 3) := by decide +kernel
theorem dX8_bring_9 : decode cX8_bring 9 = .ok (.ifCond .eq 15, 3) := by decide +kernel
theorem dX8_bring_12 : decode cX8_bring 12 = .ok (.iload_n 2, 1) := by decide +kernel
theorem dX8_bring_13 : decode cX8_bring 13 = .ok (.i2l, 1) := by decide +kernel
theorem dX8_bring_14 : decode cX8_bring 14 = .ok (.lconst 0, 1) := by decide +kernel
theorem dX8_bring_15 : decode cX8_bring 15 = .ok (.ldc2_w 199, 3) := by decide +kernel
theorem dX8_bring_18 : decode cX8_bring 18 = .ok (.invokestatic 59, 3) := by decide +kernel
theorem dX8_bring_21 : decode cX8_bring 21 = .ok (.ifCond .ne 5, 3) := by decide +kernel
theorem dX8_bring_24 : decode cX8_bring 24 = .ok (.iconst (-1), 1) := by decide +kernel
theorem dX8_bring_25 : decode cX8_bring 25 = .ok (.ireturn, 1) := by decide +kernel
theorem dX8_bring_26 : decode cX8_bring 26 = .ok (.aload_n 0, 1) := by decide +kernel
theorem dX8_bring_27 : decode cX8_bring 27 = .ok (.getfield 7, 3) := by decide +kernel
theorem dX8_bring_30 : decode cX8_bring 30 = .ok (.bipush 24, 2) := by decide +kernel
theorem dX8_bring_32 : decode cX8_bring 32 = .ok (.iaload, 1) := by decide +kernel
theorem dX8_bring_33 : decode cX8_bring 33 = .ok (.bipush 6, 2) := by decide +kernel
theorem dX8_bring_35 : decode cX8_bring 35 = .ok (.if_icmp .ne 6, 3) := by decide +kernel
theorem dX8_bring_38 : decode cX8_bring 38 = .ok (.bipush (-3), 2) := by decide +kernel
theorem dX8_bring_40 : decode cX8_bring 40 = .ok (.ireturn, 1) := by decide +kernel
theorem dX8_bring_41 : decode cX8_bring 41 = .ok (.iconst 4, 1) := by decide +kernel
theorem dX8_bring_42 : decode cX8_bring 42 = .ok (.aload_n 0, 1) := by decide +kernel
theorem dX8_bring_43 : decode cX8_bring 43 = .ok (.getfield 7, 3) := by decide +kernel
theorem dX8_bring_46 : decode cX8_bring 46 = .ok (.bipush 24, 2) := by decide +kernel
theorem dX8_bring_48 : decode cX8_bring 48 = .ok (.iaload, 1) := by decide +kernel
theorem dX8_bring_49 : decode cX8_bring 49 = .ok (.imul, 1) := by decide +kernel
theorem dX8_bring_50 : decode cX8_bring 50 = .ok (.istore_n 3, 1) := by decide +kernel
theorem dX8_bring_51 : decode cX8_bring 51 = .ok (.aload_n 0, 1) := by decide +kernel
theorem dX8_bring_52 : decode cX8_bring 52 = .ok (.getfield 7, 3) := by decide +kernel
theorem dX8_bring_55 : decode cX8_bring 55 = .ok (.iload_n 3, 1) := by decide +kernel
theorem dX8_bring_56 : decode cX8_bring 56 = .ok (.iconst 0, 1) := by decide +kernel
theorem dX8_bring_57 : decode cX8_bring 57 = .ok (.iadd, 1) := by decide +kernel
theorem dX8_bring_58 : decode cX8_bring 58 = .ok (.iload_n 1, 1) := by decide +kernel
theorem dX8_bring_59 : decode cX8_bring 59 = .ok (.iastore, 1) := by decide +kernel
theorem dX8_bring_60 : decode cX8_bring 60 = .ok (.aload_n 0, 1) := by decide +kernel
theorem dX8_bring_61 : decode cX8_bring 61 = .ok (.getfield 7, 3) := by decide +kernel
theorem dX8_bring_64 : decode cX8_bring 64 = .ok (.iload_n 3, 1) := by decide +kernel
theorem dX8_bring_65 : decode cX8_bring 65 = .ok (.iconst 1, 1) := by decide +kernel
theorem dX8_bring_66 : decode cX8_bring 66 = .ok (.iadd, 1) := by decide +kernel
theorem dX8_bring_67 : decode cX8_bring 67 = .ok (.iload_n 2, 1) := by decide +kernel
theorem dX8_bring_68 : decode cX8_bring 68 = .ok (.iastore, 1) := by decide +kernel
theorem dX8_bring_69 : decode cX8_bring 69 = .ok (.aload_n 0, 1) := by decide +kernel
theorem dX8_bring_70 : decode cX8_bring 70 = .ok (.getfield 7, 3) := by decide +kernel
theorem dX8_bring_73 : decode cX8_bring 73 = .ok (.iload_n 3, 1) := by decide +kernel
theorem dX8_bring_74 : decode cX8_bring 74 = .ok (.iconst 2, 1) := by decide +kernel
theorem dX8_bring_75 : decode cX8_bring 75 = .ok (.iadd, 1) := by decide +kernel
theorem dX8_bring_76 : decode cX8_bring 76 = .ok (.iconst 0, 1) := by decide +kernel
theorem dX8_bring_77 : decode cX8_bring 77 = .ok (.iastore, 1) := by decide +kernel
theorem dX8_bring_78 : decode cX8_bring 78 = .ok (.aload_n 0, 1) := by decide +kernel
theorem dX8_bring_79 : decode cX8_bring 79 = .ok (.getfield 7, 3) := by decide +kernel
theorem dX8_bring_82 : decode cX8_bring 82 = .ok (.iload_n 3, 1) := by decide +kernel
theorem dX8_bring_83 : decode cX8_bring 83 = .ok (.iconst 3, 1) := by decide +kernel
theorem dX8_bring_84 : decode cX8_bring 84 = .ok (.iadd, 1) := by decide +kernel
theorem dX8_bring_85 : decode cX8_bring 85 = .ok (.iconst 0, 1) := by decide +kernel
theorem dX8_bring_86 : decode cX8_bring 86 = .ok (.iastore, 1) := by decide +kernel
theorem dX8_bring_87 : decode cX8_bring 87 = .ok (.aload_n 0, 1) := by decide +kernel
theorem dX8_bring_88 : decode cX8_bring 88 = .ok (.getfield 7, 3) := by decide +kernel
theorem dX8_bring_91 : decode cX8_bring 91 = .ok (.bipush 24, 2) := by decide +kernel
theorem dX8_bring_93 : decode cX8_bring 93 = .ok (.dup2, 1) := by decide +kernel
theorem dX8_bring_94 : decode cX8_bring 94 = .ok (.iaload, 1) := by decide +kernel
theorem dX8_bring_95 : decode cX8_bring 95 = .ok (.iconst 1, 1) := by decide +kernel
theorem dX8_bring_96 : decode cX8_bring 96 = .ok (.iadd, 1) := by decide +kernel
theorem dX8_bring_97 : decode cX8_bring 97 = .ok (.iastore, 1) := by decide +kernel
theorem dX8_bring_98 : decode cX8_bring 98 = .ok (.aload_n 0, 1) := by decide +kernel
theorem dX8_bring_99 : decode cX8_bring 99 = .ok (.getfield 7, 3) := by decide +kernel
theorem dX8_bring_102 : decode cX8_bring 102 = .ok (.bipush 24, 2) := by decide +kernel
theorem dX8_bring_104 : decode cX8_bring 104 = .ok (.iaload, 1) := by decide +kernel
theorem dX8_bring_105 : decode cX8_bring 105 = .ok (.ireturn, 1) := by decide +kernel
theorem dX8_fetch_0 : decode cX8_fetch 0 = .ok (.aload_n 0, 1) := by decide +kernel
theorem dX8_fetch_1 : decode cX8_fetch 1 = .ok (.iload_n 1, 1) := by decide +kernel
theorem dX8_fetch_2 : decode cX8_fetch 2 = .ok (.invokevirtual 191, 3) := by decide +kernel
theorem dX8_fetch_5 : decode cX8_fetch 5 = .ok (.ifCond .ne 5, 3) := by decide +kernel
theorem dX8_fetch_8 : decode cX8_fetch 8 = .ok (.iconst (-1), 1) := by decide +kernel
theorem dX8_fetch_9 : decode cX8_fetch 9 = .ok (.ireturn, 1) := by decide +kernel
theorem dX8_fetch_10 : decode cX8_fetch 10 = .ok (.aload_n 0, 1) := by decide +kernel
theorem dX8_fetch_11 : decode cX8_fetch 11 = .ok (.iconst 4, 1) := by decide +kernel
theorem dX8_fetch_12 : decode cX8_fetch 12 = .ok (.iload_n 1, 1) := by decide +kernel
theorem dX8_fetch_13 : decode cX8_fetch 13 = .ok (.imul, 1) := by decide +kernel
theorem dX8_fetch_14 : decode cX8_fetch 14 = .ok (.iconst 3, 1) := by decide +kernel
theorem dX8_fetch_15 : decode cX8_fetch 15 = .ok (.iadd, 1) := by decide +kernel
theorem dX8_fetch_16 : decode cX8_fetch 16 = .ok (.iconst 0, 1) := by decide +kernel
theorem dX8_fetch_17 : decode cX8_fetch 17 = .ok (.invokevirtual 203, 3) := by decide +kernel
theorem dX8_fetch_20 : decode cX8_fetch 20 = .ok (.istore_n 2, 1) := by decide +kernel
theorem dX8_fetch_21 : decode cX8_fetch 21 = .ok (.iload_n 2, 1) := by decide +kernel
theorem dX8_fetch_22 : decode cX8_fetch 22 = .ok (.ifCond .ne 8, 3) := by decide +kernel
theorem dX8_fetch_25 : decode cX8_fetch 25 = .ok (.bipush (-2), 2) := by decide +kernel
theorem dX8_fetch_27 : decode cX8_fetch 27 = .ok (.goto 4, 3) := by decide +kernel
theorem dX8_fetch_30 : decode cX8_fetch 30 = .ok (.iload_n 2, 1) := by decide +kernel
theorem dX8_fetch_31 : decode cX8_fetch 31 = .ok (.ireturn, 1) := by decide +kernel
theorem dX8_days_0 : decode cX8_days 0 = .ok (.iload_n 1, 1) := by decide +kernel
theorem dX8_days_1 : decode cX8_days 1 = .ok (.i2l, 1) := by decide +kernel
theorem dX8_days_2 : decode cX8_days 2 = .ok (.lconst 0, 1) := by decide +kernel
theorem dX8_days_3 : decode cX8_days 3 = .ok (.ldc2_w 208, 3) := by decide +kernel
theorem dX8_days_6 : decode cX8_days 6 = .ok (.invokestatic 59, 3) := by decide +kernel
theorem dX8_days_9 : decode cX8_days 9 = .ok (.ifCond .ne 5, 3) := by decide +kernel
theorem dX8_days_12 : decode cX8_days 12 = .ok (.iconst (-1), 1) := by decide +kernel
theorem dX8_days_13 : decode cX8_days 13 = .ok (.ireturn, 1) := by decide +kernel
theorem dX8_days_14 : decode cX8_days 14 = .ok (.aload_n 0, 1) := by decide +kernel
theorem dX8_days_15 : decode cX8_days 15 = .ok (.getfield 7, 3) := by decide +kernel
theorem dX8_days_18 : decode cX8_days 18 = .ok (.bipush 37, 2) := by decide +kernel
theorem dX8_days_20 : decode cX8_days 20 = .ok (.iaload, 1) := by decide +kernel
theorem dX8_days_21 : decode cX8_days 21 = .ok (.iload_n 1, 1) := by decide +kernel
theorem dX8_days_22 : decode cX8_days 22 = .ok (.iadd, 1) := by decide +kernel
theorem dX8_days_23 : decode cX8_days 23 = .ok (.sipush 999, 3) := by decide +kernel
theorem dX8_days_26 : decode cX8_days 26 = .ok (.if_icmp .le 6, 3) := by decide +kernel
theorem dX8_days_29 : decode cX8_days 29 = .ok (.bipush (-3), 2) := by decide +kernel
theorem dX8_days_31 : decode cX8_days 31 = .ok (.ireturn, 1) := by decide +kernel
theorem dX8_days_32 : decode cX8_days 32 = .ok (.aload_n 0, 1) := by decide +kernel
theorem dX8_days_33 : decode cX8_days 33 = .ok (.invokevirtual 183, 3) := by decide +kernel
theorem dX8_days_36 : decode cX8_days 36 = .ok (.aload_n 0, 1) := by decide +kernel
theorem dX8_days_37 : decode cX8_days 37 = .ok (.iload_n 1, 1) := by decide +kernel
theorem dX8_days_38 : decode cX8_days 38 = .ok (.invokevirtual 210, 3) := by decide +kernel
theorem dX8_days_41 : decode cX8_days 41 = .ok (.aload_n 0, 1) := by decide +kernel
theorem dX8_days_42 : decode cX8_days 42 = .ok (.invokevirtual 213, 3) := by decide +kernel
theorem dX8_days_45 : decode cX8_days 45 = .ok (.aload_n 0, 1) := by decide +kernel
theorem dX8_days_46 : decode cX8_days 46 = .ok (.getfield 141, 3) := by decide +kernel
theorem dX8_days_49 : decode cX8_days 49 = .ok (.ireturn, 1) := by decide +kernel
theorem dX8_isFar_0 : decode cX8_isFar 0 = .ok (.iload_n 0, 1) := by decide +kernel
theorem dX8_isFar_1 : decode cX8_isFar 1 = .ok (.i2l, 1) := by decide +kernel
theorem dX8_isFar_2 : decode cX8_isFar 2 = .ok (.lconst 0, 1) := by decide +kernel
theorem dX8_isFar_3 : decode cX8_isFar 3 = .ok (.ldc2_w 199, 3) := by decide +kernel
theorem dX8_isFar_6 : decode cX8_isFar 6 = .ok (.invokestatic 59, 3) := by decide +kernel
theorem dX8_isFar_9 : decode cX8_isFar 9 = .ok (.ireturn, 1) := by decide +kernel
theorem dX8_runs_0 : decode cX8_runs 0 = .ok (.iload_n 1, 1) := by decide +kernel
theorem dX8_runs_1 : decode cX8_runs 1 = .ok (.invokestatic 216, 3) := by decide +kernel
theorem dX8_runs_4 : decode cX8_runs 4 = .ok (.ifCond .eq 15, 3) := by decide +kernel
theorem dX8_runs_7 : decode cX8_runs 7 = .ok (.iload_n 2, 1) := by decide +kernel
theorem dX8_runs_8 : decode cX8_runs 8 = .ok (.i2l, 1) := by decide +kernel
theorem dX8_runs_9 : decode cX8_runs 9 = .ok (.lconst 0, 1) := by decide +kernel
theorem dX8_runs_10 : decode cX8_runs 10 = .ok (.ldc2_w 189, 3) := by decide +kernel
theorem dX8_runs_13 : decode cX8_runs 13 = .ok (.invokestatic 59, 3) := by decide +kernel
theorem dX8_runs_16 : decode cX8_runs 16 = .ok (.ifCond .ne 5, 3) := by decide +kernel
theorem dX8_runs_19 : decode cX8_runs 19 = .ok (.iconst (-1), 1) := by decide +kernel
theorem dX8_runs_20 : decode cX8_runs 20 = .ok (.ireturn, 1) := by decide +kernel
theorem dX8_runs_21 : decode cX8_runs 21 = .ok (.iconst 0, 1) := by decide +kernel
theorem dX8_runs_22 : decode cX8_runs 22 = .ok (.istore_n 3, 1) := by decide +kernel
theorem dX8_runs_23 : decode cX8_runs 23 = .ok (.aload_n 0, 1) := by decide +kernel
theorem dX8_runs_24 : decode cX8_runs 24 = .ok (.invokevirtual 183, 3) := by decide +kernel
theorem dX8_runs_27 : decode cX8_runs 27 = .ok (.iconst 0, 1) := by decide +kernel
theorem dX8_runs_28 : decode cX8_runs 28 = .ok (.istore 4, 2) := by decide +kernel
theorem dX8_runs_30 : decode cX8_runs 30 = .ok (.iload 4, 2) := by decide +kernel
theorem dX8_runs_32 : decode cX8_runs 32 = .ok (.iload_n 1, 1) := by decide +kernel
theorem dX8_runs_33 : decode cX8_runs 33 = .ok (.if_icmp .ge 40, 3) := by decide +kernel
theorem dX8_runs_36 : decode cX8_runs 36 = .ok (.aload_n 0, 1) := by decide +kernel
theorem dX8_runs_37 : decode cX8_runs 37 = .ok (.getfield 138, 3) := by decide +kernel
theorem dX8_runs_40 : decode cX8_runs 40 = .ok (.istore 5, 2) := by decide +kernel
theorem dX8_runs_42 : decode cX8_runs 42 = .ok (.aload_n 0, 1) := by decide +kernel
theorem dX8_runs_43 : decode cX8_runs 43 = .ok (.iconst 1, 1) := by decide +kernel
theorem dX8_runs_44 : decode cX8_runs 44 = .ok (.invokevirtual 210, 3) := by decide +kernel
theorem dX8_runs_47 : decode cX8_runs 47 = .ok (.iload_n 3, 1) := by decide +kernel
theorem dX8_runs_48 : decode cX8_runs 48 = .ok (.aload_n 0, 1) := by decide +kernel
theorem dX8_runs_49 : decode cX8_runs 49 = .ok (.getfield 138, 3) := by decide +kernel
theorem dX8_runs_52 : decode cX8_runs 52 = .ok (.iload 5, 2) := by decide +kernel
theorem dX8_runs_54 : decode cX8_runs 54 = .ok (.if_icmp .ne 7, 3) := by decide +kernel
theorem dX8_runs_57 : decode cX8_runs 57 = .ok (.iconst 1, 1) := by decide +kernel
theorem dX8_runs_58 : decode cX8_runs 58 = .ok (.goto 4, 3) := by decide +kernel
theorem dX8_runs_61 : decode cX8_runs 61 = .ok (.iconst 0, 1) := by decide +kernel
theorem dX8_runs_62 : decode cX8_runs 62 = .ok (.invokestatic 147, 3) := by decide +kernel
theorem dX8_runs_65 : decode cX8_runs 65 = .ok (.iadd, 1) := by decide +kernel
theorem dX8_runs_66 : decode cX8_runs 66 = .ok (.istore_n 3, 1) := by decide +kernel
theorem dX8_runs_67 : decode cX8_runs 67 = .ok (.iinc 4 1, 3) := by decide +kernel
theorem dX8_runs_70 : decode cX8_runs 70 = .ok (.goto (-40), 3) := by decide +kernel
theorem dX8_runs_73 : decode cX8_runs 73 = .ok (.iload_n 2, 1) := by decide +kernel
theorem dX8_runs_74 : decode cX8_runs 74 = .ok (.tableswitch 53 0 3 #[30, 36, 42, 48], 30) := by decide +kernel
theorem dX8_runs_104 : decode cX8_runs 104 = .ok (.aload_n 0, 1) := by decide +kernel
theorem dX8_runs_105 : decode cX8_runs 105 = .ok (.iconst 2, 1) := by decide +kernel
theorem dX8_runs_106 : decode cX8_runs 106 = .ok (.invokevirtual 164, 3) := by decide +kernel
theorem dX8_runs_109 : decode cX8_runs 109 = .ok (.ireturn, 1) := by decide +kernel
theorem dX8_runs_110 : decode cX8_runs 110 = .ok (.aload_n 0, 1) := by decide +kernel
theorem dX8_runs_111 : decode cX8_runs 111 = .ok (.iconst 1, 1) := by decide +kernel
theorem dX8_runs_112 : decode cX8_runs 112 = .ok (.invokevirtual 186, 3) := by decide +kernel
theorem dX8_runs_115 : decode cX8_runs 115 = .ok (.ireturn, 1) := by decide +kernel
theorem dX8_runs_116 : decode cX8_runs 116 = .ok (.aload_n 0, 1) := by decide +kernel
theorem dX8_runs_117 : decode cX8_runs 117 = .ok (.iconst 1, 1) := by decide +kernel
theorem dX8_runs_118 : decode cX8_runs 118 = .ok (.invokevirtual 154, 3) := by decide +kernel
theorem dX8_runs_121 : decode cX8_runs 121 = .ok (.ireturn, 1) := by decide +kernel
theorem dX8_runs_122 : decode cX8_runs 122 = .ok (.aload_n 0, 1) := by decide +kernel
theorem dX8_runs_123 : decode cX8_runs 123 = .ok (.getfield 138, 3) := by decide +kernel
theorem dX8_runs_126 : decode cX8_runs 126 = .ok (.ireturn, 1) := by decide +kernel
theorem dX8_runs_127 : decode cX8_runs 127 = .ok (.iload_n 3, 1) := by decide +kernel
theorem dX8_runs_128 : decode cX8_runs 128 = .ok (.ireturn, 1) := by decide +kernel
theorem dX8_ahead_0 : decode cX8_ahead 0 = .ok (.aload_n 0, 1) := by decide +kernel
theorem dX8_ahead_1 : decode cX8_ahead 1 = .ok (.iload_n 1, 1) := by decide +kernel
theorem dX8_ahead_2 : decode cX8_ahead 2 = .ok (.invokevirtual 191, 3) := by decide +kernel
theorem dX8_ahead_5 : decode cX8_ahead 5 = .ok (.ifCond .eq 22, 3) := by decide +kernel
theorem dX8_ahead_8 : decode cX8_ahead 8 = .ok (.iload_n 2, 1) := by decide +kernel
theorem dX8_ahead_9 : decode cX8_ahead 9 = .ok (.invokestatic 216, 3) := by decide +kernel
theorem dX8_ahead_12 : decode cX8_ahead 12 = .ok (.ifCond .eq 15, 3) := by decide +kernel
theorem dX8_ahead_15 : decode cX8_ahead 15 = .ok (.iload_n 3, 1) := by decide +kernel
theorem dX8_ahead_16 : decode cX8_ahead 16 = .ok (.i2l, 1) := by decide +kernel
theorem dX8_ahead_17 : decode cX8_ahead 17 = .ok (.lconst 0, 1) := by decide +kernel
theorem dX8_ahead_18 : decode cX8_ahead 18 = .ok (.ldc2_w 219, 3) := by decide +kernel
theorem dX8_ahead_21 : decode cX8_ahead 21 = .ok (.invokestatic 59, 3) := by decide +kernel
theorem dX8_ahead_24 : decode cX8_ahead 24 = .ok (.ifCond .ne 5, 3) := by decide +kernel
theorem dX8_ahead_27 : decode cX8_ahead 27 = .ok (.iconst (-1), 1) := by decide +kernel
theorem dX8_ahead_28 : decode cX8_ahead 28 = .ok (.ireturn, 1) := by decide +kernel
theorem dX8_ahead_29 : decode cX8_ahead 29 = .ok (.aload_n 0, 1) := by decide +kernel
theorem dX8_ahead_30 : decode cX8_ahead 30 = .ok (.invokevirtual 183, 3) := by decide +kernel
theorem dX8_ahead_33 : decode cX8_ahead 33 = .ok (.aload_n 0, 1) := by decide +kernel
theorem dX8_ahead_34 : decode cX8_ahead 34 = .ok (.iload_n 2, 1) := by decide +kernel
theorem dX8_ahead_35 : decode cX8_ahead 35 = .ok (.invokevirtual 210, 3) := by decide +kernel
theorem dX8_ahead_38 : decode cX8_ahead 38 = .ok (.aload_n 0, 1) := by decide +kernel
theorem dX8_ahead_39 : decode cX8_ahead 39 = .ok (.iload_n 1, 1) := by decide +kernel
theorem dX8_ahead_40 : decode cX8_ahead 40 = .ok (.iconst 1, 1) := by decide +kernel
theorem dX8_ahead_41 : decode cX8_ahead 41 = .ok (.iload_n 3, 1) := by decide +kernel
theorem dX8_ahead_42 : decode cX8_ahead 42 = .ok (.iadd, 1) := by decide +kernel
theorem dX8_ahead_43 : decode cX8_ahead 43 = .ok (.invokevirtual 144, 3) := by decide +kernel
theorem dX8_ahead_46 : decode cX8_ahead 46 = .ok (.ireturn, 1) := by decide +kernel
theorem dX8_home_0 : decode cX8_home 0 = .ok (.aload_n 0, 1) := by decide +kernel
theorem dX8_home_1 : decode cX8_home 1 = .ok (.iload_n 1, 1) := by decide +kernel
theorem dX8_home_2 : decode cX8_home 2 = .ok (.invokevirtual 191, 3) := by decide +kernel
theorem dX8_home_5 : decode cX8_home 5 = .ok (.ifCond .ne 5, 3) := by decide +kernel
theorem dX8_home_8 : decode cX8_home 8 = .ok (.iconst (-1), 1) := by decide +kernel
theorem dX8_home_9 : decode cX8_home 9 = .ok (.ireturn, 1) := by decide +kernel
theorem dX8_home_10 : decode cX8_home 10 = .ok (.aload_n 0, 1) := by decide +kernel
theorem dX8_home_11 : decode cX8_home 11 = .ok (.invokevirtual 183, 3) := by decide +kernel
theorem dX8_home_14 : decode cX8_home 14 = .ok (.iconst 0, 1) := by decide +kernel
theorem dX8_home_15 : decode cX8_home 15 = .ok (.istore_n 2, 1) := by decide +kernel
theorem dX8_home_16 : decode cX8_home 16 = .ok (.iload_n 2, 1) := by decide +kernel
theorem dX8_home_17 : decode cX8_home 17 = .ok (.bipush 60, 2) := by decide +kernel
theorem dX8_home_19 : decode cX8_home 19 = .ok (.if_icmp .gt 26, 3) := by decide +kernel
theorem dX8_home_22 : decode cX8_home 22 = .ok (.aload_n 0, 1) := by decide +kernel
theorem dX8_home_23 : decode cX8_home 23 = .ok (.iload_n 1, 1) := by decide +kernel
theorem dX8_home_24 : decode cX8_home 24 = .ok (.iconst 3, 1) := by decide +kernel
theorem dX8_home_25 : decode cX8_home 25 = .ok (.invokevirtual 144, 3) := by decide +kernel
theorem dX8_home_28 : decode cX8_home 28 = .ok (.iconst 2, 1) := by decide +kernel
theorem dX8_home_29 : decode cX8_home 29 = .ok (.if_icmp .ne 5, 3) := by decide +kernel
theorem dX8_home_32 : decode cX8_home 32 = .ok (.iload_n 2, 1) := by decide +kernel
theorem dX8_home_33 : decode cX8_home 33 = .ok (.ireturn, 1) := by decide +kernel
theorem dX8_home_34 : decode cX8_home 34 = .ok (.aload_n 0, 1) := by decide +kernel
theorem dX8_home_35 : decode cX8_home 35 = .ok (.iconst 1, 1) := by decide +kernel
theorem dX8_home_36 : decode cX8_home 36 = .ok (.invokevirtual 210, 3) := by decide +kernel
theorem dX8_home_39 : decode cX8_home 39 = .ok (.iinc 2 1, 3) := by decide +kernel
theorem dX8_home_42 : decode cX8_home 42 = .ok (.goto (-26), 3) := by decide +kernel
theorem dX8_home_45 : decode cX8_home 45 = .ok (.bipush (-4), 2) := by decide +kernel
theorem dX8_home_47 : decode cX8_home 47 = .ok (.ireturn, 1) := by decide +kernel
theorem dX8_daysTo_0 : decode cX8_daysTo 0 = .ok (.iconst 0, 1) := by decide +kernel
theorem dX8_daysTo_1 : decode cX8_daysTo 1 = .ok (.istore_n 1, 1) := by decide +kernel
theorem dX8_daysTo_2 : decode cX8_daysTo 2 = .ok (.iload_n 1, 1) := by decide +kernel
theorem dX8_daysTo_3 : decode cX8_daysTo 3 = .ok (.bipush 60, 2) := by decide +kernel
theorem dX8_daysTo_5 : decode cX8_daysTo 5 = .ok (.if_icmp .gt 23, 3) := by decide +kernel
theorem dX8_daysTo_8 : decode cX8_daysTo 8 = .ok (.aload_n 0, 1) := by decide +kernel
theorem dX8_daysTo_9 : decode cX8_daysTo 9 = .ok (.invokevirtual 221, 3) := by decide +kernel
theorem dX8_daysTo_12 : decode cX8_daysTo 12 = .ok (.ifCond .eq 5, 3) := by decide +kernel
theorem dX8_daysTo_15 : decode cX8_daysTo 15 = .ok (.iload_n 1, 1) := by decide +kernel
theorem dX8_daysTo_16 : decode cX8_daysTo 16 = .ok (.ireturn, 1) := by decide +kernel
theorem dX8_daysTo_17 : decode cX8_daysTo 17 = .ok (.aload_n 0, 1) := by decide +kernel
theorem dX8_daysTo_18 : decode cX8_daysTo 18 = .ok (.iconst 1, 1) := by decide +kernel
theorem dX8_daysTo_19 : decode cX8_daysTo 19 = .ok (.invokevirtual 210, 3) := by decide +kernel
theorem dX8_daysTo_22 : decode cX8_daysTo 22 = .ok (.iinc 1 1, 3) := by decide +kernel
theorem dX8_daysTo_25 : decode cX8_daysTo 25 = .ok (.goto (-23), 3) := by decide +kernel
theorem dX8_daysTo_28 : decode cX8_daysTo 28 = .ok (.bipush (-4), 2) := by decide +kernel
theorem dX8_daysTo_30 : decode cX8_daysTo 30 = .ok (.ireturn, 1) := by decide +kernel
theorem dX8_done_0 : decode cX8_done 0 = .ok (.aload_n 0, 1) := by decide +kernel
theorem dX8_done_1 : decode cX8_done 1 = .ok (.invokevirtual 183, 3) := by decide +kernel
theorem dX8_done_4 : decode cX8_done 4 = .ok (.aload_n 0, 1) := by decide +kernel
theorem dX8_done_5 : decode cX8_done 5 = .ok (.invokevirtual 225, 3) := by decide +kernel
theorem dX8_done_8 : decode cX8_done 8 = .ok (.ireturn, 1) := by decide +kernel
theorem dX8_leastRule_0 : decode cX8_leastRule 0 = .ok (.iconst 0, 1) := by decide +kernel
theorem dX8_leastRule_1 : decode cX8_leastRule 1 = .ok (.istore_n 3, 1) := by decide +kernel
theorem dX8_leastRule_2 : decode cX8_leastRule 2 = .ok (.iload_n 3, 1) := by decide +kernel
theorem dX8_leastRule_3 : decode cX8_leastRule 3 = .ok (.iload_n 1, 1) := by decide +kernel
theorem dX8_leastRule_4 : decode cX8_leastRule 4 = .ok (.invokestatic 125, 3) := by decide +kernel
theorem dX8_leastRule_7 : decode cX8_leastRule 7 = .ok (.if_icmp .gt 37, 3) := by decide +kernel
theorem dX8_leastRule_10 : decode cX8_leastRule 10 = .ok (.aload_n 0, 1) := by decide +kernel
theorem dX8_leastRule_11 : decode cX8_leastRule 11 = .ok (.invokevirtual 183, 3) := by decide +kernel
theorem dX8_leastRule_14 : decode cX8_leastRule 14 = .ok (.aload_n 0, 1) := by decide +kernel
theorem dX8_leastRule_15 : decode cX8_leastRule 15 = .ok (.getfield 13, 3) := by decide +kernel
theorem dX8_leastRule_18 : decode cX8_leastRule 18 = .ok (.bipush 25, 2) := by decide +kernel
theorem dX8_leastRule_20 : decode cX8_leastRule 20 = .ok (.iload_n 1, 1) := by decide +kernel
theorem dX8_leastRule_21 : decode cX8_leastRule 21 = .ok (.iadd, 1) := by decide +kernel
theorem dX8_leastRule_22 : decode cX8_leastRule 22 = .ok (.iload_n 3, 1) := by decide +kernel
theorem dX8_leastRule_23 : decode cX8_leastRule 23 = .ok (.iastore, 1) := by decide +kernel
theorem dX8_leastRule_24 : decode cX8_leastRule 24 = .ok (.aload_n 0, 1) := by decide +kernel
theorem dX8_leastRule_25 : decode cX8_leastRule 25 = .ok (.iload_n 2, 1) := by decide +kernel
theorem dX8_leastRule_26 : decode cX8_leastRule 26 = .ok (.invokevirtual 210, 3) := by decide +kernel
theorem dX8_leastRule_29 : decode cX8_leastRule 29 = .ok (.aload_n 0, 1) := by decide +kernel
theorem dX8_leastRule_30 : decode cX8_leastRule 30 = .ok (.invokevirtual 221, 3) := by decide +kernel
theorem dX8_leastRule_33 : decode cX8_leastRule 33 = .ok (.ifCond .eq 5, 3) := by decide +kernel
theorem dX8_leastRule_36 : decode cX8_leastRule 36 = .ok (.iload_n 3, 1) := by decide +kernel
theorem dX8_leastRule_37 : decode cX8_leastRule 37 = .ok (.ireturn, 1) := by decide +kernel
theorem dX8_leastRule_38 : decode cX8_leastRule 38 = .ok (.iinc 3 1, 3) := by decide +kernel
theorem dX8_leastRule_41 : decode cX8_leastRule 41 = .ok (.goto (-39), 3) := by decide +kernel
theorem dX8_leastRule_44 : decode cX8_leastRule 44 = .ok (.bipush (-4), 2) := by decide +kernel
theorem dX8_leastRule_46 : decode cX8_leastRule 46 = .ok (.ireturn, 1) := by decide +kernel
theorem dX8_blue_0 : decode cX8_blue 0 = .ok (.iload_n 1, 1) := by decide +kernel
theorem dX8_blue_1 : decode cX8_blue 1 = .ok (.invokestatic 216, 3) := by decide +kernel
theorem dX8_blue_4 : decode cX8_blue 4 = .ok (.ifCond .eq 12, 3) := by decide +kernel
theorem dX8_blue_7 : decode cX8_blue 7 = .ok (.aload_n 0, 1) := by decide +kernel
theorem dX8_blue_8 : decode cX8_blue 8 = .ok (.iconst 0, 1) := by decide +kernel
theorem dX8_blue_9 : decode cX8_blue 9 = .ok (.iload_n 1, 1) := by decide +kernel
theorem dX8_blue_10 : decode cX8_blue 10 = .ok (.invokevirtual 228, 3) := by decide +kernel
theorem dX8_blue_13 : decode cX8_blue 13 = .ok (.goto 4, 3) := by decide +kernel
theorem dX8_blue_16 : decode cX8_blue 16 = .ok (.iconst (-1), 1) := by decide +kernel
theorem dX8_blue_17 : decode cX8_blue 17 = .ok (.ireturn, 1) := by decide +kernel
theorem dX8_pegs_0 : decode cX8_pegs 0 = .ok (.iload_n 1, 1) := by decide +kernel
theorem dX8_pegs_1 : decode cX8_pegs 1 = .ok (.invokestatic 216, 3) := by decide +kernel
theorem dX8_pegs_4 : decode cX8_pegs 4 = .ok (.ifCond .eq 12, 3) := by decide +kernel
theorem dX8_pegs_7 : decode cX8_pegs 7 = .ok (.aload_n 0, 1) := by decide +kernel
theorem dX8_pegs_8 : decode cX8_pegs 8 = .ok (.iconst 2, 1) := by decide +kernel
theorem dX8_pegs_9 : decode cX8_pegs 9 = .ok (.iload_n 1, 1) := by decide +kernel
theorem dX8_pegs_10 : decode cX8_pegs 10 = .ok (.invokevirtual 228, 3) := by decide +kernel
theorem dX8_pegs_13 : decode cX8_pegs 13 = .ok (.goto 4, 3) := by decide +kernel
theorem dX8_pegs_16 : decode cX8_pegs 16 = .ok (.iconst (-1), 1) := by decide +kernel
theorem dX8_pegs_17 : decode cX8_pegs 17 = .ok (.ireturn, 1) := by decide +kernel
theorem dX8_startsJudging_0 : decode cX8_startsJudging 0 = .ok (.aload_n 0, 1) := by decide +kernel
theorem dX8_startsJudging_1 : decode cX8_startsJudging 1 = .ok (.bipush (-4), 2) := by decide +kernel
theorem dX8_startsJudging_3 : decode cX8_startsJudging 3 = .ok (.putfield 231, 3) := by decide +kernel
theorem dX8_startsJudging_6 : decode cX8_startsJudging 6 = .ok (.aload_n 0, 1) := by decide +kernel
theorem dX8_startsJudging_7 : decode cX8_startsJudging 7 = .ok (.iload_n 1, 1) := by decide +kernel
theorem dX8_startsJudging_8 : decode cX8_startsJudging 8 = .ok (.bipush (-4), 2) := by decide +kernel
theorem dX8_startsJudging_10 : decode cX8_startsJudging 10 = .ok (.if_icmp .ne 8, 3) := by decide +kernel
theorem dX8_startsJudging_13 : decode cX8_startsJudging 13 = .ok (.ldc 234, 2) := by decide +kernel
theorem dX8_startsJudging_15 : decode cX8_startsJudging 15 = .ok (.goto 4, 3) := by decide +kernel
theorem dX8_startsJudging_18 : decode cX8_startsJudging 18 = .ok (.iload_n 1, 1) := by decide +kernel
theorem dX8_startsJudging_19 : decode cX8_startsJudging 19 = .ok (.putfield 235, 3) := by decide +kernel
theorem dX8_startsJudging_22 : decode cX8_startsJudging 22 = .ok (.return_, 1) := by decide +kernel
theorem dX8_judges_0 : decode cX8_judges 0 = .ok (.iload_n 2, 1) := by decide +kernel
theorem dX8_judges_1 : decode cX8_judges 1 = .ok (.bipush (-4), 2) := by decide +kernel
theorem dX8_judges_3 : decode cX8_judges 3 = .ok (.if_icmp .eq 21, 3) := by decide +kernel
theorem dX8_judges_6 : decode cX8_judges 6 = .ok (.iload_n 2, 1) := by decide +kernel
theorem dX8_judges_7 : decode cX8_judges 7 = .ok (.aload_n 0, 1) := by decide +kernel
theorem dX8_judges_8 : decode cX8_judges 8 = .ok (.getfield 235, 3) := by decide +kernel
theorem dX8_judges_11 : decode cX8_judges 11 = .ok (.if_icmp .ge 13, 3) := by decide +kernel
theorem dX8_judges_14 : decode cX8_judges 14 = .ok (.aload_n 0, 1) := by decide +kernel
theorem dX8_judges_15 : decode cX8_judges 15 = .ok (.iload_n 1, 1) := by decide +kernel
theorem dX8_judges_16 : decode cX8_judges 16 = .ok (.putfield 231, 3) := by decide +kernel
theorem dX8_judges_19 : decode cX8_judges 19 = .ok (.aload_n 0, 1) := by decide +kernel
theorem dX8_judges_20 : decode cX8_judges 20 = .ok (.iload_n 2, 1) := by decide +kernel
theorem dX8_judges_21 : decode cX8_judges 21 = .ok (.putfield 235, 3) := by decide +kernel
theorem dX8_judges_24 : decode cX8_judges 24 = .ok (.return_, 1) := by decide +kernel
theorem dX8_judged_0 : decode cX8_judged 0 = .ok (.aload_n 0, 1) := by decide +kernel
theorem dX8_judged_1 : decode cX8_judged 1 = .ok (.getfield 231, 3) := by decide +kernel
theorem dX8_judged_4 : decode cX8_judged 4 = .ok (.bipush (-4), 2) := by decide +kernel
theorem dX8_judged_6 : decode cX8_judged 6 = .ok (.if_icmp .ne 8, 3) := by decide +kernel
theorem dX8_judged_9 : decode cX8_judged 9 = .ok (.bipush (-4), 2) := by decide +kernel
theorem dX8_judged_11 : decode cX8_judged 11 = .ok (.goto 18, 3) := by decide +kernel
theorem dX8_judged_14 : decode cX8_judged 14 = .ok (.iload_n 1, 1) := by decide +kernel
theorem dX8_judged_15 : decode cX8_judged 15 = .ok (.ifCond .ne 10, 3) := by decide +kernel
theorem dX8_judged_18 : decode cX8_judged 18 = .ok (.aload_n 0, 1) := by decide +kernel
theorem dX8_judged_19 : decode cX8_judged 19 = .ok (.getfield 231, 3) := by decide +kernel
theorem dX8_judged_22 : decode cX8_judged 22 = .ok (.goto 7, 3) := by decide +kernel
theorem dX8_judged_25 : decode cX8_judged 25 = .ok (.aload_n 0, 1) := by decide +kernel
theorem dX8_judged_26 : decode cX8_judged 26 = .ok (.getfield 235, 3) := by decide +kernel
theorem dX8_judged_29 : decode cX8_judged 29 = .ok (.ireturn, 1) := by decide +kernel
theorem dX8_batch_0 : decode cX8_batch 0 = .ok (.iload_n 1, 1) := by decide +kernel
theorem dX8_batch_1 : decode cX8_batch 1 = .ok (.invokestatic 238, 3) := by decide +kernel
theorem dX8_batch_4 : decode cX8_batch 4 = .ok (.ifCond .ne 5, 3) := by decide +kernel
theorem dX8_batch_7 : decode cX8_batch 7 = .ok (.iconst (-1), 1) := by decide +kernel
theorem dX8_batch_8 : decode cX8_batch 8 = .ok (.ireturn, 1) := by decide +kernel
theorem dX8_batch_9 : decode cX8_batch 9 = .ok (.aload_n 0, 1) := by decide +kernel
theorem dX8_batch_10 : decode cX8_batch 10 = .ok (.bipush (-4), 2) := by decide +kernel
theorem dX8_batch_12 : decode cX8_batch 12 = .ok (.invokevirtual 241, 3) := by decide +kernel
theorem dX8_batch_15 : decode cX8_batch 15 = .ok (.iconst 1, 1) := by decide +kernel
theorem dX8_batch_16 : decode cX8_batch 16 = .ok (.istore_n 2, 1) := by decide +kernel
theorem dX8_batch_17 : decode cX8_batch 17 = .ok (.iload_n 2, 1) := by decide +kernel
theorem dX8_batch_18 : decode cX8_batch 18 = .ok (.bipush 6, 2) := by decide +kernel
theorem dX8_batch_20 : decode cX8_batch 20 = .ok (.if_icmp .gt 30, 3) := by decide +kernel
theorem dX8_batch_23 : decode cX8_batch 23 = .ok (.aload_n 0, 1) := by decide +kernel
theorem dX8_batch_24 : decode cX8_batch 24 = .ok (.invokevirtual 183, 3) := by decide +kernel
theorem dX8_batch_27 : decode cX8_batch 27 = .ok (.aload_n 0, 1) := by decide +kernel
theorem dX8_batch_28 : decode cX8_batch 28 = .ok (.getfield 13, 3) := by decide +kernel
theorem dX8_batch_31 : decode cX8_batch 31 = .ok (.bipush 26, 2) := by decide +kernel
theorem dX8_batch_33 : decode cX8_batch 33 = .ok (.iload_n 2, 1) := by decide +kernel
theorem dX8_batch_34 : decode cX8_batch 34 = .ok (.iastore, 1) := by decide +kernel
theorem dX8_batch_35 : decode cX8_batch 35 = .ok (.aload_n 0, 1) := by decide +kernel
theorem dX8_batch_36 : decode cX8_batch 36 = .ok (.iload_n 2, 1) := by decide +kernel
theorem dX8_batch_37 : decode cX8_batch 37 = .ok (.aload_n 0, 1) := by decide +kernel
theorem dX8_batch_38 : decode cX8_batch 38 = .ok (.invokevirtual 225, 3) := by decide +kernel
theorem dX8_batch_41 : decode cX8_batch 41 = .ok (.invokevirtual 244, 3) := by decide +kernel
theorem dX8_batch_44 : decode cX8_batch 44 = .ok (.iinc 2 1, 3) := by decide +kernel
theorem dX8_batch_47 : decode cX8_batch 47 = .ok (.goto (-30), 3) := by decide +kernel
theorem dX8_batch_50 : decode cX8_batch 50 = .ok (.aload_n 0, 1) := by decide +kernel
theorem dX8_batch_51 : decode cX8_batch 51 = .ok (.iload_n 1, 1) := by decide +kernel
theorem dX8_batch_52 : decode cX8_batch 52 = .ok (.invokevirtual 247, 3) := by decide +kernel
theorem dX8_batch_55 : decode cX8_batch 55 = .ok (.ireturn, 1) := by decide +kernel
theorem dX8_swap_0 : decode cX8_swap 0 = .ok (.iload_n 1, 1) := by decide +kernel
theorem dX8_swap_1 : decode cX8_swap 1 = .ok (.invokestatic 238, 3) := by decide +kernel
theorem dX8_swap_4 : decode cX8_swap 4 = .ok (.ifCond .ne 5, 3) := by decide +kernel
theorem dX8_swap_7 : decode cX8_swap 7 = .ok (.iconst (-1), 1) := by decide +kernel
theorem dX8_swap_8 : decode cX8_swap 8 = .ok (.ireturn, 1) := by decide +kernel
theorem dX8_swap_9 : decode cX8_swap 9 = .ok (.aload_n 0, 1) := by decide +kernel
theorem dX8_swap_10 : decode cX8_swap 10 = .ok (.invokevirtual 183, 3) := by decide +kernel
theorem dX8_swap_13 : decode cX8_swap 13 = .ok (.aload_n 0, 1) := by decide +kernel
theorem dX8_swap_14 : decode cX8_swap 14 = .ok (.aload_n 0, 1) := by decide +kernel
theorem dX8_swap_15 : decode cX8_swap 15 = .ok (.invokevirtual 225, 3) := by decide +kernel
theorem dX8_swap_18 : decode cX8_swap 18 = .ok (.invokevirtual 241, 3) := by decide +kernel
theorem dX8_swap_21 : decode cX8_swap 21 = .ok (.iconst 0, 1) := by decide +kernel
theorem dX8_swap_22 : decode cX8_swap 22 = .ok (.istore_n 2, 1) := by decide +kernel
theorem dX8_swap_23 : decode cX8_swap 23 = .ok (.iload_n 2, 1) := by decide +kernel
theorem dX8_swap_24 : decode cX8_swap 24 = .ok (.aload_n 0, 1) := by decide +kernel
theorem dX8_swap_25 : decode cX8_swap 25 = .ok (.getfield 7, 3) := by decide +kernel
theorem dX8_swap_28 : decode cX8_swap 28 = .ok (.bipush 24, 2) := by decide +kernel
theorem dX8_swap_30 : decode cX8_swap 30 = .ok (.iaload, 1) := by decide +kernel
theorem dX8_swap_31 : decode cX8_swap 31 = .ok (.if_icmp .ge 107, 3) := by decide +kernel
theorem dX8_swap_34 : decode cX8_swap 34 = .ok (.iload_n 2, 1) := by decide +kernel
theorem dX8_swap_35 : decode cX8_swap 35 = .ok (.iconst 1, 1) := by decide +kernel
theorem dX8_swap_36 : decode cX8_swap 36 = .ok (.iadd, 1) := by decide +kernel
theorem dX8_swap_37 : decode cX8_swap 37 = .ok (.istore_n 3, 1) := by decide +kernel
theorem dX8_swap_38 : decode cX8_swap 38 = .ok (.iload_n 3, 1) := by decide +kernel
theorem dX8_swap_39 : decode cX8_swap 39 = .ok (.aload_n 0, 1) := by decide +kernel
theorem dX8_swap_40 : decode cX8_swap 40 = .ok (.getfield 7, 3) := by decide +kernel
theorem dX8_swap_43 : decode cX8_swap 43 = .ok (.bipush 24, 2) := by decide +kernel
theorem dX8_swap_45 : decode cX8_swap 45 = .ok (.iaload, 1) := by decide +kernel
theorem dX8_swap_46 : decode cX8_swap 46 = .ok (.if_icmp .ge 86, 3) := by decide +kernel
theorem dX8_swap_49 : decode cX8_swap 49 = .ok (.aload_n 0, 1) := by decide +kernel
theorem dX8_swap_50 : decode cX8_swap 50 = .ok (.invokevirtual 183, 3) := by decide +kernel
theorem dX8_swap_53 : decode cX8_swap 53 = .ok (.iconst 0, 1) := by decide +kernel
theorem dX8_swap_54 : decode cX8_swap 54 = .ok (.istore 4, 2) := by decide +kernel
theorem dX8_swap_56 : decode cX8_swap 56 = .ok (.iload 4, 2) := by decide +kernel
theorem dX8_swap_58 : decode cX8_swap 58 = .ok (.iconst 4, 1) := by decide +kernel
theorem dX8_swap_59 : decode cX8_swap 59 = .ok (.if_icmp .ge 53, 3) := by decide +kernel
theorem dX8_swap_62 : decode cX8_swap 62 = .ok (.aload_n 0, 1) := by decide +kernel
theorem dX8_swap_63 : decode cX8_swap 63 = .ok (.getfield 13, 3) := by decide +kernel
theorem dX8_swap_66 : decode cX8_swap 66 = .ok (.iconst 4, 1) := by decide +kernel
theorem dX8_swap_67 : decode cX8_swap 67 = .ok (.iload_n 2, 1) := by decide +kernel
theorem dX8_swap_68 : decode cX8_swap 68 = .ok (.imul, 1) := by decide +kernel
theorem dX8_swap_69 : decode cX8_swap 69 = .ok (.iload 4, 2) := by decide +kernel
theorem dX8_swap_71 : decode cX8_swap 71 = .ok (.iadd, 1) := by decide +kernel
theorem dX8_swap_72 : decode cX8_swap 72 = .ok (.aload_n 0, 1) := by decide +kernel
theorem dX8_swap_73 : decode cX8_swap 73 = .ok (.getfield 7, 3) := by decide +kernel
theorem dX8_swap_76 : decode cX8_swap 76 = .ok (.iconst 4, 1) := by decide +kernel
theorem dX8_swap_77 : decode cX8_swap 77 = .ok (.iload_n 3, 1) := by decide +kernel
theorem dX8_swap_78 : decode cX8_swap 78 = .ok (.imul, 1) := by decide +kernel
theorem dX8_swap_79 : decode cX8_swap 79 = .ok (.iload 4, 2) := by decide +kernel
theorem dX8_swap_81 : decode cX8_swap 81 = .ok (.iadd, 1) := by decide +kernel
theorem dX8_swap_82 : decode cX8_swap 82 = .ok (.iaload, 1) := by decide +kernel
theorem dX8_swap_83 : decode cX8_swap 83 = .ok (.iastore, 1) := by decide +kernel
theorem dX8_swap_84 : decode cX8_swap 84 = .ok (.aload_n 0, 1) := by decide +kernel
theorem dX8_swap_85 : decode cX8_swap 85 = .ok (.getfield 13, 3) := by decide +kernel
theorem dX8_swap_88 : decode cX8_swap 88 = .ok (.iconst 4, 1) := by decide +kernel
theorem dX8_swap_89 : decode cX8_swap 89 = .ok (.iload_n 3, 1) := by decide +kernel
theorem dX8_swap_90 : decode cX8_swap 90 = .ok (.imul, 1) := by decide +kernel
theorem dX8_swap_91 : decode cX8_swap 91 = .ok (.iload 4, 2) := by decide +kernel
theorem dX8_swap_93 : decode cX8_swap 93 = .ok (.iadd, 1) := by decide +kernel
theorem dX8_swap_94 : decode cX8_swap 94 = .ok (.aload_n 0, 1) := by decide +kernel
theorem dX8_swap_95 : decode cX8_swap 95 = .ok (.getfield 7, 3) := by decide +kernel
theorem dX8_swap_98 : decode cX8_swap 98 = .ok (.iconst 4, 1) := by decide +kernel
theorem dX8_swap_99 : decode cX8_swap 99 = .ok (.iload_n 2, 1) := by decide +kernel
theorem dX8_swap_100 : decode cX8_swap 100 = .ok (.imul, 1) := by decide +kernel
theorem dX8_swap_101 : decode cX8_swap 101 = .ok (.iload 4, 2) := by decide +kernel
theorem dX8_swap_103 : decode cX8_swap 103 = .ok (.iadd, 1) := by decide +kernel
theorem dX8_swap_104 : decode cX8_swap 104 = .ok (.iaload, 1) := by decide +kernel
theorem dX8_swap_105 : decode cX8_swap 105 = .ok (.iastore, 1) := by decide +kernel
theorem dX8_swap_106 : decode cX8_swap 106 = .ok (.iinc 4 1, 3) := by decide +kernel
theorem dX8_swap_109 : decode cX8_swap 109 = .ok (.goto (-53), 3) := by decide +kernel
theorem dX8_swap_112 : decode cX8_swap 112 = .ok (.aload_n 0, 1) := by decide +kernel
theorem dX8_swap_113 : decode cX8_swap 113 = .ok (.bipush 10, 2) := by decide +kernel
theorem dX8_swap_115 : decode cX8_swap 115 = .ok (.iload_n 2, 1) := by decide +kernel
theorem dX8_swap_116 : decode cX8_swap 116 = .ok (.imul, 1) := by decide +kernel
theorem dX8_swap_117 : decode cX8_swap 117 = .ok (.iload_n 3, 1) := by decide +kernel
theorem dX8_swap_118 : decode cX8_swap 118 = .ok (.iadd, 1) := by decide +kernel
theorem dX8_swap_119 : decode cX8_swap 119 = .ok (.aload_n 0, 1) := by decide +kernel
theorem dX8_swap_120 : decode cX8_swap 120 = .ok (.invokevirtual 225, 3) := by decide +kernel
theorem dX8_swap_123 : decode cX8_swap 123 = .ok (.invokevirtual 244, 3) := by decide +kernel
theorem dX8_swap_126 : decode cX8_swap 126 = .ok (.iinc 3 1, 3) := by decide +kernel
theorem dX8_swap_129 : decode cX8_swap 129 = .ok (.goto (-91), 3) := by decide +kernel
theorem dX8_swap_132 : decode cX8_swap 132 = .ok (.iinc 2 1, 3) := by decide +kernel
theorem dX8_swap_135 : decode cX8_swap 135 = .ok (.goto (-112), 3) := by decide +kernel
theorem dX8_swap_138 : decode cX8_swap 138 = .ok (.aload_n 0, 1) := by decide +kernel
theorem dX8_swap_139 : decode cX8_swap 139 = .ok (.iload_n 1, 1) := by decide +kernel
theorem dX8_swap_140 : decode cX8_swap 140 = .ok (.invokevirtual 247, 3) := by decide +kernel
theorem dX8_swap_143 : decode cX8_swap 143 = .ok (.ireturn, 1) := by decide +kernel
theorem dX8_fair_0 : decode cX8_fair 0 = .ok (.iload_n 1, 1) := by decide +kernel
theorem dX8_fair_1 : decode cX8_fair 1 = .ok (.invokestatic 238, 3) := by decide +kernel
theorem dX8_fair_4 : decode cX8_fair 4 = .ok (.ifCond .ne 5, 3) := by decide +kernel
theorem dX8_fair_7 : decode cX8_fair 7 = .ok (.iconst (-1), 1) := by decide +kernel
theorem dX8_fair_8 : decode cX8_fair 8 = .ok (.ireturn, 1) := by decide +kernel
theorem dX8_fair_9 : decode cX8_fair 9 = .ok (.aload_n 0, 1) := by decide +kernel
theorem dX8_fair_10 : decode cX8_fair 10 = .ok (.invokevirtual 183, 3) := by decide +kernel
theorem dX8_fair_13 : decode cX8_fair 13 = .ok (.aload_n 0, 1) := by decide +kernel
theorem dX8_fair_14 : decode cX8_fair 14 = .ok (.aload_n 0, 1) := by decide +kernel
theorem dX8_fair_15 : decode cX8_fair 15 = .ok (.invokevirtual 225, 3) := by decide +kernel
theorem dX8_fair_18 : decode cX8_fair 18 = .ok (.invokevirtual 241, 3) := by decide +kernel
theorem dX8_fair_21 : decode cX8_fair 21 = .ok (.iconst 0, 1) := by decide +kernel
theorem dX8_fair_22 : decode cX8_fair 22 = .ok (.istore_n 2, 1) := by decide +kernel
theorem dX8_fair_23 : decode cX8_fair 23 = .ok (.iload_n 2, 1) := by decide +kernel
theorem dX8_fair_24 : decode cX8_fair 24 = .ok (.bipush 7, 2) := by decide +kernel
theorem dX8_fair_26 : decode cX8_fair 26 = .ok (.if_icmp .ge 33, 3) := by decide +kernel
theorem dX8_fair_29 : decode cX8_fair 29 = .ok (.aload_n 0, 1) := by decide +kernel
theorem dX8_fair_30 : decode cX8_fair 30 = .ok (.invokevirtual 183, 3) := by decide +kernel
theorem dX8_fair_33 : decode cX8_fair 33 = .ok (.aload_n 0, 1) := by decide +kernel
theorem dX8_fair_34 : decode cX8_fair 34 = .ok (.getfield 13, 3) := by decide +kernel
theorem dX8_fair_37 : decode cX8_fair 37 = .ok (.bipush 30, 2) := by decide +kernel
theorem dX8_fair_39 : decode cX8_fair 39 = .ok (.iload_n 2, 1) := by decide +kernel
theorem dX8_fair_40 : decode cX8_fair 40 = .ok (.iadd, 1) := by decide +kernel
theorem dX8_fair_41 : decode cX8_fair 41 = .ok (.bipush 9, 2) := by decide +kernel
theorem dX8_fair_43 : decode cX8_fair 43 = .ok (.iastore, 1) := by decide +kernel
theorem dX8_fair_44 : decode cX8_fair 44 = .ok (.aload_n 0, 1) := by decide +kernel
theorem dX8_fair_45 : decode cX8_fair 45 = .ok (.iload_n 2, 1) := by decide +kernel
theorem dX8_fair_46 : decode cX8_fair 46 = .ok (.aload_n 0, 1) := by decide +kernel
theorem dX8_fair_47 : decode cX8_fair 47 = .ok (.invokevirtual 225, 3) := by decide +kernel
theorem dX8_fair_50 : decode cX8_fair 50 = .ok (.invokevirtual 244, 3) := by decide +kernel
theorem dX8_fair_53 : decode cX8_fair 53 = .ok (.iinc 2 1, 3) := by decide +kernel
theorem dX8_fair_56 : decode cX8_fair 56 = .ok (.goto (-33), 3) := by decide +kernel
theorem dX8_fair_59 : decode cX8_fair 59 = .ok (.aload_n 0, 1) := by decide +kernel
theorem dX8_fair_60 : decode cX8_fair 60 = .ok (.iload_n 1, 1) := by decide +kernel
theorem dX8_fair_61 : decode cX8_fair 61 = .ok (.invokevirtual 247, 3) := by decide +kernel
theorem dX8_fair_64 : decode cX8_fair 64 = .ok (.ireturn, 1) := by decide +kernel
theorem dX8_stain_0 : decode cX8_stain 0 = .ok (.aload_n 0, 1) := by decide +kernel
theorem dX8_stain_1 : decode cX8_stain 1 = .ok (.iload_n 1, 1) := by decide +kernel
theorem dX8_stain_2 : decode cX8_stain 2 = .ok (.invokevirtual 191, 3) := by decide +kernel
theorem dX8_stain_5 : decode cX8_stain 5 = .ok (.ifCond .eq 10, 3) := by decide +kernel
theorem dX8_stain_8 : decode cX8_stain 8 = .ok (.iload_n 2, 1) := by decide +kernel
theorem dX8_stain_9 : decode cX8_stain 9 = .ok (.invokestatic 216, 3) := by decide +kernel
theorem dX8_stain_12 : decode cX8_stain 12 = .ok (.ifCond .ne 5, 3) := by decide +kernel
theorem dX8_stain_15 : decode cX8_stain 15 = .ok (.iconst (-1), 1) := by decide +kernel
theorem dX8_stain_16 : decode cX8_stain 16 = .ok (.ireturn, 1) := by decide +kernel
theorem dX8_stain_17 : decode cX8_stain 17 = .ok (.bipush 60, 2) := by decide +kernel
theorem dX8_stain_19 : decode cX8_stain 19 = .ok (.istore_n 3, 1) := by decide +kernel
theorem dX8_stain_20 : decode cX8_stain 20 = .ok (.iload_n 3, 1) := by decide +kernel
theorem dX8_stain_21 : decode cX8_stain 21 = .ok (.ifCond .lt 37, 3) := by decide +kernel
theorem dX8_stain_24 : decode cX8_stain 24 = .ok (.aload_n 0, 1) := by decide +kernel
theorem dX8_stain_25 : decode cX8_stain 25 = .ok (.invokevirtual 183, 3) := by decide +kernel
theorem dX8_stain_28 : decode cX8_stain 28 = .ok (.aload_n 0, 1) := by decide +kernel
theorem dX8_stain_29 : decode cX8_stain 29 = .ok (.iload_n 1, 1) := by decide +kernel
theorem dX8_stain_30 : decode cX8_stain 30 = .ok (.iconst 1, 1) := by decide +kernel
theorem dX8_stain_31 : decode cX8_stain 31 = .ok (.iload_n 3, 1) := by decide +kernel
theorem dX8_stain_32 : decode cX8_stain 32 = .ok (.invokevirtual 160, 3) := by decide +kernel
theorem dX8_stain_35 : decode cX8_stain 35 = .ok (.aload_n 0, 1) := by decide +kernel
theorem dX8_stain_36 : decode cX8_stain 36 = .ok (.iload_n 2, 1) := by decide +kernel
theorem dX8_stain_37 : decode cX8_stain 37 = .ok (.invokevirtual 210, 3) := by decide +kernel
theorem dX8_stain_40 : decode cX8_stain 40 = .ok (.aload_n 0, 1) := by decide +kernel
theorem dX8_stain_41 : decode cX8_stain 41 = .ok (.iload_n 1, 1) := by decide +kernel
theorem dX8_stain_42 : decode cX8_stain 42 = .ok (.iconst 3, 1) := by decide +kernel
theorem dX8_stain_43 : decode cX8_stain 43 = .ok (.invokevirtual 144, 3) := by decide +kernel
theorem dX8_stain_46 : decode cX8_stain 46 = .ok (.iconst 2, 1) := by decide +kernel
theorem dX8_stain_47 : decode cX8_stain 47 = .ok (.if_icmp .ne 5, 3) := by decide +kernel
theorem dX8_stain_50 : decode cX8_stain 50 = .ok (.iload_n 3, 1) := by decide +kernel
theorem dX8_stain_51 : decode cX8_stain 51 = .ok (.ireturn, 1) := by decide +kernel
theorem dX8_stain_52 : decode cX8_stain 52 = .ok (.iinc 3 (-1), 3) := by decide +kernel
theorem dX8_stain_55 : decode cX8_stain 55 = .ok (.goto (-35), 3) := by decide +kernel
theorem dX8_stain_58 : decode cX8_stain 58 = .ok (.bipush (-4), 2) := by decide +kernel
theorem dX8_stain_60 : decode cX8_stain 60 = .ok (.ireturn, 1) := by decide +kernel
theorem dX8_kind_0 : decode cX8_kind 0 = .ok (.aload_n 0, 1) := by decide +kernel
theorem dX8_kind_1 : decode cX8_kind 1 = .ok (.iload_n 1, 1) := by decide +kernel
theorem dX8_kind_2 : decode cX8_kind 2 = .ok (.invokevirtual 191, 3) := by decide +kernel
theorem dX8_kind_5 : decode cX8_kind 5 = .ok (.ifCond .eq 10, 3) := by decide +kernel
theorem dX8_kind_8 : decode cX8_kind 8 = .ok (.iload_n 2, 1) := by decide +kernel
theorem dX8_kind_9 : decode cX8_kind 9 = .ok (.invokestatic 238, 3) := by decide +kernel
theorem dX8_kind_12 : decode cX8_kind 12 = .ok (.ifCond .ne 5, 3) := by decide +kernel
theorem dX8_kind_15 : decode cX8_kind 15 = .ok (.iconst (-1), 1) := by decide +kernel
theorem dX8_kind_16 : decode cX8_kind 16 = .ok (.ireturn, 1) := by decide +kernel
theorem dX8_kind_17 : decode cX8_kind 17 = .ok (.aload_n 0, 1) := by decide +kernel
theorem dX8_kind_18 : decode cX8_kind 18 = .ok (.bipush (-4), 2) := by decide +kernel
theorem dX8_kind_20 : decode cX8_kind 20 = .ok (.invokevirtual 241, 3) := by decide +kernel
theorem dX8_kind_23 : decode cX8_kind 23 = .ok (.iconst 0, 1) := by decide +kernel
theorem dX8_kind_24 : decode cX8_kind 24 = .ok (.istore_n 3, 1) := by decide +kernel
theorem dX8_kind_25 : decode cX8_kind 25 = .ok (.iload_n 3, 1) := by decide +kernel
theorem dX8_kind_26 : decode cX8_kind 26 = .ok (.iconst 4, 1) := by decide +kernel
theorem dX8_kind_27 : decode cX8_kind 27 = .ok (.if_icmp .ge 29, 3) := by decide +kernel
theorem dX8_kind_30 : decode cX8_kind 30 = .ok (.aload_n 0, 1) := by decide +kernel
theorem dX8_kind_31 : decode cX8_kind 31 = .ok (.invokevirtual 183, 3) := by decide +kernel
theorem dX8_kind_34 : decode cX8_kind 34 = .ok (.aload_n 0, 1) := by decide +kernel
theorem dX8_kind_35 : decode cX8_kind 35 = .ok (.iload_n 1, 1) := by decide +kernel
theorem dX8_kind_36 : decode cX8_kind 36 = .ok (.iconst 0, 1) := by decide +kernel
theorem dX8_kind_37 : decode cX8_kind 37 = .ok (.iload_n 3, 1) := by decide +kernel
theorem dX8_kind_38 : decode cX8_kind 38 = .ok (.invokevirtual 160, 3) := by decide +kernel
theorem dX8_kind_41 : decode cX8_kind 41 = .ok (.aload_n 0, 1) := by decide +kernel
theorem dX8_kind_42 : decode cX8_kind 42 = .ok (.iload_n 3, 1) := by decide +kernel
theorem dX8_kind_43 : decode cX8_kind 43 = .ok (.aload_n 0, 1) := by decide +kernel
theorem dX8_kind_44 : decode cX8_kind 44 = .ok (.invokevirtual 225, 3) := by decide +kernel
theorem dX8_kind_47 : decode cX8_kind 47 = .ok (.invokevirtual 244, 3) := by decide +kernel
theorem dX8_kind_50 : decode cX8_kind 50 = .ok (.iinc 3 1, 3) := by decide +kernel
theorem dX8_kind_53 : decode cX8_kind 53 = .ok (.goto (-28), 3) := by decide +kernel
theorem dX8_kind_56 : decode cX8_kind 56 = .ok (.aload_n 0, 1) := by decide +kernel
theorem dX8_kind_57 : decode cX8_kind 57 = .ok (.iload_n 2, 1) := by decide +kernel
theorem dX8_kind_58 : decode cX8_kind 58 = .ok (.invokevirtual 247, 3) := by decide +kernel
theorem dX8_kind_61 : decode cX8_kind 61 = .ok (.ireturn, 1) := by decide +kernel
theorem dX8_common_0 : decode cX8_common 0 = .ok (.lload_n 0, 1) := by decide +kernel
theorem dX8_common_1 : decode cX8_common 1 = .ok (.lstore 4, 2) := by decide +kernel
theorem dX8_common_3 : decode cX8_common 3 = .ok (.lload_n 2, 1) := by decide +kernel
theorem dX8_common_4 : decode cX8_common 4 = .ok (.lstore 6, 2) := by decide +kernel
theorem dX8_common_6 : decode cX8_common 6 = .ok (.lload 6, 2) := by decide +kernel
theorem dX8_common_8 : decode cX8_common 8 = .ok (.lconst 0, 1) := by decide +kernel
theorem dX8_common_9 : decode cX8_common 9 = .ok (.lcmp, 1) := by decide +kernel
theorem dX8_common_10 : decode cX8_common 10 = .ok (.ifCond .eq 21, 3) := by decide +kernel
theorem dX8_common_13 : decode cX8_common 13 = .ok (.lload 4, 2) := by decide +kernel
theorem dX8_common_15 : decode cX8_common 15 = .ok (.lload 6, 2) := by decide +kernel
theorem dX8_common_17 : decode cX8_common 17 = .ok (.lrem, 1) := by decide +kernel
theorem dX8_common_18 : decode cX8_common 18 = .ok (.lstore 8, 2) := by decide +kernel
theorem dX8_common_20 : decode cX8_common 20 = .ok (.lload 6, 2) := by decide +kernel
theorem dX8_common_22 : decode cX8_common 22 = .ok (.lstore 4, 2) := by decide +kernel
theorem dX8_common_24 : decode cX8_common 24 = .ok (.lload 8, 2) := by decide +kernel
theorem dX8_common_26 : decode cX8_common 26 = .ok (.lstore 6, 2) := by decide +kernel
theorem dX8_common_28 : decode cX8_common 28 = .ok (.goto (-22), 3) := by decide +kernel
theorem dX8_common_31 : decode cX8_common 31 = .ok (.lload 4, 2) := by decide +kernel
theorem dX8_common_33 : decode cX8_common 33 = .ok (.lreturn, 1) := by decide +kernel
theorem dX8_lowest_0 : decode cX8_lowest 0 = .ok (.lload_n 2, 1) := by decide +kernel
theorem dX8_lowest_1 : decode cX8_lowest 1 = .ok (.lload_n 0, 1) := by decide +kernel
theorem dX8_lowest_2 : decode cX8_lowest 2 = .ok (.invokestatic 250, 3) := by decide +kernel
theorem dX8_lowest_5 : decode cX8_lowest 5 = .ok (.lstore 5, 2) := by decide +kernel
theorem dX8_lowest_7 : decode cX8_lowest 7 = .ok (.iload 4, 2) := by decide +kernel
theorem dX8_lowest_9 : decode cX8_lowest 9 = .ok (.ifCond .ne 10, 3) := by decide +kernel
theorem dX8_lowest_12 : decode cX8_lowest 12 = .ok (.lload_n 0, 1) := by decide +kernel
theorem dX8_lowest_13 : decode cX8_lowest 13 = .ok (.lload 5, 2) := by decide +kernel
theorem dX8_lowest_15 : decode cX8_lowest 15 = .ok (.ldiv, 1) := by decide +kernel
theorem dX8_lowest_16 : decode cX8_lowest 16 = .ok (.goto 7, 3) := by decide +kernel
theorem dX8_lowest_19 : decode cX8_lowest 19 = .ok (.lload_n 2, 1) := by decide +kernel
theorem dX8_lowest_20 : decode cX8_lowest 20 = .ok (.lload 5, 2) := by decide +kernel
theorem dX8_lowest_22 : decode cX8_lowest 22 = .ok (.ldiv, 1) := by decide +kernel
theorem dX8_lowest_23 : decode cX8_lowest 23 = .ok (.lreturn, 1) := by decide +kernel
theorem dX8_findOdds_0 : decode cX8_findOdds 0 = .ok (.aload_n 0, 1) := by decide +kernel
theorem dX8_findOdds_1 : decode cX8_findOdds 1 = .ok (.lconst 0, 1) := by decide +kernel
theorem dX8_findOdds_2 : decode cX8_findOdds 2 = .ok (.putfield 254, 3) := by decide +kernel
theorem dX8_findOdds_5 : decode cX8_findOdds 5 = .ok (.aload_n 0, 1) := by decide +kernel
theorem dX8_findOdds_6 : decode cX8_findOdds 6 = .ok (.lconst 0, 1) := by decide +kernel
theorem dX8_findOdds_7 : decode cX8_findOdds 7 = .ok (.putfield 258, 3) := by decide +kernel
theorem dX8_findOdds_10 : decode cX8_findOdds 10 = .ok (.aload_n 0, 1) := by decide +kernel
theorem dX8_findOdds_11 : decode cX8_findOdds 11 = .ok (.lconst 1, 1) := by decide +kernel
theorem dX8_findOdds_12 : decode cX8_findOdds 12 = .ok (.putfield 261, 3) := by decide +kernel
theorem dX8_findOdds_15 : decode cX8_findOdds 15 = .ok (.iconst 0, 1) := by decide +kernel
theorem dX8_findOdds_16 : decode cX8_findOdds 16 = .ok (.istore 4, 2) := by decide +kernel
theorem dX8_findOdds_18 : decode cX8_findOdds 18 = .ok (.iload 4, 2) := by decide +kernel
theorem dX8_findOdds_20 : decode cX8_findOdds 20 = .ok (.iload_n 3, 1) := by decide +kernel
theorem dX8_findOdds_21 : decode cX8_findOdds 21 = .ok (.if_icmp .ge 21, 3) := by decide +kernel
theorem dX8_findOdds_24 : decode cX8_findOdds 24 = .ok (.aload_n 0, 1) := by decide +kernel
theorem dX8_findOdds_25 : decode cX8_findOdds 25 = .ok (.dup, 1) := by decide +kernel
theorem dX8_findOdds_26 : decode cX8_findOdds 26 = .ok (.getfield 261, 3) := by decide +kernel
theorem dX8_findOdds_29 : decode cX8_findOdds 29 = .ok (.ldc2_w 264, 3) := by decide +kernel
theorem dX8_findOdds_32 : decode cX8_findOdds 32 = .ok (.lmul, 1) := by decide +kernel
theorem dX8_findOdds_33 : decode cX8_findOdds 33 = .ok (.putfield 261, 3) := by decide +kernel
theorem dX8_findOdds_36 : decode cX8_findOdds 36 = .ok (.iinc 4 1, 3) := by decide +kernel
theorem dX8_findOdds_39 : decode cX8_findOdds 39 = .ok (.goto (-21), 3) := by decide +kernel
theorem dX8_findOdds_42 : decode cX8_findOdds 42 = .ok (.iconst 0, 1) := by decide +kernel
theorem dX8_findOdds_43 : decode cX8_findOdds 43 = .ok (.istore 4, 2) := by decide +kernel
theorem dX8_findOdds_45 : decode cX8_findOdds 45 = .ok (.iload 4, 2) := by decide +kernel
theorem dX8_findOdds_47 : decode cX8_findOdds 47 = .ok (.iconst 1, 1) := by decide +kernel
theorem dX8_findOdds_48 : decode cX8_findOdds 48 = .ok (.iload_n 3, 1) := by decide +kernel
theorem dX8_findOdds_49 : decode cX8_findOdds 49 = .ok (.ishl, 1) := by decide +kernel
theorem dX8_findOdds_50 : decode cX8_findOdds 50 = .ok (.if_icmp .ge 135, 3) := by decide +kernel
theorem dX8_findOdds_53 : decode cX8_findOdds 53 = .ok (.lconst 1, 1) := by decide +kernel
theorem dX8_findOdds_54 : decode cX8_findOdds 54 = .ok (.lstore 5, 2) := by decide +kernel
theorem dX8_findOdds_56 : decode cX8_findOdds 56 = .ok (.aload_n 0, 1) := by decide +kernel
theorem dX8_findOdds_57 : decode cX8_findOdds 57 = .ok (.invokevirtual 183, 3) := by decide +kernel
theorem dX8_findOdds_60 : decode cX8_findOdds 60 = .ok (.iconst 0, 1) := by decide +kernel
theorem dX8_findOdds_61 : decode cX8_findOdds 61 = .ok (.istore 7, 2) := by decide +kernel
theorem dX8_findOdds_63 : decode cX8_findOdds 63 = .ok (.iload 7, 2) := by decide +kernel
theorem dX8_findOdds_65 : decode cX8_findOdds 65 = .ok (.iload_n 3, 1) := by decide +kernel
theorem dX8_findOdds_66 : decode cX8_findOdds 66 = .ok (.if_icmp .ge 64, 3) := by decide +kernel
theorem dX8_findOdds_69 : decode cX8_findOdds 69 = .ok (.iload 4, 2) := by decide +kernel
theorem dX8_findOdds_71 : decode cX8_findOdds 71 = .ok (.iload 7, 2) := by decide +kernel
theorem dX8_findOdds_73 : decode cX8_findOdds 73 = .ok (.ishr, 1) := by decide +kernel
theorem dX8_findOdds_74 : decode cX8_findOdds 74 = .ok (.iconst 1, 1) := by decide +kernel
theorem dX8_findOdds_75 : decode cX8_findOdds 75 = .ok (.iand, 1) := by decide +kernel
theorem dX8_findOdds_76 : decode cX8_findOdds 76 = .ok (.iconst 1, 1) := by decide +kernel
theorem dX8_findOdds_77 : decode cX8_findOdds 77 = .ok (.if_icmp .ne 7, 3) := by decide +kernel
theorem dX8_findOdds_80 : decode cX8_findOdds 80 = .ok (.iconst 1, 1) := by decide +kernel
theorem dX8_findOdds_81 : decode cX8_findOdds 81 = .ok (.goto 4, 3) := by decide +kernel
theorem dX8_findOdds_84 : decode cX8_findOdds 84 = .ok (.iconst 0, 1) := by decide +kernel
theorem dX8_findOdds_85 : decode cX8_findOdds 85 = .ok (.istore 8, 2) := by decide +kernel
theorem dX8_findOdds_87 : decode cX8_findOdds 87 = .ok (.lload 5, 2) := by decide +kernel
theorem dX8_findOdds_89 : decode cX8_findOdds 89 = .ok (.iload 8, 2) := by decide +kernel
theorem dX8_findOdds_91 : decode cX8_findOdds 91 = .ok (.ifCond .eq 8, 3) := by decide +kernel
theorem dX8_findOdds_94 : decode cX8_findOdds 94 = .ok (.iload_n 1, 1) := by decide +kernel
theorem dX8_findOdds_95 : decode cX8_findOdds 95 = .ok (.i2l, 1) := by decide +kernel
theorem dX8_findOdds_96 : decode cX8_findOdds 96 = .ok (.goto 8, 3) := by decide +kernel
theorem dX8_findOdds_99 : decode cX8_findOdds 99 = .ok (.bipush 10, 2) := by decide +kernel
theorem dX8_findOdds_101 : decode cX8_findOdds 101 = .ok (.iload_n 1, 1) := by decide +kernel
theorem dX8_findOdds_102 : decode cX8_findOdds 102 = .ok (.isub, 1) := by decide +kernel
theorem dX8_findOdds_103 : decode cX8_findOdds 103 = .ok (.i2l, 1) := by decide +kernel
theorem dX8_findOdds_104 : decode cX8_findOdds 104 = .ok (.lmul, 1) := by decide +kernel
theorem dX8_findOdds_105 : decode cX8_findOdds 105 = .ok (.lstore 5, 2) := by decide +kernel
theorem dX8_findOdds_107 : decode cX8_findOdds 107 = .ok (.aload_n 0, 1) := by decide +kernel
theorem dX8_findOdds_108 : decode cX8_findOdds 108 = .ok (.iload 8, 2) := by decide +kernel
theorem dX8_findOdds_110 : decode cX8_findOdds 110 = .ok (.ifCond .eq 7, 3) := by decide +kernel
theorem dX8_findOdds_113 : decode cX8_findOdds 113 = .ok (.iconst 0, 1) := by decide +kernel
theorem dX8_findOdds_114 : decode cX8_findOdds 114 = .ok (.goto 7, 3) := by decide +kernel
theorem dX8_findOdds_117 : decode cX8_findOdds 117 = .ok (.aload_n 0, 1) := by decide +kernel
theorem dX8_findOdds_118 : decode cX8_findOdds 118 = .ok (.invokevirtual 177, 3) := by decide +kernel
theorem dX8_findOdds_121 : decode cX8_findOdds 121 = .ok (.invokevirtual 180, 3) := by decide +kernel
theorem dX8_findOdds_124 : decode cX8_findOdds 124 = .ok (.iinc 7 1, 3) := by decide +kernel
theorem dX8_findOdds_127 : decode cX8_findOdds 127 = .ok (.goto (-64), 3) := by decide +kernel
theorem dX8_findOdds_130 : decode cX8_findOdds 130 = .ok (.aload_n 0, 1) := by decide +kernel
theorem dX8_findOdds_131 : decode cX8_findOdds 131 = .ok (.dup, 1) := by decide +kernel
theorem dX8_findOdds_132 : decode cX8_findOdds 132 = .ok (.getfield 254, 3) := by decide +kernel
theorem dX8_findOdds_135 : decode cX8_findOdds 135 = .ok (.iload_n 2, 1) := by decide +kernel
theorem dX8_findOdds_136 : decode cX8_findOdds 136 = .ok (.bipush (-4), 2) := by decide +kernel
theorem dX8_findOdds_138 : decode cX8_findOdds 138 = .ok (.if_icmp .eq 18, 3) := by decide +kernel
theorem dX8_findOdds_141 : decode cX8_findOdds 141 = .ok (.aload_n 0, 1) := by decide +kernel
theorem dX8_findOdds_142 : decode cX8_findOdds 142 = .ok (.iload_n 2, 1) := by decide +kernel
theorem dX8_findOdds_143 : decode cX8_findOdds 143 = .ok (.iconst 3, 1) := by decide +kernel
theorem dX8_findOdds_144 : decode cX8_findOdds 144 = .ok (.invokevirtual 144, 3) := by decide +kernel
theorem dX8_findOdds_147 : decode cX8_findOdds 147 = .ok (.iconst 2, 1) := by decide +kernel
theorem dX8_findOdds_148 : decode cX8_findOdds 148 = .ok (.if_icmp .ne 8, 3) := by decide +kernel
theorem dX8_findOdds_151 : decode cX8_findOdds 151 = .ok (.lload 5, 2) := by decide +kernel
theorem dX8_findOdds_153 : decode cX8_findOdds 153 = .ok (.goto 4, 3) := by decide +kernel
theorem dX8_findOdds_156 : decode cX8_findOdds 156 = .ok (.lconst 0, 1) := by decide +kernel
theorem dX8_findOdds_157 : decode cX8_findOdds 157 = .ok (.ladd, 1) := by decide +kernel
theorem dX8_findOdds_158 : decode cX8_findOdds 158 = .ok (.putfield 254, 3) := by decide +kernel
theorem dX8_findOdds_161 : decode cX8_findOdds 161 = .ok (.aload_n 0, 1) := by decide +kernel
theorem dX8_findOdds_162 : decode cX8_findOdds 162 = .ok (.dup, 1) := by decide +kernel
theorem dX8_findOdds_163 : decode cX8_findOdds 163 = .ok (.getfield 258, 3) := by decide +kernel
theorem dX8_findOdds_166 : decode cX8_findOdds 166 = .ok (.lload 5, 2) := by decide +kernel
theorem dX8_findOdds_168 : decode cX8_findOdds 168 = .ok (.aload_n 0, 1) := by decide +kernel
theorem dX8_findOdds_169 : decode cX8_findOdds 169 = .ok (.iconst 1, 1) := by decide +kernel
theorem dX8_findOdds_170 : decode cX8_findOdds 170 = .ok (.invokevirtual 186, 3) := by decide +kernel
theorem dX8_findOdds_173 : decode cX8_findOdds 173 = .ok (.i2l, 1) := by decide +kernel
theorem dX8_findOdds_174 : decode cX8_findOdds 174 = .ok (.lmul, 1) := by decide +kernel
theorem dX8_findOdds_175 : decode cX8_findOdds 175 = .ok (.ladd, 1) := by decide +kernel
theorem dX8_findOdds_176 : decode cX8_findOdds 176 = .ok (.putfield 258, 3) := by decide +kernel
theorem dX8_findOdds_179 : decode cX8_findOdds 179 = .ok (.iinc 4 1, 3) := by decide +kernel
theorem dX8_findOdds_182 : decode cX8_findOdds 182 = .ok (.goto (-137), 3) := by decide +kernel
theorem dX8_findOdds_185 : decode cX8_findOdds 185 = .ok (.return_, 1) := by decide +kernel
theorem dX8_luck_0 : decode cX8_luck 0 = .ok (.iload_n 1, 1) := by decide +kernel
theorem dX8_luck_1 : decode cX8_luck 1 = .ok (.i2l, 1) := by decide +kernel
theorem dX8_luck_2 : decode cX8_luck 2 = .ok (.lconst 0, 1) := by decide +kernel
theorem dX8_luck_3 : decode cX8_luck 3 = .ok (.ldc2_w 264, 3) := by decide +kernel
theorem dX8_luck_6 : decode cX8_luck 6 = .ok (.invokestatic 59, 3) := by decide +kernel
theorem dX8_luck_9 : decode cX8_luck 9 = .ok (.ifCond .eq 31, 3) := by decide +kernel
theorem dX8_luck_12 : decode cX8_luck 12 = .ok (.aload_n 0, 1) := by decide +kernel
theorem dX8_luck_13 : decode cX8_luck 13 = .ok (.iload_n 2, 1) := by decide +kernel
theorem dX8_luck_14 : decode cX8_luck 14 = .ok (.invokevirtual 191, 3) := by decide +kernel
theorem dX8_luck_17 : decode cX8_luck 17 = .ok (.ifCond .eq 23, 3) := by decide +kernel
theorem dX8_luck_20 : decode cX8_luck 20 = .ok (.iload_n 3, 1) := by decide +kernel
theorem dX8_luck_21 : decode cX8_luck 21 = .ok (.i2l, 1) := by decide +kernel
theorem dX8_luck_22 : decode cX8_luck 22 = .ok (.lconst 0, 1) := by decide +kernel
theorem dX8_luck_23 : decode cX8_luck 23 = .ok (.ldc2_w 266, 3) := by decide +kernel
theorem dX8_luck_26 : decode cX8_luck 26 = .ok (.invokestatic 59, 3) := by decide +kernel
theorem dX8_luck_29 : decode cX8_luck 29 = .ok (.ifCond .eq 11, 3) := by decide +kernel
theorem dX8_luck_32 : decode cX8_luck 32 = .ok (.iload 4, 2) := by decide +kernel
theorem dX8_luck_34 : decode cX8_luck 34 = .ok (.invokestatic 238, 3) := by decide +kernel
theorem dX8_luck_37 : decode cX8_luck 37 = .ok (.ifCond .ne 7, 3) := by decide +kernel
theorem dX8_luck_40 : decode cX8_luck 40 = .ok (.ldc2_w 268, 3) := by decide +kernel
theorem dX8_luck_43 : decode cX8_luck 43 = .ok (.lreturn, 1) := by decide +kernel
theorem dX8_luck_44 : decode cX8_luck 44 = .ok (.aload_n 0, 1) := by decide +kernel
theorem dX8_luck_45 : decode cX8_luck 45 = .ok (.iload_n 1, 1) := by decide +kernel
theorem dX8_luck_46 : decode cX8_luck 46 = .ok (.iload_n 2, 1) := by decide +kernel
theorem dX8_luck_47 : decode cX8_luck 47 = .ok (.iload_n 3, 1) := by decide +kernel
theorem dX8_luck_48 : decode cX8_luck 48 = .ok (.invokevirtual 270, 3) := by decide +kernel
theorem dX8_luck_51 : decode cX8_luck 51 = .ok (.aload_n 0, 1) := by decide +kernel
theorem dX8_luck_52 : decode cX8_luck 52 = .ok (.getfield 254, 3) := by decide +kernel
theorem dX8_luck_55 : decode cX8_luck 55 = .ok (.aload_n 0, 1) := by decide +kernel
theorem dX8_luck_56 : decode cX8_luck 56 = .ok (.getfield 261, 3) := by decide +kernel
theorem dX8_luck_59 : decode cX8_luck 59 = .ok (.iload 4, 2) := by decide +kernel
theorem dX8_luck_61 : decode cX8_luck 61 = .ok (.invokestatic 273, 3) := by decide +kernel
theorem dX8_luck_64 : decode cX8_luck 64 = .ok (.lreturn, 1) := by decide +kernel
theorem dX8_mean_0 : decode cX8_mean 0 = .ok (.iload_n 1, 1) := by decide +kernel
theorem dX8_mean_1 : decode cX8_mean 1 = .ok (.i2l, 1) := by decide +kernel
theorem dX8_mean_2 : decode cX8_mean 2 = .ok (.lconst 0, 1) := by decide +kernel
theorem dX8_mean_3 : decode cX8_mean 3 = .ok (.ldc2_w 264, 3) := by decide +kernel
theorem dX8_mean_6 : decode cX8_mean 6 = .ok (.invokestatic 59, 3) := by decide +kernel
theorem dX8_mean_9 : decode cX8_mean 9 = .ok (.ifCond .eq 22, 3) := by decide +kernel
theorem dX8_mean_12 : decode cX8_mean 12 = .ok (.iload_n 2, 1) := by decide +kernel
theorem dX8_mean_13 : decode cX8_mean 13 = .ok (.i2l, 1) := by decide +kernel
theorem dX8_mean_14 : decode cX8_mean 14 = .ok (.lconst 0, 1) := by decide +kernel
theorem dX8_mean_15 : decode cX8_mean 15 = .ok (.ldc2_w 266, 3) := by decide +kernel
theorem dX8_mean_18 : decode cX8_mean 18 = .ok (.invokestatic 59, 3) := by decide +kernel
theorem dX8_mean_21 : decode cX8_mean 21 = .ok (.ifCond .eq 10, 3) := by decide +kernel
theorem dX8_mean_24 : decode cX8_mean 24 = .ok (.iload_n 3, 1) := by decide +kernel
theorem dX8_mean_25 : decode cX8_mean 25 = .ok (.invokestatic 238, 3) := by decide +kernel
theorem dX8_mean_28 : decode cX8_mean 28 = .ok (.ifCond .ne 7, 3) := by decide +kernel
theorem dX8_mean_31 : decode cX8_mean 31 = .ok (.ldc2_w 268, 3) := by decide +kernel
theorem dX8_mean_34 : decode cX8_mean 34 = .ok (.lreturn, 1) := by decide +kernel
theorem dX8_mean_35 : decode cX8_mean 35 = .ok (.aload_n 0, 1) := by decide +kernel
theorem dX8_mean_36 : decode cX8_mean 36 = .ok (.iload_n 1, 1) := by decide +kernel
theorem dX8_mean_37 : decode cX8_mean 37 = .ok (.bipush (-4), 2) := by decide +kernel
theorem dX8_mean_39 : decode cX8_mean 39 = .ok (.iload_n 2, 1) := by decide +kernel
theorem dX8_mean_40 : decode cX8_mean 40 = .ok (.invokevirtual 270, 3) := by decide +kernel
theorem dX8_mean_43 : decode cX8_mean 43 = .ok (.aload_n 0, 1) := by decide +kernel
theorem dX8_mean_44 : decode cX8_mean 44 = .ok (.getfield 258, 3) := by decide +kernel
theorem dX8_mean_47 : decode cX8_mean 47 = .ok (.aload_n 0, 1) := by decide +kernel
theorem dX8_mean_48 : decode cX8_mean 48 = .ok (.getfield 261, 3) := by decide +kernel
theorem dX8_mean_51 : decode cX8_mean 51 = .ok (.iload_n 3, 1) := by decide +kernel
theorem dX8_mean_52 : decode cX8_mean 52 = .ok (.invokestatic 273, 3) := by decide +kernel
theorem dX8_mean_55 : decode cX8_mean 55 = .ok (.lreturn, 1) := by decide +kernel
theorem dX8_see_0 : decode cX8_see 0 = .ok (.iload_n 1, 1) := by decide +kernel
theorem dX8_see_1 : decode cX8_see 1 = .ok (.i2l, 1) := by decide +kernel
theorem dX8_see_2 : decode cX8_see 2 = .ok (.lconst 0, 1) := by decide +kernel
theorem dX8_see_3 : decode cX8_see 3 = .ok (.ldc2_w 201, 3) := by decide +kernel
theorem dX8_see_6 : decode cX8_see 6 = .ok (.invokestatic 59, 3) := by decide +kernel
theorem dX8_see_9 : decode cX8_see 9 = .ok (.ifCond .eq 23, 3) := by decide +kernel
theorem dX8_see_12 : decode cX8_see 12 = .ok (.aload_n 0, 1) := by decide +kernel
theorem dX8_see_13 : decode cX8_see 13 = .ok (.iload_n 2, 1) := by decide +kernel
theorem dX8_see_14 : decode cX8_see 14 = .ok (.invokevirtual 191, 3) := by decide +kernel
theorem dX8_see_17 : decode cX8_see 17 = .ok (.ifCond .eq 15, 3) := by decide +kernel
theorem dX8_see_20 : decode cX8_see 20 = .ok (.iload_n 3, 1) := by decide +kernel
theorem dX8_see_21 : decode cX8_see 21 = .ok (.i2l, 1) := by decide +kernel
theorem dX8_see_22 : decode cX8_see 22 = .ok (.lconst 0, 1) := by decide +kernel
theorem dX8_see_23 : decode cX8_see 23 = .ok (.ldc2_w 219, 3) := by decide +kernel
theorem dX8_see_26 : decode cX8_see 26 = .ok (.invokestatic 59, 3) := by decide +kernel
theorem dX8_see_29 : decode cX8_see 29 = .ok (.ifCond .ne 5, 3) := by decide +kernel
theorem dX8_see_32 : decode cX8_see 32 = .ok (.iconst (-1), 1) := by decide +kernel
theorem dX8_see_33 : decode cX8_see 33 = .ok (.ireturn, 1) := by decide +kernel
theorem dX8_see_34 : decode cX8_see 34 = .ok (.aload_n 0, 1) := by decide +kernel
theorem dX8_see_35 : decode cX8_see 35 = .ok (.getfield 7, 3) := by decide +kernel
theorem dX8_see_38 : decode cX8_see 38 = .ok (.bipush 38, 2) := by decide +kernel
theorem dX8_see_40 : decode cX8_see 40 = .ok (.iaload, 1) := by decide +kernel
theorem dX8_see_41 : decode cX8_see 41 = .ok (.bipush 6, 2) := by decide +kernel
theorem dX8_see_43 : decode cX8_see 43 = .ok (.if_icmp .ne 6, 3) := by decide +kernel
theorem dX8_see_46 : decode cX8_see 46 = .ok (.bipush (-3), 2) := by decide +kernel
theorem dX8_see_48 : decode cX8_see 48 = .ok (.ireturn, 1) := by decide +kernel
theorem dX8_see_49 : decode cX8_see 49 = .ok (.bipush 39, 2) := by decide +kernel
theorem dX8_see_51 : decode cX8_see 51 = .ok (.iconst 3, 1) := by decide +kernel
theorem dX8_see_52 : decode cX8_see 52 = .ok (.aload_n 0, 1) := by decide +kernel
theorem dX8_see_53 : decode cX8_see 53 = .ok (.getfield 7, 3) := by decide +kernel
theorem dX8_see_56 : decode cX8_see 56 = .ok (.bipush 38, 2) := by decide +kernel
theorem dX8_see_58 : decode cX8_see 58 = .ok (.iaload, 1) := by decide +kernel
theorem dX8_see_59 : decode cX8_see 59 = .ok (.imul, 1) := by decide +kernel
theorem dX8_see_60 : decode cX8_see 60 = .ok (.iadd, 1) := by decide +kernel
theorem dX8_see_61 : decode cX8_see 61 = .ok (.istore 4, 2) := by decide +kernel
theorem dX8_see_63 : decode cX8_see 63 = .ok (.aload_n 0, 1) := by decide +kernel
theorem dX8_see_64 : decode cX8_see 64 = .ok (.getfield 7, 3) := by decide +kernel
theorem dX8_see_67 : decode cX8_see 67 = .ok (.iload 4, 2) := by decide +kernel
theorem dX8_see_69 : decode cX8_see 69 = .ok (.iload_n 1, 1) := by decide +kernel
theorem dX8_see_70 : decode cX8_see 70 = .ok (.iastore, 1) := by decide +kernel
theorem dX8_see_71 : decode cX8_see 71 = .ok (.aload_n 0, 1) := by decide +kernel
theorem dX8_see_72 : decode cX8_see 72 = .ok (.getfield 7, 3) := by decide +kernel
theorem dX8_see_75 : decode cX8_see 75 = .ok (.iload 4, 2) := by decide +kernel
theorem dX8_see_77 : decode cX8_see 77 = .ok (.iconst 1, 1) := by decide +kernel
theorem dX8_see_78 : decode cX8_see 78 = .ok (.iadd, 1) := by decide +kernel
theorem dX8_see_79 : decode cX8_see 79 = .ok (.iload_n 2, 1) := by decide +kernel
theorem dX8_see_80 : decode cX8_see 80 = .ok (.iastore, 1) := by decide +kernel
theorem dX8_see_81 : decode cX8_see 81 = .ok (.aload_n 0, 1) := by decide +kernel
theorem dX8_see_82 : decode cX8_see 82 = .ok (.getfield 7, 3) := by decide +kernel
theorem dX8_see_85 : decode cX8_see 85 = .ok (.iload 4, 2) := by decide +kernel
theorem dX8_see_87 : decode cX8_see 87 = .ok (.iconst 2, 1) := by decide +kernel
theorem dX8_see_88 : decode cX8_see 88 = .ok (.iadd, 1) := by decide +kernel
theorem dX8_see_89 : decode cX8_see 89 = .ok (.iload_n 3, 1) := by decide +kernel
theorem dX8_see_90 : decode cX8_see 90 = .ok (.iastore, 1) := by decide +kernel
theorem dX8_see_91 : decode cX8_see 91 = .ok (.aload_n 0, 1) := by decide +kernel
theorem dX8_see_92 : decode cX8_see 92 = .ok (.getfield 7, 3) := by decide +kernel
theorem dX8_see_95 : decode cX8_see 95 = .ok (.bipush 38, 2) := by decide +kernel
theorem dX8_see_97 : decode cX8_see 97 = .ok (.dup2, 1) := by decide +kernel
theorem dX8_see_98 : decode cX8_see 98 = .ok (.iaload, 1) := by decide +kernel
theorem dX8_see_99 : decode cX8_see 99 = .ok (.iconst 1, 1) := by decide +kernel
theorem dX8_see_100 : decode cX8_see 100 = .ok (.iadd, 1) := by decide +kernel
theorem dX8_see_101 : decode cX8_see 101 = .ok (.iastore, 1) := by decide +kernel
theorem dX8_see_102 : decode cX8_see 102 = .ok (.aload_n 0, 1) := by decide +kernel
theorem dX8_see_103 : decode cX8_see 103 = .ok (.getfield 7, 3) := by decide +kernel
theorem dX8_see_106 : decode cX8_see 106 = .ok (.bipush 38, 2) := by decide +kernel
theorem dX8_see_108 : decode cX8_see 108 = .ok (.iaload, 1) := by decide +kernel
theorem dX8_see_109 : decode cX8_see 109 = .ok (.ireturn, 1) := by decide +kernel
theorem dX8_forget_0 : decode cX8_forget 0 = .ok (.iload_n 1, 1) := by decide +kernel
theorem dX8_forget_1 : decode cX8_forget 1 = .ok (.i2l, 1) := by decide +kernel
theorem dX8_forget_2 : decode cX8_forget 2 = .ok (.lconst 0, 1) := by decide +kernel
theorem dX8_forget_3 : decode cX8_forget 3 = .ok (.aload_n 0, 1) := by decide +kernel
theorem dX8_forget_4 : decode cX8_forget 4 = .ok (.getfield 7, 3) := by decide +kernel
theorem dX8_forget_7 : decode cX8_forget 7 = .ok (.bipush 38, 2) := by decide +kernel
theorem dX8_forget_9 : decode cX8_forget 9 = .ok (.iaload, 1) := by decide +kernel
theorem dX8_forget_10 : decode cX8_forget 10 = .ok (.i2l, 1) := by decide +kernel
theorem dX8_forget_11 : decode cX8_forget 11 = .ok (.invokestatic 59, 3) := by decide +kernel
theorem dX8_forget_14 : decode cX8_forget 14 = .ok (.ifCond .eq 13, 3) := by decide +kernel
theorem dX8_forget_17 : decode cX8_forget 17 = .ok (.aload_n 0, 1) := by decide +kernel
theorem dX8_forget_18 : decode cX8_forget 18 = .ok (.bipush 38, 2) := by decide +kernel
theorem dX8_forget_20 : decode cX8_forget 20 = .ok (.iload_n 1, 1) := by decide +kernel
theorem dX8_forget_21 : decode cX8_forget 21 = .ok (.invokevirtual 203, 3) := by decide +kernel
theorem dX8_forget_24 : decode cX8_forget 24 = .ok (.goto 4, 3) := by decide +kernel
theorem dX8_forget_27 : decode cX8_forget 27 = .ok (.iconst (-1), 1) := by decide +kernel
theorem dX8_forget_28 : decode cX8_forget 28 = .ok (.ireturn, 1) := by decide +kernel
theorem dX8_isSoWith_0 : decode cX8_isSoWith 0 = .ok (.aload_n 0, 1) := by decide +kernel
theorem dX8_isSoWith_1 : decode cX8_isSoWith 1 = .ok (.invokevirtual 183, 3) := by decide +kernel
theorem dX8_isSoWith_4 : decode cX8_isSoWith 4 = .ok (.aload_n 0, 1) := by decide +kernel
theorem dX8_isSoWith_5 : decode cX8_isSoWith 5 = .ok (.getfield 13, 3) := by decide +kernel
theorem dX8_isSoWith_8 : decode cX8_isSoWith 8 = .ok (.iload_n 1, 1) := by decide +kernel
theorem dX8_isSoWith_9 : decode cX8_isSoWith 9 = .ok (.iload_n 2, 1) := by decide +kernel
theorem dX8_isSoWith_10 : decode cX8_isSoWith 10 = .ok (.iastore, 1) := by decide +kernel
theorem dX8_isSoWith_11 : decode cX8_isSoWith 11 = .ok (.iconst 0, 1) := by decide +kernel
theorem dX8_isSoWith_12 : decode cX8_isSoWith 12 = .ok (.istore_n 3, 1) := by decide +kernel
theorem dX8_isSoWith_13 : decode cX8_isSoWith 13 = .ok (.iload_n 3, 1) := by decide +kernel
theorem dX8_isSoWith_14 : decode cX8_isSoWith 14 = .ok (.bipush 20, 2) := by decide +kernel
theorem dX8_isSoWith_16 : decode cX8_isSoWith 16 = .ok (.if_icmp .gt 54, 3) := by decide +kernel
theorem dX8_isSoWith_19 : decode cX8_isSoWith 19 = .ok (.iconst 0, 1) := by decide +kernel
theorem dX8_isSoWith_20 : decode cX8_isSoWith 20 = .ok (.istore 4, 2) := by decide +kernel
theorem dX8_isSoWith_22 : decode cX8_isSoWith 22 = .ok (.iload 4, 2) := by decide +kernel
theorem dX8_isSoWith_24 : decode cX8_isSoWith 24 = .ok (.aload_n 0, 1) := by decide +kernel
theorem dX8_isSoWith_25 : decode cX8_isSoWith 25 = .ok (.getfield 13, 3) := by decide +kernel
theorem dX8_isSoWith_28 : decode cX8_isSoWith 28 = .ok (.bipush 24, 2) := by decide +kernel
theorem dX8_isSoWith_30 : decode cX8_isSoWith 30 = .ok (.iaload, 1) := by decide +kernel
theorem dX8_isSoWith_31 : decode cX8_isSoWith 31 = .ok (.if_icmp .ge 28, 3) := by decide +kernel
theorem dX8_isSoWith_34 : decode cX8_isSoWith 34 = .ok (.aload_n 0, 1) := by decide +kernel
theorem dX8_isSoWith_35 : decode cX8_isSoWith 35 = .ok (.getfield 26, 3) := by decide +kernel
theorem dX8_isSoWith_38 : decode cX8_isSoWith 38 = .ok (.bipush 6, 2) := by decide +kernel
theorem dX8_isSoWith_40 : decode cX8_isSoWith 40 = .ok (.iload_n 3, 1) := by decide +kernel
theorem dX8_isSoWith_41 : decode cX8_isSoWith 41 = .ok (.imul, 1) := by decide +kernel
theorem dX8_isSoWith_42 : decode cX8_isSoWith 42 = .ok (.iload 4, 2) := by decide +kernel
theorem dX8_isSoWith_44 : decode cX8_isSoWith 44 = .ok (.iadd, 1) := by decide +kernel
theorem dX8_isSoWith_45 : decode cX8_isSoWith 45 = .ok (.aload_n 0, 1) := by decide +kernel
theorem dX8_isSoWith_46 : decode cX8_isSoWith 46 = .ok (.iload 4, 2) := by decide +kernel
theorem dX8_isSoWith_48 : decode cX8_isSoWith 48 = .ok (.iconst 3, 1) := by decide +kernel
theorem dX8_isSoWith_49 : decode cX8_isSoWith 49 = .ok (.invokevirtual 144, 3) := by decide +kernel
theorem dX8_isSoWith_52 : decode cX8_isSoWith 52 = .ok (.iastore, 1) := by decide +kernel
theorem dX8_isSoWith_53 : decode cX8_isSoWith 53 = .ok (.iinc 4 1, 3) := by decide +kernel
theorem dX8_isSoWith_56 : decode cX8_isSoWith 56 = .ok (.goto (-34), 3) := by decide +kernel
theorem dX8_isSoWith_59 : decode cX8_isSoWith 59 = .ok (.aload_n 0, 1) := by decide +kernel
theorem dX8_isSoWith_60 : decode cX8_isSoWith 60 = .ok (.iconst 1, 1) := by decide +kernel
theorem dX8_isSoWith_61 : decode cX8_isSoWith 61 = .ok (.invokevirtual 210, 3) := by decide +kernel
theorem dX8_isSoWith_64 : decode cX8_isSoWith 64 = .ok (.iinc 3 1, 3) := by decide +kernel
theorem dX8_isSoWith_67 : decode cX8_isSoWith 67 = .ok (.goto (-54), 3) := by decide +kernel
theorem dX8_isSoWith_70 : decode cX8_isSoWith 70 = .ok (.iconst 1, 1) := by decide +kernel
theorem dX8_isSoWith_71 : decode cX8_isSoWith 71 = .ok (.istore_n 3, 1) := by decide +kernel
theorem dX8_isSoWith_72 : decode cX8_isSoWith 72 = .ok (.iconst 0, 1) := by decide +kernel
theorem dX8_isSoWith_73 : decode cX8_isSoWith 73 = .ok (.istore 4, 2) := by decide +kernel
theorem dX8_isSoWith_75 : decode cX8_isSoWith 75 = .ok (.iload 4, 2) := by decide +kernel
theorem dX8_isSoWith_77 : decode cX8_isSoWith 77 = .ok (.aload_n 0, 1) := by decide +kernel
theorem dX8_isSoWith_78 : decode cX8_isSoWith 78 = .ok (.getfield 7, 3) := by decide +kernel
theorem dX8_isSoWith_81 : decode cX8_isSoWith 81 = .ok (.bipush 38, 2) := by decide +kernel
theorem dX8_isSoWith_83 : decode cX8_isSoWith 83 = .ok (.iaload, 1) := by decide +kernel
theorem dX8_isSoWith_84 : decode cX8_isSoWith 84 = .ok (.if_icmp .ge 65, 3) := by decide +kernel
theorem dX8_isSoWith_87 : decode cX8_isSoWith 87 = .ok (.bipush 39, 2) := by decide +kernel
theorem dX8_isSoWith_89 : decode cX8_isSoWith 89 = .ok (.iconst 3, 1) := by decide +kernel
theorem dX8_isSoWith_90 : decode cX8_isSoWith 90 = .ok (.iload 4, 2) := by decide +kernel
theorem dX8_isSoWith_92 : decode cX8_isSoWith 92 = .ok (.imul, 1) := by decide +kernel
theorem dX8_isSoWith_93 : decode cX8_isSoWith 93 = .ok (.iadd, 1) := by decide +kernel
theorem dX8_isSoWith_94 : decode cX8_isSoWith 94 = .ok (.istore 5, 2) := by decide +kernel
theorem dX8_isSoWith_96 : decode cX8_isSoWith 96 = .ok (.iload_n 3, 1) := by decide +kernel
theorem dX8_isSoWith_97 : decode cX8_isSoWith 97 = .ok (.ifCond .eq 44, 3) := by decide +kernel
theorem dX8_isSoWith_100 : decode cX8_isSoWith 100 = .ok (.aload_n 0, 1) := by decide +kernel
theorem dX8_isSoWith_101 : decode cX8_isSoWith 101 = .ok (.getfield 26, 3) := by decide +kernel
theorem dX8_isSoWith_104 : decode cX8_isSoWith 104 = .ok (.bipush 6, 2) := by decide +kernel
theorem dX8_isSoWith_106 : decode cX8_isSoWith 106 = .ok (.aload_n 0, 1) := by decide +kernel
theorem dX8_isSoWith_107 : decode cX8_isSoWith 107 = .ok (.getfield 7, 3) := by decide +kernel
theorem dX8_isSoWith_110 : decode cX8_isSoWith 110 = .ok (.iload 5, 2) := by decide +kernel
theorem dX8_isSoWith_112 : decode cX8_isSoWith 112 = .ok (.iaload, 1) := by decide +kernel
theorem dX8_isSoWith_113 : decode cX8_isSoWith 113 = .ok (.imul, 1) := by decide +kernel
theorem dX8_isSoWith_114 : decode cX8_isSoWith 114 = .ok (.aload_n 0, 1) := by decide +kernel
theorem dX8_isSoWith_115 : decode cX8_isSoWith 115 = .ok (.getfield 7, 3) := by decide +kernel
theorem dX8_isSoWith_118 : decode cX8_isSoWith 118 = .ok (.iload 5, 2) := by decide +kernel
theorem dX8_isSoWith_120 : decode cX8_isSoWith 120 = .ok (.iconst 1, 1) := by decide +kernel
theorem dX8_isSoWith_121 : decode cX8_isSoWith 121 = .ok (.iadd, 1) := by decide +kernel
theorem dX8_isSoWith_122 : decode cX8_isSoWith 122 = .ok (.iaload, 1) := by decide +kernel
theorem dX8_isSoWith_123 : decode cX8_isSoWith 123 = .ok (.iadd, 1) := by decide +kernel
theorem dX8_isSoWith_124 : decode cX8_isSoWith 124 = .ok (.iaload, 1) := by decide +kernel
theorem dX8_isSoWith_125 : decode cX8_isSoWith 125 = .ok (.aload_n 0, 1) := by decide +kernel
theorem dX8_isSoWith_126 : decode cX8_isSoWith 126 = .ok (.getfield 7, 3) := by decide +kernel
theorem dX8_isSoWith_129 : decode cX8_isSoWith 129 = .ok (.iload 5, 2) := by decide +kernel
theorem dX8_isSoWith_131 : decode cX8_isSoWith 131 = .ok (.iconst 2, 1) := by decide +kernel
theorem dX8_isSoWith_132 : decode cX8_isSoWith 132 = .ok (.iadd, 1) := by decide +kernel
theorem dX8_isSoWith_133 : decode cX8_isSoWith 133 = .ok (.iaload, 1) := by decide +kernel
theorem dX8_isSoWith_134 : decode cX8_isSoWith 134 = .ok (.if_icmp .ne 7, 3) := by decide +kernel
theorem dX8_isSoWith_137 : decode cX8_isSoWith 137 = .ok (.iconst 1, 1) := by decide +kernel
theorem dX8_isSoWith_138 : decode cX8_isSoWith 138 = .ok (.goto 4, 3) := by decide +kernel
theorem dX8_isSoWith_141 : decode cX8_isSoWith 141 = .ok (.iconst 0, 1) := by decide +kernel
theorem dX8_isSoWith_142 : decode cX8_isSoWith 142 = .ok (.istore_n 3, 1) := by decide +kernel
theorem dX8_isSoWith_143 : decode cX8_isSoWith 143 = .ok (.iinc 4 1, 3) := by decide +kernel
theorem dX8_isSoWith_146 : decode cX8_isSoWith 146 = .ok (.goto (-71), 3) := by decide +kernel
theorem dX8_isSoWith_149 : decode cX8_isSoWith 149 = .ok (.iload_n 3, 1) := by decide +kernel
theorem dX8_isSoWith_150 : decode cX8_isSoWith 150 = .ok (.ireturn, 1) := by decide +kernel
theorem dX8_which_0 : decode cX8_which 0 = .ok (.iconst 0, 1) := by decide +kernel
theorem dX8_which_1 : decode cX8_which 1 = .ok (.istore_n 3, 1) := by decide +kernel
theorem dX8_which_2 : decode cX8_which 2 = .ok (.iconst 0, 1) := by decide +kernel
theorem dX8_which_3 : decode cX8_which 3 = .ok (.istore 4, 2) := by decide +kernel
theorem dX8_which_5 : decode cX8_which 5 = .ok (.iload 4, 2) := by decide +kernel
theorem dX8_which_7 : decode cX8_which 7 = .ok (.iload_n 2, 1) := by decide +kernel
theorem dX8_which_8 : decode cX8_which 8 = .ok (.if_icmp .gt 25, 3) := by decide +kernel
theorem dX8_which_11 : decode cX8_which 11 = .ok (.iload_n 3, 1) := by decide +kernel
theorem dX8_which_12 : decode cX8_which 12 = .ok (.aload_n 0, 1) := by decide +kernel
theorem dX8_which_13 : decode cX8_which 13 = .ok (.iload_n 1, 1) := by decide +kernel
theorem dX8_which_14 : decode cX8_which 14 = .ok (.iload 4, 2) := by decide +kernel
theorem dX8_which_16 : decode cX8_which 16 = .ok (.invokevirtual 277, 3) := by decide +kernel
theorem dX8_which_19 : decode cX8_which 19 = .ok (.invokestatic 147, 3) := by decide +kernel
theorem dX8_which_22 : decode cX8_which 22 = .ok (.iload 4, 2) := by decide +kernel
theorem dX8_which_24 : decode cX8_which 24 = .ok (.ishl, 1) := by decide +kernel
theorem dX8_which_25 : decode cX8_which 25 = .ok (.ior, 1) := by decide +kernel
theorem dX8_which_26 : decode cX8_which 26 = .ok (.istore_n 3, 1) := by decide +kernel
theorem dX8_which_27 : decode cX8_which 27 = .ok (.iinc 4 1, 3) := by decide +kernel
theorem dX8_which_30 : decode cX8_which 30 = .ok (.goto (-25), 3) := by decide +kernel
theorem dX8_which_33 : decode cX8_which 33 = .ok (.iload_n 3, 1) := by decide +kernel
theorem dX8_which_34 : decode cX8_which 34 = .ok (.ireturn, 1) := by decide +kernel
theorem dX8_kinds_0 : decode cX8_kinds 0 = .ok (.aload_n 0, 1) := by decide +kernel
theorem dX8_kinds_1 : decode cX8_kinds 1 = .ok (.iload_n 1, 1) := by decide +kernel
theorem dX8_kinds_2 : decode cX8_kinds 2 = .ok (.invokevirtual 191, 3) := by decide +kernel
theorem dX8_kinds_5 : decode cX8_kinds 5 = .ok (.ifCond .eq 16, 3) := by decide +kernel
theorem dX8_kinds_8 : decode cX8_kinds 8 = .ok (.aload_n 0, 1) := by decide +kernel
theorem dX8_kinds_9 : decode cX8_kinds 9 = .ok (.iconst 4, 1) := by decide +kernel
theorem dX8_kinds_10 : decode cX8_kinds 10 = .ok (.iload_n 1, 1) := by decide +kernel
theorem dX8_kinds_11 : decode cX8_kinds 11 = .ok (.imul, 1) := by decide +kernel
theorem dX8_kinds_12 : decode cX8_kinds 12 = .ok (.iconst 0, 1) := by decide +kernel
theorem dX8_kinds_13 : decode cX8_kinds 13 = .ok (.iadd, 1) := by decide +kernel
theorem dX8_kinds_14 : decode cX8_kinds 14 = .ok (.iconst 3, 1) := by decide +kernel
theorem dX8_kinds_15 : decode cX8_kinds 15 = .ok (.invokevirtual 281, 3) := by decide +kernel
theorem dX8_kinds_18 : decode cX8_kinds 18 = .ok (.goto 4, 3) := by decide +kernel
theorem dX8_kinds_21 : decode cX8_kinds 21 = .ok (.iconst (-1), 1) := by decide +kernel
theorem dX8_kinds_22 : decode cX8_kinds 22 = .ok (.ireturn, 1) := by decide +kernel
theorem dX8_greys_0 : decode cX8_greys 0 = .ok (.aload_n 0, 1) := by decide +kernel
theorem dX8_greys_1 : decode cX8_greys 1 = .ok (.iload_n 1, 1) := by decide +kernel
theorem dX8_greys_2 : decode cX8_greys 2 = .ok (.invokevirtual 191, 3) := by decide +kernel
theorem dX8_greys_5 : decode cX8_greys 5 = .ok (.ifCond .eq 17, 3) := by decide +kernel
theorem dX8_greys_8 : decode cX8_greys 8 = .ok (.aload_n 0, 1) := by decide +kernel
theorem dX8_greys_9 : decode cX8_greys 9 = .ok (.iconst 4, 1) := by decide +kernel
theorem dX8_greys_10 : decode cX8_greys 10 = .ok (.iload_n 1, 1) := by decide +kernel
theorem dX8_greys_11 : decode cX8_greys 11 = .ok (.imul, 1) := by decide +kernel
theorem dX8_greys_12 : decode cX8_greys 12 = .ok (.iconst 1, 1) := by decide +kernel
theorem dX8_greys_13 : decode cX8_greys 13 = .ok (.iadd, 1) := by decide +kernel
theorem dX8_greys_14 : decode cX8_greys 14 = .ok (.bipush 30, 2) := by decide +kernel
theorem dX8_greys_16 : decode cX8_greys 16 = .ok (.invokevirtual 281, 3) := by decide +kernel
theorem dX8_greys_19 : decode cX8_greys 19 = .ok (.goto 4, 3) := by decide +kernel
theorem dX8_greys_22 : decode cX8_greys 22 = .ok (.iconst (-1), 1) := by decide +kernel
theorem dX8_greys_23 : decode cX8_greys 23 = .ok (.ireturn, 1) := by decide +kernel
theorem dX8_ask_0 : decode cX8_ask 0 = .ok (.aload_n 0, 1) := by decide +kernel
theorem dX8_ask_1 : decode cX8_ask 1 = .ok (.iload_n 1, 1) := by decide +kernel
theorem dX8_ask_2 : decode cX8_ask 2 = .ok (.invokevirtual 191, 3) := by decide +kernel
theorem dX8_ask_5 : decode cX8_ask 5 = .ok (.ifCond .eq 10, 3) := by decide +kernel
theorem dX8_ask_8 : decode cX8_ask 8 = .ok (.iload_n 2, 1) := by decide +kernel
theorem dX8_ask_9 : decode cX8_ask 9 = .ok (.invokestatic 238, 3) := by decide +kernel
theorem dX8_ask_12 : decode cX8_ask 12 = .ok (.ifCond .ne 5, 3) := by decide +kernel
theorem dX8_ask_15 : decode cX8_ask 15 = .ok (.iconst (-1), 1) := by decide +kernel
theorem dX8_ask_16 : decode cX8_ask 16 = .ok (.ireturn, 1) := by decide +kernel
theorem dX8_ask_17 : decode cX8_ask 17 = .ok (.iconst 0, 1) := by decide +kernel
theorem dX8_ask_18 : decode cX8_ask 18 = .ok (.istore_n 3, 1) := by decide +kernel
theorem dX8_ask_19 : decode cX8_ask 19 = .ok (.iconst 0, 1) := by decide +kernel
theorem dX8_ask_20 : decode cX8_ask 20 = .ok (.istore 4, 2) := by decide +kernel
theorem dX8_ask_22 : decode cX8_ask 22 = .ok (.iload 4, 2) := by decide +kernel
theorem dX8_ask_24 : decode cX8_ask 24 = .ok (.sipush 378, 3) := by decide +kernel
theorem dX8_ask_27 : decode cX8_ask 27 = .ok (.if_icmp .ge 17, 3) := by decide +kernel
theorem dX8_ask_30 : decode cX8_ask 30 = .ok (.aload_n 0, 1) := by decide +kernel
theorem dX8_ask_31 : decode cX8_ask 31 = .ok (.getfield 29, 3) := by decide +kernel
theorem dX8_ask_34 : decode cX8_ask 34 = .ok (.iload 4, 2) := by decide +kernel
theorem dX8_ask_36 : decode cX8_ask 36 = .ok (.iconst 0, 1) := by decide +kernel
theorem dX8_ask_37 : decode cX8_ask 37 = .ok (.iastore, 1) := by decide +kernel
theorem dX8_ask_38 : decode cX8_ask 38 = .ok (.iinc 4 1, 3) := by decide +kernel
theorem dX8_ask_41 : decode cX8_ask 41 = .ok (.goto (-19), 3) := by decide +kernel
theorem dX8_ask_44 : decode cX8_ask 44 = .ok (.iconst 0, 1) := by decide +kernel
theorem dX8_ask_45 : decode cX8_ask 45 = .ok (.istore 4, 2) := by decide +kernel
theorem dX8_ask_47 : decode cX8_ask 47 = .ok (.iload 4, 2) := by decide +kernel
theorem dX8_ask_49 : decode cX8_ask 49 = .ok (.bipush 30, 2) := by decide +kernel
theorem dX8_ask_51 : decode cX8_ask 51 = .ok (.if_icmp .gt 82, 3) := by decide +kernel
theorem dX8_ask_54 : decode cX8_ask 54 = .ok (.aload_n 0, 1) := by decide +kernel
theorem dX8_ask_55 : decode cX8_ask 55 = .ok (.iconst 4, 1) := by decide +kernel
theorem dX8_ask_56 : decode cX8_ask 56 = .ok (.iload_n 1, 1) := by decide +kernel
theorem dX8_ask_57 : decode cX8_ask 57 = .ok (.imul, 1) := by decide +kernel
theorem dX8_ask_58 : decode cX8_ask 58 = .ok (.iconst 1, 1) := by decide +kernel
theorem dX8_ask_59 : decode cX8_ask 59 = .ok (.iadd, 1) := by decide +kernel
theorem dX8_ask_60 : decode cX8_ask 60 = .ok (.iload 4, 2) := by decide +kernel
theorem dX8_ask_62 : decode cX8_ask 62 = .ok (.invokevirtual 277, 3) := by decide +kernel
theorem dX8_ask_65 : decode cX8_ask 65 = .ok (.ifCond .eq 62, 3) := by decide +kernel
theorem dX8_ask_68 : decode cX8_ask 68 = .ok (.iconst 0, 1) := by decide +kernel
theorem dX8_ask_69 : decode cX8_ask 69 = .ok (.istore 5, 2) := by decide +kernel
theorem dX8_ask_71 : decode cX8_ask 71 = .ok (.iload 5, 2) := by decide +kernel
theorem dX8_ask_73 : decode cX8_ask 73 = .ok (.bipush 126, 2) := by decide +kernel
theorem dX8_ask_75 : decode cX8_ask 75 = .ok (.if_icmp .ge 49, 3) := by decide +kernel
theorem dX8_ask_78 : decode cX8_ask 78 = .ok (.aload_n 0, 1) := by decide +kernel
theorem dX8_ask_79 : decode cX8_ask 79 = .ok (.getfield 29, 3) := by decide +kernel
theorem dX8_ask_82 : decode cX8_ask 82 = .ok (.iconst 3, 1) := by decide +kernel
theorem dX8_ask_83 : decode cX8_ask 83 = .ok (.iload 5, 2) := by decide +kernel
theorem dX8_ask_85 : decode cX8_ask 85 = .ok (.imul, 1) := by decide +kernel
theorem dX8_ask_86 : decode cX8_ask 86 = .ok (.iload 5, 2) := by decide +kernel
theorem dX8_ask_88 : decode cX8_ask 88 = .ok (.bipush 6, 2) := by decide +kernel
theorem dX8_ask_90 : decode cX8_ask 90 = .ok (.irem, 1) := by decide +kernel
theorem dX8_ask_91 : decode cX8_ask 91 = .ok (.aload_n 0, 1) := by decide +kernel
theorem dX8_ask_92 : decode cX8_ask 92 = .ok (.getfield 7, 3) := by decide +kernel
theorem dX8_ask_95 : decode cX8_ask 95 = .ok (.bipush 24, 2) := by decide +kernel
theorem dX8_ask_97 : decode cX8_ask 97 = .ok (.iaload, 1) := by decide +kernel
theorem dX8_ask_98 : decode cX8_ask 98 = .ok (.if_icmp .ge 13, 3) := by decide +kernel
theorem dX8_ask_101 : decode cX8_ask 101 = .ok (.aload_n 0, 1) := by decide +kernel
theorem dX8_ask_102 : decode cX8_ask 102 = .ok (.getfield 26, 3) := by decide +kernel
theorem dX8_ask_105 : decode cX8_ask 105 = .ok (.iload 5, 2) := by decide +kernel
theorem dX8_ask_107 : decode cX8_ask 107 = .ok (.iaload, 1) := by decide +kernel
theorem dX8_ask_108 : decode cX8_ask 108 = .ok (.goto 4, 3) := by decide +kernel
theorem dX8_ask_111 : decode cX8_ask 111 = .ok (.iconst 0, 1) := by decide +kernel
theorem dX8_ask_112 : decode cX8_ask 112 = .ok (.iadd, 1) := by decide +kernel
theorem dX8_ask_113 : decode cX8_ask 113 = .ok (.dup2, 1) := by decide +kernel
theorem dX8_ask_114 : decode cX8_ask 114 = .ok (.iaload, 1) := by decide +kernel
theorem dX8_ask_115 : decode cX8_ask 115 = .ok (.iconst 1, 1) := by decide +kernel
theorem dX8_ask_116 : decode cX8_ask 116 = .ok (.iadd, 1) := by decide +kernel
theorem dX8_ask_117 : decode cX8_ask 117 = .ok (.iastore, 1) := by decide +kernel
theorem dX8_ask_118 : decode cX8_ask 118 = .ok (.iinc 5 1, 3) := by decide +kernel
theorem dX8_ask_121 : decode cX8_ask 121 = .ok (.goto (-50), 3) := by decide +kernel
theorem dX8_ask_124 : decode cX8_ask 124 = .ok (.iinc 3 1, 3) := by decide +kernel
theorem dX8_ask_127 : decode cX8_ask 127 = .ok (.iinc 4 1, 3) := by decide +kernel
theorem dX8_ask_130 : decode cX8_ask 130 = .ok (.goto (-83), 3) := by decide +kernel
theorem dX8_ask_133 : decode cX8_ask 133 = .ok (.aload_n 0, 1) := by decide +kernel
theorem dX8_ask_134 : decode cX8_ask 134 = .ok (.iload_n 3, 1) := by decide +kernel
theorem dX8_ask_135 : decode cX8_ask 135 = .ok (.invokevirtual 241, 3) := by decide +kernel
theorem dX8_ask_138 : decode cX8_ask 138 = .ok (.iconst 0, 1) := by decide +kernel
theorem dX8_ask_139 : decode cX8_ask 139 = .ok (.istore 4, 2) := by decide +kernel
theorem dX8_ask_141 : decode cX8_ask 141 = .ok (.iload 4, 2) := by decide +kernel
theorem dX8_ask_143 : decode cX8_ask 143 = .ok (.bipush 126, 2) := by decide +kernel
theorem dX8_ask_145 : decode cX8_ask 145 = .ok (.if_icmp .ge 98, 3) := by decide +kernel
theorem dX8_ask_148 : decode cX8_ask 148 = .ok (.iconst 0, 1) := by decide +kernel
theorem dX8_ask_149 : decode cX8_ask 149 = .ok (.istore 5, 2) := by decide +kernel
theorem dX8_ask_151 : decode cX8_ask 151 = .ok (.iconst 0, 1) := by decide +kernel
theorem dX8_ask_152 : decode cX8_ask 152 = .ok (.istore 6, 2) := by decide +kernel
theorem dX8_ask_154 : decode cX8_ask 154 = .ok (.iload 6, 2) := by decide +kernel
theorem dX8_ask_156 : decode cX8_ask 156 = .ok (.iconst 2, 1) := by decide +kernel
theorem dX8_ask_157 : decode cX8_ask 157 = .ok (.if_icmp .gt 45, 3) := by decide +kernel
theorem dX8_ask_160 : decode cX8_ask 160 = .ok (.aload_n 0, 1) := by decide +kernel
theorem dX8_ask_161 : decode cX8_ask 161 = .ok (.getfield 29, 3) := by decide +kernel
theorem dX8_ask_164 : decode cX8_ask 164 = .ok (.iconst 3, 1) := by decide +kernel
theorem dX8_ask_165 : decode cX8_ask 165 = .ok (.iload 4, 2) := by decide +kernel
theorem dX8_ask_167 : decode cX8_ask 167 = .ok (.imul, 1) := by decide +kernel
theorem dX8_ask_168 : decode cX8_ask 168 = .ok (.iload 6, 2) := by decide +kernel
theorem dX8_ask_170 : decode cX8_ask 170 = .ok (.iadd, 1) := by decide +kernel
theorem dX8_ask_171 : decode cX8_ask 171 = .ok (.iaload, 1) := by decide +kernel
theorem dX8_ask_172 : decode cX8_ask 172 = .ok (.iload 5, 2) := by decide +kernel
theorem dX8_ask_174 : decode cX8_ask 174 = .ok (.if_icmp .le 18, 3) := by decide +kernel
theorem dX8_ask_177 : decode cX8_ask 177 = .ok (.aload_n 0, 1) := by decide +kernel
theorem dX8_ask_178 : decode cX8_ask 178 = .ok (.getfield 29, 3) := by decide +kernel
theorem dX8_ask_181 : decode cX8_ask 181 = .ok (.iconst 3, 1) := by decide +kernel
theorem dX8_ask_182 : decode cX8_ask 182 = .ok (.iload 4, 2) := by decide +kernel
theorem dX8_ask_184 : decode cX8_ask 184 = .ok (.imul, 1) := by decide +kernel
theorem dX8_ask_185 : decode cX8_ask 185 = .ok (.iload 6, 2) := by decide +kernel
theorem dX8_ask_187 : decode cX8_ask 187 = .ok (.iadd, 1) := by decide +kernel
theorem dX8_ask_188 : decode cX8_ask 188 = .ok (.iaload, 1) := by decide +kernel
theorem dX8_ask_189 : decode cX8_ask 189 = .ok (.goto 5, 3) := by decide +kernel
theorem dX8_ask_192 : decode cX8_ask 192 = .ok (.iload 5, 2) := by decide +kernel
theorem dX8_ask_194 : decode cX8_ask 194 = .ok (.istore 5, 2) := by decide +kernel
theorem dX8_ask_196 : decode cX8_ask 196 = .ok (.iinc 6 1, 3) := by decide +kernel
theorem dX8_ask_199 : decode cX8_ask 199 = .ok (.goto (-45), 3) := by decide +kernel
theorem dX8_ask_202 : decode cX8_ask 202 = .ok (.iload 4, 2) := by decide +kernel
theorem dX8_ask_204 : decode cX8_ask 204 = .ok (.bipush 6, 2) := by decide +kernel
theorem dX8_ask_206 : decode cX8_ask 206 = .ok (.irem, 1) := by decide +kernel
theorem dX8_ask_207 : decode cX8_ask 207 = .ok (.aload_n 0, 1) := by decide +kernel
theorem dX8_ask_208 : decode cX8_ask 208 = .ok (.getfield 7, 3) := by decide +kernel
theorem dX8_ask_211 : decode cX8_ask 211 = .ok (.bipush 24, 2) := by decide +kernel
theorem dX8_ask_213 : decode cX8_ask 213 = .ok (.iaload, 1) := by decide +kernel
theorem dX8_ask_214 : decode cX8_ask 214 = .ok (.if_icmp .ge 23, 3) := by decide +kernel
theorem dX8_ask_217 : decode cX8_ask 217 = .ok (.aload_n 0, 1) := by decide +kernel
theorem dX8_ask_218 : decode cX8_ask 218 = .ok (.bipush 10, 2) := by decide +kernel
theorem dX8_ask_220 : decode cX8_ask 220 = .ok (.iload 4, 2) := by decide +kernel
theorem dX8_ask_222 : decode cX8_ask 222 = .ok (.bipush 6, 2) := by decide +kernel
theorem dX8_ask_224 : decode cX8_ask 224 = .ok (.idiv, 1) := by decide +kernel
theorem dX8_ask_225 : decode cX8_ask 225 = .ok (.imul, 1) := by decide +kernel
theorem dX8_ask_226 : decode cX8_ask 226 = .ok (.iload 4, 2) := by decide +kernel
theorem dX8_ask_228 : decode cX8_ask 228 = .ok (.bipush 6, 2) := by decide +kernel
theorem dX8_ask_230 : decode cX8_ask 230 = .ok (.irem, 1) := by decide +kernel
theorem dX8_ask_231 : decode cX8_ask 231 = .ok (.iadd, 1) := by decide +kernel
theorem dX8_ask_232 : decode cX8_ask 232 = .ok (.iload 5, 2) := by decide +kernel
theorem dX8_ask_234 : decode cX8_ask 234 = .ok (.invokevirtual 244, 3) := by decide +kernel
theorem dX8_ask_237 : decode cX8_ask 237 = .ok (.iinc 4 1, 3) := by decide +kernel
theorem dX8_ask_240 : decode cX8_ask 240 = .ok (.goto (-99), 3) := by decide +kernel
theorem dX8_ask_243 : decode cX8_ask 243 = .ok (.aload_n 0, 1) := by decide +kernel
theorem dX8_ask_244 : decode cX8_ask 244 = .ok (.iload_n 2, 1) := by decide +kernel
theorem dX8_ask_245 : decode cX8_ask 245 = .ok (.invokevirtual 247, 3) := by decide +kernel
theorem dX8_ask_248 : decode cX8_ask 248 = .ok (.ireturn, 1) := by decide +kernel
theorem dX8_drift_0 : decode cX8_drift 0 = .ok (.iload_n 2, 1) := by decide +kernel
theorem dX8_drift_1 : decode cX8_drift 1 = .ok (.i2l, 1) := by decide +kernel
theorem dX8_drift_2 : decode cX8_drift 2 = .ok (.lconst 1, 1) := by decide +kernel
theorem dX8_drift_3 : decode cX8_drift 3 = .ok (.ldc2_w 199, 3) := by decide +kernel
theorem dX8_drift_6 : decode cX8_drift 6 = .ok (.invokestatic 59, 3) := by decide +kernel
theorem dX8_drift_9 : decode cX8_drift 9 = .ok (.ifCond .eq 10, 3) := by decide +kernel
theorem dX8_drift_12 : decode cX8_drift 12 = .ok (.iload_n 3, 1) := by decide +kernel
theorem dX8_drift_13 : decode cX8_drift 13 = .ok (.invokestatic 238, 3) := by decide +kernel
theorem dX8_drift_16 : decode cX8_drift 16 = .ok (.ifCond .ne 5, 3) := by decide +kernel
theorem dX8_drift_19 : decode cX8_drift 19 = .ok (.iconst (-1), 1) := by decide +kernel
theorem dX8_drift_20 : decode cX8_drift 20 = .ok (.ireturn, 1) := by decide +kernel
theorem dX8_drift_21 : decode cX8_drift 21 = .ok (.aload_n 0, 1) := by decide +kernel
theorem dX8_drift_22 : decode cX8_drift 22 = .ok (.getfield 7, 3) := by decide +kernel
theorem dX8_drift_25 : decode cX8_drift 25 = .ok (.bipush 24, 2) := by decide +kernel
theorem dX8_drift_27 : decode cX8_drift 27 = .ok (.iaload, 1) := by decide +kernel
theorem dX8_drift_28 : decode cX8_drift 28 = .ok (.ifCond .ne 6, 3) := by decide +kernel
theorem dX8_drift_31 : decode cX8_drift 31 = .ok (.bipush (-2), 2) := by decide +kernel
theorem dX8_drift_33 : decode cX8_drift 33 = .ok (.ireturn, 1) := by decide +kernel
theorem dX8_drift_34 : decode cX8_drift 34 = .ok (.iload_n 1, 1) := by decide +kernel
theorem dX8_drift_35 : decode cX8_drift 35 = .ok (.istore 4, 2) := by decide +kernel
theorem dX8_drift_37 : decode cX8_drift 37 = .ok (.aload_n 0, 1) := by decide +kernel
theorem dX8_drift_38 : decode cX8_drift 38 = .ok (.invokevirtual 183, 3) := by decide +kernel
theorem dX8_drift_41 : decode cX8_drift 41 = .ok (.iconst 0, 1) := by decide +kernel
theorem dX8_drift_42 : decode cX8_drift 42 = .ok (.istore 5, 2) := by decide +kernel
theorem dX8_drift_44 : decode cX8_drift 44 = .ok (.iload 5, 2) := by decide +kernel
theorem dX8_drift_46 : decode cX8_drift 46 = .ok (.iload_n 2, 1) := by decide +kernel
theorem dX8_drift_47 : decode cX8_drift 47 = .ok (.if_icmp .ge 84, 3) := by decide +kernel
theorem dX8_drift_50 : decode cX8_drift 50 = .ok (.iload 4, 2) := by decide +kernel
theorem dX8_drift_52 : decode cX8_drift 52 = .ok (.ldc_w 284, 3) := by decide +kernel
theorem dX8_drift_55 : decode cX8_drift 55 = .ok (.imul, 1) := by decide +kernel
theorem dX8_drift_56 : decode cX8_drift 56 = .ok (.sipush 12345, 3) := by decide +kernel
theorem dX8_drift_59 : decode cX8_drift 59 = .ok (.iadd, 1) := by decide +kernel
theorem dX8_drift_60 : decode cX8_drift 60 = .ok (.istore 4, 2) := by decide +kernel
theorem dX8_drift_62 : decode cX8_drift 62 = .ok (.iload 4, 2) := by decide +kernel
theorem dX8_drift_64 : decode cX8_drift 64 = .ok (.bipush 16, 2) := by decide +kernel
theorem dX8_drift_66 : decode cX8_drift 66 = .ok (.ishr, 1) := by decide +kernel
theorem dX8_drift_67 : decode cX8_drift 67 = .ok (.sipush 32767, 3) := by decide +kernel
theorem dX8_drift_70 : decode cX8_drift 70 = .ok (.iand, 1) := by decide +kernel
theorem dX8_drift_71 : decode cX8_drift 71 = .ok (.istore 6, 2) := by decide +kernel
theorem dX8_drift_73 : decode cX8_drift 73 = .ok (.iload 6, 2) := by decide +kernel
theorem dX8_drift_75 : decode cX8_drift 75 = .ok (.bipush 16, 2) := by decide +kernel
theorem dX8_drift_77 : decode cX8_drift 77 = .ok (.idiv, 1) := by decide +kernel
theorem dX8_drift_78 : decode cX8_drift 78 = .ok (.aload_n 0, 1) := by decide +kernel
theorem dX8_drift_79 : decode cX8_drift 79 = .ok (.getfield 7, 3) := by decide +kernel
theorem dX8_drift_82 : decode cX8_drift 82 = .ok (.bipush 24, 2) := by decide +kernel
theorem dX8_drift_84 : decode cX8_drift 84 = .ok (.iaload, 1) := by decide +kernel
theorem dX8_drift_85 : decode cX8_drift 85 = .ok (.irem, 1) := by decide +kernel
theorem dX8_drift_86 : decode cX8_drift 86 = .ok (.istore 7, 2) := by decide +kernel
theorem dX8_drift_88 : decode cX8_drift 88 = .ok (.aload_n 0, 1) := by decide +kernel
theorem dX8_drift_89 : decode cX8_drift 89 = .ok (.iload 7, 2) := by decide +kernel
theorem dX8_drift_91 : decode cX8_drift 91 = .ok (.iconst 1, 1) := by decide +kernel
theorem dX8_drift_92 : decode cX8_drift 92 = .ok (.bipush 60, 2) := by decide +kernel
theorem dX8_drift_94 : decode cX8_drift 94 = .ok (.aload_n 0, 1) := by decide +kernel
theorem dX8_drift_95 : decode cX8_drift 95 = .ok (.iload 7, 2) := by decide +kernel
theorem dX8_drift_97 : decode cX8_drift 97 = .ok (.iconst 1, 1) := by decide +kernel
theorem dX8_drift_98 : decode cX8_drift 98 = .ok (.invokevirtual 144, 3) := by decide +kernel
theorem dX8_drift_101 : decode cX8_drift 101 = .ok (.iload 6, 2) := by decide +kernel
theorem dX8_drift_103 : decode cX8_drift 103 = .ok (.sipush 128, 3) := by decide +kernel
theorem dX8_drift_106 : decode cX8_drift 106 = .ok (.idiv, 1) := by decide +kernel
theorem dX8_drift_107 : decode cX8_drift 107 = .ok (.iconst 3, 1) := by decide +kernel
theorem dX8_drift_108 : decode cX8_drift 108 = .ok (.irem, 1) := by decide +kernel
theorem dX8_drift_109 : decode cX8_drift 109 = .ok (.iadd, 1) := by decide +kernel
theorem dX8_drift_110 : decode cX8_drift 110 = .ok (.invokestatic 285, 3) := by decide +kernel
theorem dX8_drift_113 : decode cX8_drift 113 = .ok (.invokevirtual 160, 3) := by decide +kernel
theorem dX8_drift_116 : decode cX8_drift 116 = .ok (.aload_n 0, 1) := by decide +kernel
theorem dX8_drift_117 : decode cX8_drift 117 = .ok (.iload 6, 2) := by decide +kernel
theorem dX8_drift_119 : decode cX8_drift 119 = .ok (.bipush 10, 2) := by decide +kernel
theorem dX8_drift_121 : decode cX8_drift 121 = .ok (.irem, 1) := by decide +kernel
theorem dX8_drift_122 : decode cX8_drift 122 = .ok (.invokevirtual 180, 3) := by decide +kernel
theorem dX8_drift_125 : decode cX8_drift 125 = .ok (.iinc 5 1, 3) := by decide +kernel
theorem dX8_drift_128 : decode cX8_drift 128 = .ok (.goto (-84), 3) := by decide +kernel
theorem dX8_drift_131 : decode cX8_drift 131 = .ok (.iload_n 3, 1) := by decide +kernel
theorem dX8_drift_132 : decode cX8_drift 132 = .ok (.ifCond .ne 11, 3) := by decide +kernel
theorem dX8_drift_135 : decode cX8_drift 135 = .ok (.aload_n 0, 1) := by decide +kernel
theorem dX8_drift_136 : decode cX8_drift 136 = .ok (.iconst 2, 1) := by decide +kernel
theorem dX8_drift_137 : decode cX8_drift 137 = .ok (.invokevirtual 164, 3) := by decide +kernel
theorem dX8_drift_140 : decode cX8_drift 140 = .ok (.goto 8, 3) := by decide +kernel
theorem dX8_drift_143 : decode cX8_drift 143 = .ok (.aload_n 0, 1) := by decide +kernel
theorem dX8_drift_144 : decode cX8_drift 144 = .ok (.iconst 1, 1) := by decide +kernel
theorem dX8_drift_145 : decode cX8_drift 145 = .ok (.invokevirtual 186, 3) := by decide +kernel
theorem dX8_drift_148 : decode cX8_drift 148 = .ok (.ireturn, 1) := by decide +kernel
theorem dX8_copies_0 : decode cX8_copies 0 = .ok (.iconst 0, 1) := by decide +kernel
theorem dX8_copies_1 : decode cX8_copies 1 = .ok (.istore_n 3, 1) := by decide +kernel
theorem dX8_copies_2 : decode cX8_copies 2 = .ok (.iload_n 3, 1) := by decide +kernel
theorem dX8_copies_3 : decode cX8_copies 3 = .ok (.bipush 57, 2) := by decide +kernel
theorem dX8_copies_5 : decode cX8_copies 5 = .ok (.if_icmp .ge 25, 3) := by decide +kernel
theorem dX8_copies_8 : decode cX8_copies 8 = .ok (.aload_n 0, 1) := by decide +kernel
theorem dX8_copies_9 : decode cX8_copies 9 = .ok (.getfield 7, 3) := by decide +kernel
theorem dX8_copies_12 : decode cX8_copies 12 = .ok (.iload_n 1, 1) := by decide +kernel
theorem dX8_copies_13 : decode cX8_copies 13 = .ok (.iload_n 3, 1) := by decide +kernel
theorem dX8_copies_14 : decode cX8_copies 14 = .ok (.iadd, 1) := by decide +kernel
theorem dX8_copies_15 : decode cX8_copies 15 = .ok (.aload_n 0, 1) := by decide +kernel
theorem dX8_copies_16 : decode cX8_copies 16 = .ok (.getfield 7, 3) := by decide +kernel
theorem dX8_copies_19 : decode cX8_copies 19 = .ok (.iload_n 2, 1) := by decide +kernel
theorem dX8_copies_20 : decode cX8_copies 20 = .ok (.iload_n 3, 1) := by decide +kernel
theorem dX8_copies_21 : decode cX8_copies 21 = .ok (.iadd, 1) := by decide +kernel
theorem dX8_copies_22 : decode cX8_copies 22 = .ok (.iaload, 1) := by decide +kernel
theorem dX8_copies_23 : decode cX8_copies 23 = .ok (.iastore, 1) := by decide +kernel
theorem dX8_copies_24 : decode cX8_copies 24 = .ok (.iinc 3 1, 3) := by decide +kernel
theorem dX8_copies_27 : decode cX8_copies 27 = .ok (.goto (-25), 3) := by decide +kernel
theorem dX8_copies_30 : decode cX8_copies 30 = .ok (.return_, 1) := by decide +kernel
theorem dX8_keep_0 : decode cX8_keep 0 = .ok (.iload_n 1, 1) := by decide +kernel
theorem dX8_keep_1 : decode cX8_keep 1 = .ok (.i2l, 1) := by decide +kernel
theorem dX8_keep_2 : decode cX8_keep 2 = .ok (.lconst 0, 1) := by decide +kernel
theorem dX8_keep_3 : decode cX8_keep 3 = .ok (.lconst 1, 1) := by decide +kernel
theorem dX8_keep_4 : decode cX8_keep 4 = .ok (.invokestatic 59, 3) := by decide +kernel
theorem dX8_keep_7 : decode cX8_keep 7 = .ok (.ifCond .ne 5, 3) := by decide +kernel
theorem dX8_keep_10 : decode cX8_keep 10 = .ok (.iconst (-1), 1) := by decide +kernel
theorem dX8_keep_11 : decode cX8_keep 11 = .ok (.ireturn, 1) := by decide +kernel
theorem dX8_keep_12 : decode cX8_keep 12 = .ok (.aload_n 0, 1) := by decide +kernel
theorem dX8_keep_13 : decode cX8_keep 13 = .ok (.getfield 16, 3) := by decide +kernel
theorem dX8_keep_16 : decode cX8_keep 16 = .ok (.iload_n 1, 1) := by decide +kernel
theorem dX8_keep_17 : decode cX8_keep 17 = .ok (.baload, 1) := by decide +kernel
theorem dX8_keep_18 : decode cX8_keep 18 = .ok (.invokestatic 147, 3) := by decide +kernel
theorem dX8_keep_21 : decode cX8_keep 21 = .ok (.istore_n 2, 1) := by decide +kernel
theorem dX8_keep_22 : decode cX8_keep 22 = .ok (.aload_n 0, 1) := by decide +kernel
theorem dX8_keep_23 : decode cX8_keep 23 = .ok (.getfield 16, 3) := by decide +kernel
theorem dX8_keep_26 : decode cX8_keep 26 = .ok (.iload_n 1, 1) := by decide +kernel
theorem dX8_keep_27 : decode cX8_keep 27 = .ok (.iconst 1, 1) := by decide +kernel
theorem dX8_keep_28 : decode cX8_keep 28 = .ok (.bastore, 1) := by decide +kernel
theorem dX8_keep_29 : decode cX8_keep 29 = .ok (.aload_n 0, 1) := by decide +kernel
theorem dX8_keep_30 : decode cX8_keep 30 = .ok (.bipush 57, 2) := by decide +kernel
theorem dX8_keep_32 : decode cX8_keep 32 = .ok (.iload_n 1, 1) := by decide +kernel
theorem dX8_keep_33 : decode cX8_keep 33 = .ok (.iconst 1, 1) := by decide +kernel
theorem dX8_keep_34 : decode cX8_keep 34 = .ok (.iadd, 1) := by decide +kernel
theorem dX8_keep_35 : decode cX8_keep 35 = .ok (.imul, 1) := by decide +kernel
theorem dX8_keep_36 : decode cX8_keep 36 = .ok (.iconst 0, 1) := by decide +kernel
theorem dX8_keep_37 : decode cX8_keep 37 = .ok (.invokevirtual 288, 3) := by decide +kernel
theorem dX8_keep_40 : decode cX8_keep 40 = .ok (.iload_n 2, 1) := by decide +kernel
theorem dX8_keep_41 : decode cX8_keep 41 = .ok (.ireturn, 1) := by decide +kernel
theorem dX8_back_0 : decode cX8_back 0 = .ok (.iload_n 1, 1) := by decide +kernel
theorem dX8_back_1 : decode cX8_back 1 = .ok (.i2l, 1) := by decide +kernel
theorem dX8_back_2 : decode cX8_back 2 = .ok (.lconst 0, 1) := by decide +kernel
theorem dX8_back_3 : decode cX8_back 3 = .ok (.lconst 1, 1) := by decide +kernel
theorem dX8_back_4 : decode cX8_back 4 = .ok (.invokestatic 59, 3) := by decide +kernel
theorem dX8_back_7 : decode cX8_back 7 = .ok (.ifCond .ne 5, 3) := by decide +kernel
theorem dX8_back_10 : decode cX8_back 10 = .ok (.iconst (-1), 1) := by decide +kernel
theorem dX8_back_11 : decode cX8_back 11 = .ok (.ireturn, 1) := by decide +kernel
theorem dX8_back_12 : decode cX8_back 12 = .ok (.aload_n 0, 1) := by decide +kernel
theorem dX8_back_13 : decode cX8_back 13 = .ok (.getfield 16, 3) := by decide +kernel
theorem dX8_back_16 : decode cX8_back 16 = .ok (.iload_n 1, 1) := by decide +kernel
theorem dX8_back_17 : decode cX8_back 17 = .ok (.baload, 1) := by decide +kernel
theorem dX8_back_18 : decode cX8_back 18 = .ok (.ifCond .ne 6, 3) := by decide +kernel
theorem dX8_back_21 : decode cX8_back 21 = .ok (.bipush (-2), 2) := by decide +kernel
theorem dX8_back_23 : decode cX8_back 23 = .ok (.ireturn, 1) := by decide +kernel
theorem dX8_back_24 : decode cX8_back 24 = .ok (.aload_n 0, 1) := by decide +kernel
theorem dX8_back_25 : decode cX8_back 25 = .ok (.iconst 0, 1) := by decide +kernel
theorem dX8_back_26 : decode cX8_back 26 = .ok (.bipush 57, 2) := by decide +kernel
theorem dX8_back_28 : decode cX8_back 28 = .ok (.iload_n 1, 1) := by decide +kernel
theorem dX8_back_29 : decode cX8_back 29 = .ok (.iconst 1, 1) := by decide +kernel
theorem dX8_back_30 : decode cX8_back 30 = .ok (.iadd, 1) := by decide +kernel
theorem dX8_back_31 : decode cX8_back 31 = .ok (.imul, 1) := by decide +kernel
theorem dX8_back_32 : decode cX8_back 32 = .ok (.invokevirtual 288, 3) := by decide +kernel
theorem dX8_back_35 : decode cX8_back 35 = .ok (.aload_n 0, 1) := by decide +kernel
theorem dX8_back_36 : decode cX8_back 36 = .ok (.getfield 7, 3) := by decide +kernel
theorem dX8_back_39 : decode cX8_back 39 = .ok (.bipush 37, 2) := by decide +kernel
theorem dX8_back_41 : decode cX8_back 41 = .ok (.iaload, 1) := by decide +kernel
theorem dX8_back_42 : decode cX8_back 42 = .ok (.ireturn, 1) := by decide +kernel
theorem dX8_isSheet_0 : decode cX8_isSheet 0 = .ok (.iload_n 0, 1) := by decide +kernel
theorem dX8_isSheet_1 : decode cX8_isSheet 1 = .ok (.i2l, 1) := by decide +kernel
theorem dX8_isSheet_2 : decode cX8_isSheet 2 = .ok (.lconst 0, 1) := by decide +kernel
theorem dX8_isSheet_3 : decode cX8_isSheet 3 = .ok (.ldc2_w 197, 3) := by decide +kernel
theorem dX8_isSheet_6 : decode cX8_isSheet 6 = .ok (.invokestatic 59, 3) := by decide +kernel
theorem dX8_isSheet_9 : decode cX8_isSheet 9 = .ok (.ifCond .eq 19, 3) := by decide +kernel
theorem dX8_isSheet_12 : decode cX8_isSheet 12 = .ok (.iload_n 1, 1) := by decide +kernel
theorem dX8_isSheet_13 : decode cX8_isSheet 13 = .ok (.i2l, 1) := by decide +kernel
theorem dX8_isSheet_14 : decode cX8_isSheet 14 = .ok (.lconst 0, 1) := by decide +kernel
theorem dX8_isSheet_15 : decode cX8_isSheet 15 = .ok (.ldc2_w 219, 3) := by decide +kernel
theorem dX8_isSheet_18 : decode cX8_isSheet 18 = .ok (.invokestatic 59, 3) := by decide +kernel
theorem dX8_isSheet_21 : decode cX8_isSheet 21 = .ok (.ifCond .eq 7, 3) := by decide +kernel
theorem dX8_isSheet_24 : decode cX8_isSheet 24 = .ok (.iconst 1, 1) := by decide +kernel
theorem dX8_isSheet_25 : decode cX8_isSheet 25 = .ok (.goto 4, 3) := by decide +kernel
theorem dX8_isSheet_28 : decode cX8_isSheet 28 = .ok (.iconst 0, 1) := by decide +kernel
theorem dX8_isSheet_29 : decode cX8_isSheet 29 = .ok (.ireturn, 1) := by decide +kernel
theorem dX8_sheet_0 : decode cX8_sheet 0 = .ok (.iload_n 1, 1) := by decide +kernel
theorem dX8_sheet_1 : decode cX8_sheet 1 = .ok (.iload_n 2, 1) := by decide +kernel
theorem dX8_sheet_2 : decode cX8_sheet 2 = .ok (.invokestatic 291, 3) := by decide +kernel
theorem dX8_sheet_5 : decode cX8_sheet 5 = .ok (.ifCond .eq 9, 3) := by decide +kernel
theorem dX8_sheet_8 : decode cX8_sheet 8 = .ok (.iload_n 3, 1) := by decide +kernel
theorem dX8_sheet_9 : decode cX8_sheet 9 = .ok (.bipush 40, 2) := by decide +kernel
theorem dX8_sheet_11 : decode cX8_sheet 11 = .ok (.if_icmp .le 5, 3) := by decide +kernel
theorem dX8_sheet_14 : decode cX8_sheet 14 = .ok (.iconst (-1), 1) := by decide +kernel
theorem dX8_sheet_15 : decode cX8_sheet 15 = .ok (.ireturn, 1) := by decide +kernel
theorem dX8_sheet_16 : decode cX8_sheet 16 = .ok (.iload_n 3, 1) := by decide +kernel
theorem dX8_sheet_17 : decode cX8_sheet 17 = .ok (.ifCond .ge 6, 3) := by decide +kernel
theorem dX8_sheet_20 : decode cX8_sheet 20 = .ok (.bipush (-14), 2) := by decide +kernel
theorem dX8_sheet_22 : decode cX8_sheet 22 = .ok (.ireturn, 1) := by decide +kernel
theorem dX8_sheet_23 : decode cX8_sheet 23 = .ok (.aload_n 0, 1) := by decide +kernel
theorem dX8_sheet_24 : decode cX8_sheet 24 = .ok (.getfield 32, 3) := by decide +kernel
theorem dX8_sheet_27 : decode cX8_sheet 27 = .ok (.iload_n 1, 1) := by decide +kernel
theorem dX8_sheet_28 : decode cX8_sheet 28 = .ok (.iload_n 2, 1) := by decide +kernel
theorem dX8_sheet_29 : decode cX8_sheet 29 = .ok (.iastore, 1) := by decide +kernel
theorem dX8_sheet_30 : decode cX8_sheet 30 = .ok (.aload_n 0, 1) := by decide +kernel
theorem dX8_sheet_31 : decode cX8_sheet 31 = .ok (.getfield 35, 3) := by decide +kernel
theorem dX8_sheet_34 : decode cX8_sheet 34 = .ok (.iload_n 1, 1) := by decide +kernel
theorem dX8_sheet_35 : decode cX8_sheet 35 = .ok (.iload_n 3, 1) := by decide +kernel
theorem dX8_sheet_36 : decode cX8_sheet 36 = .ok (.iastore, 1) := by decide +kernel
theorem dX8_sheet_37 : decode cX8_sheet 37 = .ok (.iconst 0, 1) := by decide +kernel
theorem dX8_sheet_38 : decode cX8_sheet 38 = .ok (.istore 4, 2) := by decide +kernel
theorem dX8_sheet_40 : decode cX8_sheet 40 = .ok (.iload 4, 2) := by decide +kernel
theorem dX8_sheet_42 : decode cX8_sheet 42 = .ok (.bipush 40, 2) := by decide +kernel
theorem dX8_sheet_44 : decode cX8_sheet 44 = .ok (.if_icmp .ge 22, 3) := by decide +kernel
theorem dX8_sheet_47 : decode cX8_sheet 47 = .ok (.aload_n 0, 1) := by decide +kernel
theorem dX8_sheet_48 : decode cX8_sheet 48 = .ok (.getfield 38, 3) := by decide +kernel
theorem dX8_sheet_51 : decode cX8_sheet 51 = .ok (.bipush 40, 2) := by decide +kernel
theorem dX8_sheet_53 : decode cX8_sheet 53 = .ok (.iload_n 1, 1) := by decide +kernel
theorem dX8_sheet_54 : decode cX8_sheet 54 = .ok (.imul, 1) := by decide +kernel
theorem dX8_sheet_55 : decode cX8_sheet 55 = .ok (.iload 4, 2) := by decide +kernel
theorem dX8_sheet_57 : decode cX8_sheet 57 = .ok (.iadd, 1) := by decide +kernel
theorem dX8_sheet_58 : decode cX8_sheet 58 = .ok (.iconst 0, 1) := by decide +kernel
theorem dX8_sheet_59 : decode cX8_sheet 59 = .ok (.iastore, 1) := by decide +kernel
theorem dX8_sheet_60 : decode cX8_sheet 60 = .ok (.iinc 4 1, 3) := by decide +kernel
theorem dX8_sheet_63 : decode cX8_sheet 63 = .ok (.goto (-23), 3) := by decide +kernel
theorem dX8_sheet_66 : decode cX8_sheet 66 = .ok (.iconst 1, 1) := by decide +kernel
theorem dX8_sheet_67 : decode cX8_sheet 67 = .ok (.ireturn, 1) := by decide +kernel
theorem dX8_lay_0 : decode cX8_lay 0 = .ok (.iload_n 1, 1) := by decide +kernel
theorem dX8_lay_1 : decode cX8_lay 1 = .ok (.iconst 0, 1) := by decide +kernel
theorem dX8_lay_2 : decode cX8_lay 2 = .ok (.invokestatic 291, 3) := by decide +kernel
theorem dX8_lay_5 : decode cX8_lay 5 = .ok (.ifCond .ne 5, 3) := by decide +kernel
theorem dX8_lay_8 : decode cX8_lay 8 = .ok (.iconst (-1), 1) := by decide +kernel
theorem dX8_lay_9 : decode cX8_lay 9 = .ok (.ireturn, 1) := by decide +kernel
theorem dX8_lay_10 : decode cX8_lay 10 = .ok (.aload_n 0, 1) := by decide +kernel
theorem dX8_lay_11 : decode cX8_lay 11 = .ok (.getfield 32, 3) := by decide +kernel
theorem dX8_lay_14 : decode cX8_lay 14 = .ok (.iload_n 1, 1) := by decide +kernel
theorem dX8_lay_15 : decode cX8_lay 15 = .ok (.iaload, 1) := by decide +kernel
theorem dX8_lay_16 : decode cX8_lay 16 = .ok (.bipush (-4), 2) := by decide +kernel
theorem dX8_lay_18 : decode cX8_lay 18 = .ok (.if_icmp .ne 6, 3) := by decide +kernel
theorem dX8_lay_21 : decode cX8_lay 21 = .ok (.bipush (-11), 2) := by decide +kernel
theorem dX8_lay_23 : decode cX8_lay 23 = .ok (.ireturn, 1) := by decide +kernel
theorem dX8_lay_24 : decode cX8_lay 24 = .ok (.iload_n 2, 1) := by decide +kernel
theorem dX8_lay_25 : decode cX8_lay 25 = .ok (.i2l, 1) := by decide +kernel
theorem dX8_lay_26 : decode cX8_lay 26 = .ok (.lconst 0, 1) := by decide +kernel
theorem dX8_lay_27 : decode cX8_lay 27 = .ok (.aload_n 0, 1) := by decide +kernel
theorem dX8_lay_28 : decode cX8_lay 28 = .ok (.getfield 35, 3) := by decide +kernel
theorem dX8_lay_31 : decode cX8_lay 31 = .ok (.iload_n 1, 1) := by decide +kernel
theorem dX8_lay_32 : decode cX8_lay 32 = .ok (.iaload, 1) := by decide +kernel
theorem dX8_lay_33 : decode cX8_lay 33 = .ok (.iconst 1, 1) := by decide +kernel
theorem dX8_lay_34 : decode cX8_lay 34 = .ok (.isub, 1) := by decide +kernel
theorem dX8_lay_35 : decode cX8_lay 35 = .ok (.i2l, 1) := by decide +kernel
theorem dX8_lay_36 : decode cX8_lay 36 = .ok (.invokestatic 59, 3) := by decide +kernel
theorem dX8_lay_39 : decode cX8_lay 39 = .ok (.ifCond .ne 6, 3) := by decide +kernel
theorem dX8_lay_42 : decode cX8_lay 42 = .ok (.bipush (-12), 2) := by decide +kernel
theorem dX8_lay_44 : decode cX8_lay 44 = .ok (.ireturn, 1) := by decide +kernel
theorem dX8_lay_45 : decode cX8_lay 45 = .ok (.aload_n 0, 1) := by decide +kernel
theorem dX8_lay_46 : decode cX8_lay 46 = .ok (.getfield 38, 3) := by decide +kernel
theorem dX8_lay_49 : decode cX8_lay 49 = .ok (.bipush 40, 2) := by decide +kernel
theorem dX8_lay_51 : decode cX8_lay 51 = .ok (.iload_n 1, 1) := by decide +kernel
theorem dX8_lay_52 : decode cX8_lay 52 = .ok (.imul, 1) := by decide +kernel
theorem dX8_lay_53 : decode cX8_lay 53 = .ok (.iload_n 2, 1) := by decide +kernel
theorem dX8_lay_54 : decode cX8_lay 54 = .ok (.iadd, 1) := by decide +kernel
theorem dX8_lay_55 : decode cX8_lay 55 = .ok (.aload_n 0, 1) := by decide +kernel
theorem dX8_lay_56 : decode cX8_lay 56 = .ok (.getfield 32, 3) := by decide +kernel
theorem dX8_lay_59 : decode cX8_lay 59 = .ok (.iload_n 1, 1) := by decide +kernel
theorem dX8_lay_60 : decode cX8_lay 60 = .ok (.iaload, 1) := by decide +kernel
theorem dX8_lay_61 : decode cX8_lay 61 = .ok (.ifCond .ne 8, 3) := by decide +kernel
theorem dX8_lay_64 : decode cX8_lay 64 = .ok (.iload_n 3, 1) := by decide +kernel
theorem dX8_lay_65 : decode cX8_lay 65 = .ok (.i2b, 1) := by decide +kernel
theorem dX8_lay_66 : decode cX8_lay 66 = .ok (.goto 19, 3) := by decide +kernel
theorem dX8_lay_69 : decode cX8_lay 69 = .ok (.aload_n 0, 1) := by decide +kernel
theorem dX8_lay_70 : decode cX8_lay 70 = .ok (.getfield 32, 3) := by decide +kernel
theorem dX8_lay_73 : decode cX8_lay 73 = .ok (.iload_n 1, 1) := by decide +kernel
theorem dX8_lay_74 : decode cX8_lay 74 = .ok (.iaload, 1) := by decide +kernel
theorem dX8_lay_75 : decode cX8_lay 75 = .ok (.iconst 1, 1) := by decide +kernel
theorem dX8_lay_76 : decode cX8_lay 76 = .ok (.if_icmp .ne 8, 3) := by decide +kernel
theorem dX8_lay_79 : decode cX8_lay 79 = .ok (.iload_n 3, 1) := by decide +kernel
theorem dX8_lay_80 : decode cX8_lay 80 = .ok (.i2s, 1) := by decide +kernel
theorem dX8_lay_81 : decode cX8_lay 81 = .ok (.goto 4, 3) := by decide +kernel
theorem dX8_lay_84 : decode cX8_lay 84 = .ok (.iload_n 3, 1) := by decide +kernel
theorem dX8_lay_85 : decode cX8_lay 85 = .ok (.iastore, 1) := by decide +kernel
theorem dX8_lay_86 : decode cX8_lay 86 = .ok (.iconst 1, 1) := by decide +kernel
theorem dX8_lay_87 : decode cX8_lay 87 = .ok (.ireturn, 1) := by decide +kernel
theorem dX8_read_0 : decode cX8_read 0 = .ok (.iload_n 1, 1) := by decide +kernel
theorem dX8_read_1 : decode cX8_read 1 = .ok (.iload_n 2, 1) := by decide +kernel
theorem dX8_read_2 : decode cX8_read 2 = .ok (.invokestatic 291, 3) := by decide +kernel
theorem dX8_read_5 : decode cX8_read 5 = .ok (.ifCond .eq 16, 3) := by decide +kernel
theorem dX8_read_8 : decode cX8_read 8 = .ok (.iload 4, 2) := by decide +kernel
theorem dX8_read_10 : decode cX8_read 10 = .ok (.i2l, 1) := by decide +kernel
theorem dX8_read_11 : decode cX8_read 11 = .ok (.lconst 0, 1) := by decide +kernel
theorem dX8_read_12 : decode cX8_read 12 = .ok (.ldc2_w 201, 3) := by decide +kernel
theorem dX8_read_15 : decode cX8_read 15 = .ok (.invokestatic 59, 3) := by decide +kernel
theorem dX8_read_18 : decode cX8_read 18 = .ok (.ifCond .ne 5, 3) := by decide +kernel
theorem dX8_read_21 : decode cX8_read 21 = .ok (.iconst (-1), 1) := by decide +kernel
theorem dX8_read_22 : decode cX8_read 22 = .ok (.ireturn, 1) := by decide +kernel
theorem dX8_read_23 : decode cX8_read 23 = .ok (.iconst 0, 1) := by decide +kernel
theorem dX8_read_24 : decode cX8_read 24 = .ok (.istore 5, 2) := by decide +kernel
theorem dX8_read_26 : decode cX8_read 26 = .ok (.iload 5, 2) := by decide +kernel
theorem dX8_read_28 : decode cX8_read 28 = .ok (.bipush 57, 2) := by decide +kernel
theorem dX8_read_30 : decode cX8_read 30 = .ok (.if_icmp .ge 23, 3) := by decide +kernel
theorem dX8_read_33 : decode cX8_read 33 = .ok (.aload_n 0, 1) := by decide +kernel
theorem dX8_read_34 : decode cX8_read 34 = .ok (.getfield 41, 3) := by decide +kernel
theorem dX8_read_37 : decode cX8_read 37 = .ok (.iload 5, 2) := by decide +kernel
theorem dX8_read_39 : decode cX8_read 39 = .ok (.aload_n 0, 1) := by decide +kernel
theorem dX8_read_40 : decode cX8_read 40 = .ok (.getfield 7, 3) := by decide +kernel
theorem dX8_read_43 : decode cX8_read 43 = .ok (.iload 5, 2) := by decide +kernel
theorem dX8_read_45 : decode cX8_read 45 = .ok (.iaload, 1) := by decide +kernel
theorem dX8_read_46 : decode cX8_read 46 = .ok (.iastore, 1) := by decide +kernel
theorem dX8_read_47 : decode cX8_read 47 = .ok (.iinc 5 1, 3) := by decide +kernel
theorem dX8_read_50 : decode cX8_read 50 = .ok (.goto (-24), 3) := by decide +kernel
theorem dX8_read_53 : decode cX8_read 53 = .ok (.iconst 0, 1) := by decide +kernel
theorem dX8_read_54 : decode cX8_read 54 = .ok (.istore 5, 2) := by decide +kernel
theorem dX8_read_56 : decode cX8_read 56 = .ok (.iconst 0, 1) := by decide +kernel
theorem dX8_read_57 : decode cX8_read 57 = .ok (.istore 6, 2) := by decide +kernel
theorem dX8_read_59 : decode cX8_read 59 = .ok (.iconst 0, 1) := by decide +kernel
theorem dX8_read_60 : decode cX8_read 60 = .ok (.istore 7, 2) := by decide +kernel
theorem dX8_read_62 : decode cX8_read 62 = .ok (.iload 7, 2) := by decide +kernel
theorem dX8_read_64 : decode cX8_read 64 = .ok (.iload 4, 2) := by decide +kernel
theorem dX8_read_66 : decode cX8_read 66 = .ok (.if_icmp .ge 184, 3) := by decide +kernel
theorem dX8_read_69 : decode cX8_read 69 = .ok (.iload 5, 2) := by decide +kernel
theorem dX8_read_71 : decode cX8_read 71 = .ok (.ifCond .ne 179, 3) := by decide +kernel
theorem dX8_read_74 : decode cX8_read 74 = .ok (.iconst 0, 1) := by decide +kernel
theorem dX8_read_75 : decode cX8_read 75 = .ok (.istore 8, 2) := by decide +kernel
theorem dX8_read_77 : decode cX8_read 77 = .ok (.iload 8, 2) := by decide +kernel
theorem dX8_read_79 : decode cX8_read 79 = .ok (.iconst 2, 1) := by decide +kernel
theorem dX8_read_80 : decode cX8_read 80 = .ok (.if_icmp .ge 84, 3) := by decide +kernel
theorem dX8_read_83 : decode cX8_read 83 = .ok (.iload 5, 2) := by decide +kernel
theorem dX8_read_85 : decode cX8_read 85 = .ok (.ifCond .ne 79, 3) := by decide +kernel
theorem dX8_read_88 : decode cX8_read 88 = .ok (.iload_n 3, 1) := by decide +kernel
theorem dX8_read_89 : decode cX8_read 89 = .ok (.i2l, 1) := by decide +kernel
theorem dX8_read_90 : decode cX8_read 90 = .ok (.iconst 2, 1) := by decide +kernel
theorem dX8_read_91 : decode cX8_read 91 = .ok (.iload 7, 2) := by decide +kernel
theorem dX8_read_93 : decode cX8_read 93 = .ok (.imul, 1) := by decide +kernel
theorem dX8_read_94 : decode cX8_read 94 = .ok (.i2l, 1) := by decide +kernel
theorem dX8_read_95 : decode cX8_read 95 = .ok (.ladd, 1) := by decide +kernel
theorem dX8_read_96 : decode cX8_read 96 = .ok (.iload 8, 2) := by decide +kernel
theorem dX8_read_98 : decode cX8_read 98 = .ok (.i2l, 1) := by decide +kernel
theorem dX8_read_99 : decode cX8_read 99 = .ok (.ladd, 1) := by decide +kernel
theorem dX8_read_100 : decode cX8_read 100 = .ok (.lstore 9, 2) := by decide +kernel
theorem dX8_read_102 : decode cX8_read 102 = .ok (.aload_n 0, 1) := by decide +kernel
theorem dX8_read_103 : decode cX8_read 103 = .ok (.getfield 32, 3) := by decide +kernel
theorem dX8_read_106 : decode cX8_read 106 = .ok (.iload_n 1, 1) := by decide +kernel
theorem dX8_read_107 : decode cX8_read 107 = .ok (.iaload, 1) := by decide +kernel
theorem dX8_read_108 : decode cX8_read 108 = .ok (.bipush (-4), 2) := by decide +kernel
theorem dX8_read_110 : decode cX8_read 110 = .ok (.if_icmp .ne 7, 3) := by decide +kernel
theorem dX8_read_113 : decode cX8_read 113 = .ok (.iconst 1, 1) := by decide +kernel
theorem dX8_read_114 : decode cX8_read 114 = .ok (.goto 42, 3) := by decide +kernel
theorem dX8_read_117 : decode cX8_read 117 = .ok (.aload_n 0, 1) := by decide +kernel
theorem dX8_read_118 : decode cX8_read 118 = .ok (.getfield 32, 3) := by decide +kernel
theorem dX8_read_121 : decode cX8_read 121 = .ok (.iload_n 1, 1) := by decide +kernel
theorem dX8_read_122 : decode cX8_read 122 = .ok (.iaload, 1) := by decide +kernel
theorem dX8_read_123 : decode cX8_read 123 = .ok (.iload_n 2, 1) := by decide +kernel
theorem dX8_read_124 : decode cX8_read 124 = .ok (.if_icmp .eq 7, 3) := by decide +kernel
theorem dX8_read_127 : decode cX8_read 127 = .ok (.iconst 3, 1) := by decide +kernel
theorem dX8_read_128 : decode cX8_read 128 = .ok (.goto 28, 3) := by decide +kernel
theorem dX8_read_131 : decode cX8_read 131 = .ok (.lload 9, 2) := by decide +kernel
theorem dX8_read_133 : decode cX8_read 133 = .ok (.lconst 0, 1) := by decide +kernel
theorem dX8_read_134 : decode cX8_read 134 = .ok (.lcmp, 1) := by decide +kernel
theorem dX8_read_135 : decode cX8_read 135 = .ok (.ifCond .lt 16, 3) := by decide +kernel
theorem dX8_read_138 : decode cX8_read 138 = .ok (.lload 9, 2) := by decide +kernel
theorem dX8_read_140 : decode cX8_read 140 = .ok (.aload_n 0, 1) := by decide +kernel
theorem dX8_read_141 : decode cX8_read 141 = .ok (.getfield 35, 3) := by decide +kernel
theorem dX8_read_144 : decode cX8_read 144 = .ok (.iload_n 1, 1) := by decide +kernel
theorem dX8_read_145 : decode cX8_read 145 = .ok (.iaload, 1) := by decide +kernel
theorem dX8_read_146 : decode cX8_read 146 = .ok (.i2l, 1) := by decide +kernel
theorem dX8_read_147 : decode cX8_read 147 = .ok (.lcmp, 1) := by decide +kernel
theorem dX8_read_148 : decode cX8_read 148 = .ok (.ifCond .lt 7, 3) := by decide +kernel
theorem dX8_read_151 : decode cX8_read 151 = .ok (.iconst 2, 1) := by decide +kernel
theorem dX8_read_152 : decode cX8_read 152 = .ok (.goto 4, 3) := by decide +kernel
theorem dX8_read_155 : decode cX8_read 155 = .ok (.iconst 0, 1) := by decide +kernel
theorem dX8_read_156 : decode cX8_read 156 = .ok (.istore 5, 2) := by decide +kernel
theorem dX8_read_158 : decode cX8_read 158 = .ok (.iinc 8 1, 3) := by decide +kernel
theorem dX8_read_161 : decode cX8_read 161 = .ok (.goto (-84), 3) := by decide +kernel
theorem dX8_read_164 : decode cX8_read 164 = .ok (.iload 5, 2) := by decide +kernel
theorem dX8_read_166 : decode cX8_read 166 = .ok (.ifCond .ne 78, 3) := by decide +kernel
theorem dX8_read_169 : decode cX8_read 169 = .ok (.bipush 40, 2) := by decide +kernel
theorem dX8_read_171 : decode cX8_read 171 = .ok (.iload_n 1, 1) := by decide +kernel
theorem dX8_read_172 : decode cX8_read 172 = .ok (.imul, 1) := by decide +kernel
theorem dX8_read_173 : decode cX8_read 173 = .ok (.iload_n 3, 1) := by decide +kernel
theorem dX8_read_174 : decode cX8_read 174 = .ok (.iadd, 1) := by decide +kernel
theorem dX8_read_175 : decode cX8_read 175 = .ok (.iconst 2, 1) := by decide +kernel
theorem dX8_read_176 : decode cX8_read 176 = .ok (.iload 7, 2) := by decide +kernel
theorem dX8_read_178 : decode cX8_read 178 = .ok (.imul, 1) := by decide +kernel
theorem dX8_read_179 : decode cX8_read 179 = .ok (.iadd, 1) := by decide +kernel
theorem dX8_read_180 : decode cX8_read 180 = .ok (.istore 8, 2) := by decide +kernel
theorem dX8_read_182 : decode cX8_read 182 = .ok (.aload_n 0, 1) := by decide +kernel
theorem dX8_read_183 : decode cX8_read 183 = .ok (.aload_n 0, 1) := by decide +kernel
theorem dX8_read_184 : decode cX8_read 184 = .ok (.getfield 38, 3) := by decide +kernel
theorem dX8_read_187 : decode cX8_read 187 = .ok (.iload 8, 2) := by decide +kernel
theorem dX8_read_189 : decode cX8_read 189 = .ok (.iaload, 1) := by decide +kernel
theorem dX8_read_190 : decode cX8_read 190 = .ok (.aload_n 0, 1) := by decide +kernel
theorem dX8_read_191 : decode cX8_read 191 = .ok (.getfield 38, 3) := by decide +kernel
theorem dX8_read_194 : decode cX8_read 194 = .ok (.iload 8, 2) := by decide +kernel
theorem dX8_read_196 : decode cX8_read 196 = .ok (.iconst 1, 1) := by decide +kernel
theorem dX8_read_197 : decode cX8_read 197 = .ok (.iadd, 1) := by decide +kernel
theorem dX8_read_198 : decode cX8_read 198 = .ok (.iaload, 1) := by decide +kernel
theorem dX8_read_199 : decode cX8_read 199 = .ok (.invokevirtual 294, 3) := by decide +kernel
theorem dX8_read_202 : decode cX8_read 202 = .ok (.ifCond .ge 39, 3) := by decide +kernel
theorem dX8_read_205 : decode cX8_read 205 = .ok (.iconst 0, 1) := by decide +kernel
theorem dX8_read_206 : decode cX8_read 206 = .ok (.istore 9, 2) := by decide +kernel
theorem dX8_read_208 : decode cX8_read 208 = .ok (.iload 9, 2) := by decide +kernel
theorem dX8_read_210 : decode cX8_read 210 = .ok (.bipush 57, 2) := by decide +kernel
theorem dX8_read_212 : decode cX8_read 212 = .ok (.if_icmp .ge 23, 3) := by decide +kernel
theorem dX8_read_215 : decode cX8_read 215 = .ok (.aload_n 0, 1) := by decide +kernel
theorem dX8_read_216 : decode cX8_read 216 = .ok (.getfield 7, 3) := by decide +kernel
theorem dX8_read_219 : decode cX8_read 219 = .ok (.iload 9, 2) := by decide +kernel
theorem dX8_read_221 : decode cX8_read 221 = .ok (.aload_n 0, 1) := by decide +kernel
theorem dX8_read_222 : decode cX8_read 222 = .ok (.getfield 41, 3) := by decide +kernel
theorem dX8_read_225 : decode cX8_read 225 = .ok (.iload 9, 2) := by decide +kernel
theorem dX8_read_227 : decode cX8_read 227 = .ok (.iaload, 1) := by decide +kernel
theorem dX8_read_228 : decode cX8_read 228 = .ok (.iastore, 1) := by decide +kernel
theorem dX8_read_229 : decode cX8_read 229 = .ok (.iinc 9 1, 3) := by decide +kernel
theorem dX8_read_232 : decode cX8_read 232 = .ok (.goto (-24), 3) := by decide +kernel
theorem dX8_read_235 : decode cX8_read 235 = .ok (.bipush (-20), 2) := by decide +kernel
theorem dX8_read_237 : decode cX8_read 237 = .ok (.iload 7, 2) := by decide +kernel
theorem dX8_read_239 : decode cX8_read 239 = .ok (.isub, 1) := by decide +kernel
theorem dX8_read_240 : decode cX8_read 240 = .ok (.ireturn, 1) := by decide +kernel
theorem dX8_read_241 : decode cX8_read 241 = .ok (.iinc 6 1, 3) := by decide +kernel
theorem dX8_read_244 : decode cX8_read 244 = .ok (.iinc 7 1, 3) := by decide +kernel
theorem dX8_read_247 : decode cX8_read 247 = .ok (.goto (-185), 3) := by decide +kernel
theorem dX8_read_250 : decode cX8_read 250 = .ok (.aload_n 0, 1) := by decide +kernel
theorem dX8_read_251 : decode cX8_read 251 = .ok (.iload 5, 2) := by decide +kernel
theorem dX8_read_253 : decode cX8_read 253 = .ok (.putfield 297, 3) := by decide +kernel
theorem dX8_read_256 : decode cX8_read 256 = .ok (.iload 6, 2) := by decide +kernel
theorem dX8_read_258 : decode cX8_read 258 = .ok (.ireturn, 1) := by decide +kernel
theorem dX8_torn_0 : decode cX8_torn 0 = .ok (.aload_n 0, 1) := by decide +kernel
theorem dX8_torn_1 : decode cX8_torn 1 = .ok (.getfield 297, 3) := by decide +kernel
theorem dX8_torn_4 : decode cX8_torn 4 = .ok (.ireturn, 1) := by decide +kernel
theorem dX8_count_0 : decode cX8_count 0 = .ok (.aload_n 0, 1) := by decide +kernel
theorem dX8_count_1 : decode cX8_count 1 = .ok (.invokevirtual 183, 3) := by decide +kernel
theorem dX8_count_4 : decode cX8_count 4 = .ok (.iconst 0, 1) := by decide +kernel
theorem dX8_count_5 : decode cX8_count 5 = .ok (.istore_n 2, 1) := by decide +kernel
theorem dX8_count_6 : decode cX8_count 6 = .ok (.iconst 0, 1) := by decide +kernel
theorem dX8_count_7 : decode cX8_count 7 = .ok (.istore_n 3, 1) := by decide +kernel
theorem dX8_count_8 : decode cX8_count 8 = .ok (.iload_n 3, 1) := by decide +kernel
theorem dX8_count_9 : decode cX8_count 9 = .ok (.bipush 7, 2) := by decide +kernel
theorem dX8_count_11 : decode cX8_count 11 = .ok (.if_icmp .ge 21, 3) := by decide +kernel
theorem dX8_count_14 : decode cX8_count 14 = .ok (.iload_n 2, 1) := by decide +kernel
theorem dX8_count_15 : decode cX8_count 15 = .ok (.aload_n 0, 1) := by decide +kernel
theorem dX8_count_16 : decode cX8_count 16 = .ok (.getfield 13, 3) := by decide +kernel
theorem dX8_count_19 : decode cX8_count 19 = .ok (.bipush 30, 2) := by decide +kernel
theorem dX8_count_21 : decode cX8_count 21 = .ok (.iload_n 3, 1) := by decide +kernel
theorem dX8_count_22 : decode cX8_count 22 = .ok (.iadd, 1) := by decide +kernel
theorem dX8_count_23 : decode cX8_count 23 = .ok (.iaload, 1) := by decide +kernel
theorem dX8_count_24 : decode cX8_count 24 = .ok (.iadd, 1) := by decide +kernel
theorem dX8_count_25 : decode cX8_count 25 = .ok (.istore_n 2, 1) := by decide +kernel
theorem dX8_count_26 : decode cX8_count 26 = .ok (.iinc 3 1, 3) := by decide +kernel
theorem dX8_count_29 : decode cX8_count 29 = .ok (.goto (-21), 3) := by decide +kernel
theorem dX8_count_32 : decode cX8_count 32 = .ok (.iload_n 1, 1) := by decide +kernel
theorem dX8_count_33 : decode cX8_count 33 = .ok (.tableswitch 103 0 5 #[39, 47, 67, 72, 95, 101], 39) := by decide +kernel
theorem dX8_count_72 : decode cX8_count 72 = .ok (.aload_n 0, 1) := by decide +kernel
theorem dX8_count_73 : decode cX8_count 73 = .ok (.getfield 7, 3) := by decide +kernel
theorem dX8_count_76 : decode cX8_count 76 = .ok (.bipush 38, 2) := by decide +kernel
theorem dX8_count_78 : decode cX8_count 78 = .ok (.iaload, 1) := by decide +kernel
theorem dX8_count_79 : decode cX8_count 79 = .ok (.ireturn, 1) := by decide +kernel
theorem dX8_count_80 : decode cX8_count 80 = .ok (.aload_n 0, 1) := by decide +kernel
theorem dX8_count_81 : decode cX8_count 81 = .ok (.getfield 16, 3) := by decide +kernel
theorem dX8_count_84 : decode cX8_count 84 = .ok (.iconst 0, 1) := by decide +kernel
theorem dX8_count_85 : decode cX8_count 85 = .ok (.baload, 1) := by decide +kernel
theorem dX8_count_86 : decode cX8_count 86 = .ok (.invokestatic 147, 3) := by decide +kernel
theorem dX8_count_89 : decode cX8_count 89 = .ok (.aload_n 0, 1) := by decide +kernel
theorem dX8_count_90 : decode cX8_count 90 = .ok (.getfield 16, 3) := by decide +kernel
theorem dX8_count_93 : decode cX8_count 93 = .ok (.iconst 1, 1) := by decide +kernel
theorem dX8_count_94 : decode cX8_count 94 = .ok (.baload, 1) := by decide +kernel
theorem dX8_count_95 : decode cX8_count 95 = .ok (.invokestatic 147, 3) := by decide +kernel
theorem dX8_count_98 : decode cX8_count 98 = .ok (.iadd, 1) := by decide +kernel
theorem dX8_count_99 : decode cX8_count 99 = .ok (.ireturn, 1) := by decide +kernel
theorem dX8_count_100 : decode cX8_count 100 = .ok (.aload_n 0, 1) := by decide +kernel
theorem dX8_count_101 : decode cX8_count 101 = .ok (.getfield 63, 3) := by decide +kernel
theorem dX8_count_104 : decode cX8_count 104 = .ok (.ireturn, 1) := by decide +kernel
theorem dX8_count_105 : decode cX8_count 105 = .ok (.aload_n 0, 1) := by decide +kernel
theorem dX8_count_106 : decode cX8_count 106 = .ok (.getfield 32, 3) := by decide +kernel
theorem dX8_count_109 : decode cX8_count 109 = .ok (.iconst 0, 1) := by decide +kernel
theorem dX8_count_110 : decode cX8_count 110 = .ok (.iaload, 1) := by decide +kernel
theorem dX8_count_111 : decode cX8_count 111 = .ok (.bipush (-4), 2) := by decide +kernel
theorem dX8_count_113 : decode cX8_count 113 = .ok (.if_icmp .ne 8, 3) := by decide +kernel
theorem dX8_count_116 : decode cX8_count 116 = .ok (.bipush (-4), 2) := by decide +kernel
theorem dX8_count_118 : decode cX8_count 118 = .ok (.goto 9, 3) := by decide +kernel
theorem dX8_count_121 : decode cX8_count 121 = .ok (.aload_n 0, 1) := by decide +kernel
theorem dX8_count_122 : decode cX8_count 122 = .ok (.getfield 35, 3) := by decide +kernel
theorem dX8_count_125 : decode cX8_count 125 = .ok (.iconst 0, 1) := by decide +kernel
theorem dX8_count_126 : decode cX8_count 126 = .ok (.iaload, 1) := by decide +kernel
theorem dX8_count_127 : decode cX8_count 127 = .ok (.ireturn, 1) := by decide +kernel
theorem dX8_count_128 : decode cX8_count 128 = .ok (.aload_n 0, 1) := by decide +kernel
theorem dX8_count_129 : decode cX8_count 129 = .ok (.iconst 2, 1) := by decide +kernel
theorem dX8_count_130 : decode cX8_count 130 = .ok (.invokevirtual 186, 3) := by decide +kernel
theorem dX8_count_133 : decode cX8_count 133 = .ok (.ireturn, 1) := by decide +kernel
theorem dX8_count_134 : decode cX8_count 134 = .ok (.iload_n 2, 1) := by decide +kernel
theorem dX8_count_135 : decode cX8_count 135 = .ok (.ireturn, 1) := by decide +kernel
theorem dX8_count_136 : decode cX8_count 136 = .ok (.iconst (-1), 1) := by decide +kernel
theorem dX8_count_137 : decode cX8_count 137 = .ok (.ireturn, 1) := by decide +kernel
