theorem dX12_init_0 : decode cX12_init 0 = .ok (.aload_n 0, 1) := by decide +kernel
theorem dX12_init_1 : decode cX12_init 1 = .ok (.invokespecial 1, 3) := by decide +kernel
theorem dX12_init_4 : decode cX12_init 4 = .ok (.aload_n 0, 1) := by decide +kernel
theorem dX12_init_5 : decode cX12_init 5 = .ok (.sipush 2950, 3) := by decide +kernel
theorem dX12_init_8 : decode cX12_init 8 = .ok (.newarray .int, 2) := by decide +kernel
theorem dX12_init_10 : decode cX12_init 10 = .ok (.putfield 7, 3) := by decide +kernel
theorem dX12_init_13 : decode cX12_init 13 = .ok (.aload_n 0, 1) := by decide +kernel
theorem dX12_init_14 : decode cX12_init 14 = .ok (.bipush 120, 2) := by decide +kernel
theorem dX12_init_16 : decode cX12_init 16 = .ok (.newarray .long, 2) := by decide +kernel
theorem dX12_init_18 : decode cX12_init 18 = .ok (.putfield 13, 3) := by decide +kernel
theorem dX12_init_21 : decode cX12_init 21 = .ok (.aload_n 0, 1) := by decide +kernel
theorem dX12_init_22 : decode cX12_init 22 = .ok (.lconst 1, 1) := by decide +kernel
theorem dX12_init_23 : decode cX12_init 23 = .ok (.putfield 17, 3) := by decide +kernel
theorem dX12_init_26 : decode cX12_init 26 = .ok (.aload_n 0, 1) := by decide +kernel
theorem dX12_init_27 : decode cX12_init 27 = .ok (.iconst 4, 1) := by decide +kernel
theorem dX12_init_28 : decode cX12_init 28 = .ok (.newarray .int, 2) := by decide +kernel
theorem dX12_init_30 : decode cX12_init 30 = .ok (.putfield 21, 3) := by decide +kernel
theorem dX12_init_33 : decode cX12_init 33 = .ok (.aload_n 0, 1) := by decide +kernel
theorem dX12_init_34 : decode cX12_init 34 = .ok (.iconst 4, 1) := by decide +kernel
theorem dX12_init_35 : decode cX12_init 35 = .ok (.newarray .int, 2) := by decide +kernel
theorem dX12_init_37 : decode cX12_init 37 = .ok (.dup, 1) := by decide +kernel
theorem dX12_init_38 : decode cX12_init 38 = .ok (.iconst 0, 1) := by decide +kernel
theorem dX12_init_39 : decode cX12_init 39 = .ok (.iconst (-1), 1) := by decide +kernel
theorem dX12_init_40 : decode cX12_init 40 = .ok (.iastore, 1) := by decide +kernel
theorem dX12_init_41 : decode cX12_init 41 = .ok (.dup, 1) := by decide +kernel
theorem dX12_init_42 : decode cX12_init 42 = .ok (.iconst 1, 1) := by decide +kernel
theorem dX12_init_43 : decode cX12_init 43 = .ok (.iconst (-1), 1) := by decide +kernel
theorem dX12_init_44 : decode cX12_init 44 = .ok (.iastore, 1) := by decide +kernel
theorem dX12_init_45 : decode cX12_init 45 = .ok (.dup, 1) := by decide +kernel
theorem dX12_init_46 : decode cX12_init 46 = .ok (.iconst 2, 1) := by decide +kernel
theorem dX12_init_47 : decode cX12_init 47 = .ok (.iconst (-1), 1) := by decide +kernel
theorem dX12_init_48 : decode cX12_init 48 = .ok (.iastore, 1) := by decide +kernel
theorem dX12_init_49 : decode cX12_init 49 = .ok (.dup, 1) := by decide +kernel
theorem dX12_init_50 : decode cX12_init 50 = .ok (.iconst 3, 1) := by decide +kernel
theorem dX12_init_51 : decode cX12_init 51 = .ok (.iconst (-1), 1) := by decide +kernel
theorem dX12_init_52 : decode cX12_init 52 = .ok (.iastore, 1) := by decide +kernel
theorem dX12_init_53 : decode cX12_init 53 = .ok (.putfield 24, 3) := by decide +kernel
theorem dX12_init_56 : decode cX12_init 56 = .ok (.aload_n 0, 1) := by decide +kernel
theorem dX12_init_57 : decode cX12_init 57 = .ok (.sipush 240, 3) := by decide +kernel
theorem dX12_init_60 : decode cX12_init 60 = .ok (.newarray .long, 2) := by decide +kernel
theorem dX12_init_62 : decode cX12_init 62 = .ok (.putfield 27, 3) := by decide +kernel
theorem dX12_init_65 : decode cX12_init 65 = .ok (.aload_n 0, 1) := by decide +kernel
theorem dX12_init_66 : decode cX12_init 66 = .ok (.sipush 900, 3) := by decide +kernel
theorem dX12_init_69 : decode cX12_init 69 = .ok (.newarray .byte, 2) := by decide +kernel
theorem dX12_init_71 : decode cX12_init 71 = .ok (.putfield 30, 3) := by decide +kernel
theorem dX12_init_74 : decode cX12_init 74 = .ok (.aload_n 0, 1) := by decide +kernel
theorem dX12_init_75 : decode cX12_init 75 = .ok (.sipush 900, 3) := by decide +kernel
theorem dX12_init_78 : decode cX12_init 78 = .ok (.newarray .byte, 2) := by decide +kernel
theorem dX12_init_80 : decode cX12_init 80 = .ok (.putfield 34, 3) := by decide +kernel
theorem dX12_init_83 : decode cX12_init 83 = .ok (.aload_n 0, 1) := by decide +kernel
theorem dX12_init_84 : decode cX12_init 84 = .ok (.iconst (-1), 1) := by decide +kernel
theorem dX12_init_85 : decode cX12_init 85 = .ok (.putfield 37, 3) := by decide +kernel
theorem dX12_init_88 : decode cX12_init 88 = .ok (.aload_n 0, 1) := by decide +kernel
theorem dX12_init_89 : decode cX12_init 89 = .ok (.iconst (-1), 1) := by decide +kernel
theorem dX12_init_90 : decode cX12_init 90 = .ok (.putfield 41, 3) := by decide +kernel
theorem dX12_init_93 : decode cX12_init 93 = .ok (.aload_n 0, 1) := by decide +kernel
theorem dX12_init_94 : decode cX12_init 94 = .ok (.iconst 3, 1) := by decide +kernel
theorem dX12_init_95 : decode cX12_init 95 = .ok (.newarray .int, 2) := by decide +kernel
theorem dX12_init_97 : decode cX12_init 97 = .ok (.putfield 44, 3) := by decide +kernel
theorem dX12_init_100 : decode cX12_init 100 = .ok (.aload_n 0, 1) := by decide +kernel
theorem dX12_init_101 : decode cX12_init 101 = .ok (.bipush 8, 2) := by decide +kernel
theorem dX12_init_103 : decode cX12_init 103 = .ok (.newarray .int, 2) := by decide +kernel
theorem dX12_init_105 : decode cX12_init 105 = .ok (.putfield 47, 3) := by decide +kernel
theorem dX12_init_108 : decode cX12_init 108 = .ok (.aload_n 0, 1) := by decide +kernel
theorem dX12_init_109 : decode cX12_init 109 = .ok (.sipush 12800, 3) := by decide +kernel
theorem dX12_init_112 : decode cX12_init 112 = .ok (.newarray .int, 2) := by decide +kernel
theorem dX12_init_114 : decode cX12_init 114 = .ok (.putfield 50, 3) := by decide +kernel
theorem dX12_init_117 : decode cX12_init 117 = .ok (.aload_n 0, 1) := by decide +kernel
theorem dX12_init_118 : decode cX12_init 118 = .ok (.bipush 8, 2) := by decide +kernel
theorem dX12_init_120 : decode cX12_init 120 = .ok (.newarray .int, 2) := by decide +kernel
theorem dX12_init_122 : decode cX12_init 122 = .ok (.putfield 53, 3) := by decide +kernel
theorem dX12_init_125 : decode cX12_init 125 = .ok (.aload_n 0, 1) := by decide +kernel
theorem dX12_init_126 : decode cX12_init 126 = .ok (.bipush 8, 2) := by decide +kernel
theorem dX12_init_128 : decode cX12_init 128 = .ok (.newarray .int, 2) := by decide +kernel
theorem dX12_init_130 : decode cX12_init 130 = .ok (.putfield 56, 3) := by decide +kernel
theorem dX12_init_133 : decode cX12_init 133 = .ok (.aload_n 0, 1) := by decide +kernel
theorem dX12_init_134 : decode cX12_init 134 = .ok (.bipush 8, 2) := by decide +kernel
theorem dX12_init_136 : decode cX12_init 136 = .ok (.newarray .int, 2) := by decide +kernel
theorem dX12_init_138 : decode cX12_init 138 = .ok (.putfield 59, 3) := by decide +kernel
theorem dX12_init_141 : decode cX12_init 141 = .ok (.aload_n 0, 1) := by decide +kernel
theorem dX12_init_142 : decode cX12_init 142 = .ok (.sipush 7300, 3) := by decide +kernel
theorem dX12_init_145 : decode cX12_init 145 = .ok (.newarray .int, 2) := by decide +kernel
theorem dX12_init_147 : decode cX12_init 147 = .ok (.putfield 62, 3) := by decide +kernel
theorem dX12_init_150 : decode cX12_init 150 = .ok (.aload_n 0, 1) := by decide +kernel
theorem dX12_init_151 : decode cX12_init 151 = .ok (.bipush 80, 2) := by decide +kernel
theorem dX12_init_153 : decode cX12_init 153 = .ok (.newarray .int, 2) := by decide +kernel
theorem dX12_init_155 : decode cX12_init 155 = .ok (.putfield 65, 3) := by decide +kernel
theorem dX12_init_158 : decode cX12_init 158 = .ok (.aload_n 0, 1) := by decide +kernel
theorem dX12_init_159 : decode cX12_init 159 = .ok (.iconst 5, 1) := by decide +kernel
theorem dX12_init_160 : decode cX12_init 160 = .ok (.newarray .int, 2) := by decide +kernel
theorem dX12_init_162 : decode cX12_init 162 = .ok (.putfield 68, 3) := by decide +kernel
theorem dX12_init_165 : decode cX12_init 165 = .ok (.aload_n 0, 1) := by decide +kernel
theorem dX12_init_166 : decode cX12_init 166 = .ok (.bipush 8, 2) := by decide +kernel
theorem dX12_init_168 : decode cX12_init 168 = .ok (.newarray .int, 2) := by decide +kernel
theorem dX12_init_170 : decode cX12_init 170 = .ok (.putfield 71, 3) := by decide +kernel
theorem dX12_init_173 : decode cX12_init 173 = .ok (.aload_n 0, 1) := by decide +kernel
theorem dX12_init_174 : decode cX12_init 174 = .ok (.iconst (-1), 1) := by decide +kernel
theorem dX12_init_175 : decode cX12_init 175 = .ok (.putfield 74, 3) := by decide +kernel
theorem dX12_init_178 : decode cX12_init 178 = .ok (.aload_n 0, 1) := by decide +kernel
theorem dX12_init_179 : decode cX12_init 179 = .ok (.getfield 7, 3) := by decide +kernel
theorem dX12_init_182 : decode cX12_init 182 = .ok (.bipush 6, 2) := by decide +kernel
theorem dX12_init_184 : decode cX12_init 184 = .ok (.iconst (-1), 1) := by decide +kernel
theorem dX12_init_185 : decode cX12_init 185 = .ok (.iastore, 1) := by decide +kernel
theorem dX12_init_186 : decode cX12_init 186 = .ok (.return_, 1) := by decide +kernel
theorem dX12_status_0 : decode cX12_status 0 = .ok (.aload_n 0, 1) := by decide +kernel
theorem dX12_status_1 : decode cX12_status 1 = .ok (.getfield 77, 3) := by decide +kernel
theorem dX12_status_4 : decode cX12_status 4 = .ok (.ireturn, 1) := by decide +kernel
theorem dX12_top_0 : decode cX12_top 0 = .ok (.aload_n 0, 1) := by decide +kernel
theorem dX12_top_1 : decode cX12_top 1 = .ok (.getfield 80, 3) := by decide +kernel
theorem dX12_top_4 : decode cX12_top 4 = .ok (.lreturn, 1) := by decide +kernel
theorem dX12_bottom_0 : decode cX12_bottom 0 = .ok (.aload_n 0, 1) := by decide +kernel
theorem dX12_bottom_1 : decode cX12_bottom 1 = .ok (.getfield 17, 3) := by decide +kernel
theorem dX12_bottom_4 : decode cX12_bottom 4 = .ok (.lreturn, 1) := by decide +kernel
theorem dX12_is_0 : decode cX12_is 0 = .ok (.aload_n 0, 1) := by decide +kernel
theorem dX12_is_1 : decode cX12_is 1 = .ok (.iload_n 1, 1) := by decide +kernel
theorem dX12_is_2 : decode cX12_is 2 = .ok (.putfield 77, 3) := by decide +kernel
theorem dX12_is_5 : decode cX12_is 5 = .ok (.iload_n 1, 1) := by decide +kernel
theorem dX12_is_6 : decode cX12_is 6 = .ok (.ifCond .ne 7, 3) := by decide +kernel
theorem dX12_is_9 : decode cX12_is 9 = .ok (.iconst 1, 1) := by decide +kernel
theorem dX12_is_10 : decode cX12_is 10 = .ok (.goto 4, 3) := by decide +kernel
theorem dX12_is_13 : decode cX12_is 13 = .ok (.iconst 0, 1) := by decide +kernel
theorem dX12_is_14 : decode cX12_is 14 = .ok (.ireturn, 1) := by decide +kernel
theorem dX12_refuse_0 : decode cX12_refuse 0 = .ok (.aload_n 0, 1) := by decide +kernel
theorem dX12_refuse_1 : decode cX12_refuse 1 = .ok (.iload_n 1, 1) := by decide +kernel
theorem dX12_refuse_2 : decode cX12_refuse 2 = .ok (.putfield 77, 3) := by decide +kernel
theorem dX12_refuse_5 : decode cX12_refuse 5 = .ok (.iconst (-1), 1) := by decide +kernel
theorem dX12_refuse_6 : decode cX12_refuse 6 = .ok (.ireturn, 1) := by decide +kernel
theorem dX12_gives_0 : decode cX12_gives 0 = .ok (.aload_n 0, 1) := by decide +kernel
theorem dX12_gives_1 : decode cX12_gives 1 = .ok (.iconst 0, 1) := by decide +kernel
theorem dX12_gives_2 : decode cX12_gives 2 = .ok (.putfield 77, 3) := by decide +kernel
theorem dX12_gives_5 : decode cX12_gives 5 = .ok (.iload_n 1, 1) := by decide +kernel
theorem dX12_gives_6 : decode cX12_gives 6 = .ok (.ireturn, 1) := by decide +kernel
theorem dX12_orNone_0 : decode cX12_orNone 0 = .ok (.iload_n 1, 1) := by decide +kernel
theorem dX12_orNone_1 : decode cX12_orNone 1 = .ok (.iconst (-1), 1) := by decide +kernel
theorem dX12_orNone_2 : decode cX12_orNone 2 = .ok (.if_icmp .ne 12, 3) := by decide +kernel
theorem dX12_orNone_5 : decode cX12_orNone 5 = .ok (.aload_n 0, 1) := by decide +kernel
theorem dX12_orNone_6 : decode cX12_orNone 6 = .ok (.bipush 6, 2) := by decide +kernel
theorem dX12_orNone_8 : decode cX12_orNone 8 = .ok (.invokevirtual 83, 3) := by decide +kernel
theorem dX12_orNone_11 : decode cX12_orNone 11 = .ok (.goto 8, 3) := by decide +kernel
theorem dX12_orNone_14 : decode cX12_orNone 14 = .ok (.aload_n 0, 1) := by decide +kernel
theorem dX12_orNone_15 : decode cX12_orNone 15 = .ok (.iload_n 1, 1) := by decide +kernel
theorem dX12_orNone_16 : decode cX12_orNone 16 = .ok (.invokevirtual 87, 3) := by decide +kernel
theorem dX12_orNone_19 : decode cX12_orNone 19 = .ok (.ireturn, 1) := by decide +kernel
theorem dX12_tellsBy_0 : decode cX12_tellsBy 0 = .ok (.lload_n 1, 1) := by decide +kernel
theorem dX12_tellsBy_1 : decode cX12_tellsBy 1 = .ok (.lconst 0, 1) := by decide +kernel
theorem dX12_tellsBy_2 : decode cX12_tellsBy 2 = .ok (.lcmp, 1) := by decide +kernel
theorem dX12_tellsBy_3 : decode cX12_tellsBy 3 = .ok (.ifCond .ge 8, 3) := by decide +kernel
theorem dX12_tellsBy_6 : decode cX12_tellsBy 6 = .ok (.lload_n 1, 1) := by decide +kernel
theorem dX12_tellsBy_7 : decode cX12_tellsBy 7 = .ok (.lneg, 1) := by decide +kernel
theorem dX12_tellsBy_8 : decode cX12_tellsBy 8 = .ok (.goto 4, 3) := by decide +kernel
theorem dX12_tellsBy_11 : decode cX12_tellsBy 11 = .ok (.lload_n 1, 1) := by decide +kernel
theorem dX12_tellsBy_12 : decode cX12_tellsBy 12 = .ok (.lstore 5, 2) := by decide +kernel
theorem dX12_tellsBy_14 : decode cX12_tellsBy 14 = .ok (.lload_n 3, 1) := by decide +kernel
theorem dX12_tellsBy_15 : decode cX12_tellsBy 15 = .ok (.lstore 7, 2) := by decide +kernel
theorem dX12_tellsBy_17 : decode cX12_tellsBy 17 = .ok (.lload 7, 2) := by decide +kernel
theorem dX12_tellsBy_19 : decode cX12_tellsBy 19 = .ok (.lconst 0, 1) := by decide +kernel
theorem dX12_tellsBy_20 : decode cX12_tellsBy 20 = .ok (.lcmp, 1) := by decide +kernel
theorem dX12_tellsBy_21 : decode cX12_tellsBy 21 = .ok (.ifCond .eq 21, 3) := by decide +kernel
theorem dX12_tellsBy_24 : decode cX12_tellsBy 24 = .ok (.lload 5, 2) := by decide +kernel
theorem dX12_tellsBy_26 : decode cX12_tellsBy 26 = .ok (.lload 7, 2) := by decide +kernel
theorem dX12_tellsBy_28 : decode cX12_tellsBy 28 = .ok (.lrem, 1) := by decide +kernel
theorem dX12_tellsBy_29 : decode cX12_tellsBy 29 = .ok (.lstore 9, 2) := by decide +kernel
theorem dX12_tellsBy_31 : decode cX12_tellsBy 31 = .ok (.lload 7, 2) := by decide +kernel
theorem dX12_tellsBy_33 : decode cX12_tellsBy 33 = .ok (.lstore 5, 2) := by decide +kernel
theorem dX12_tellsBy_35 : decode cX12_tellsBy 35 = .ok (.lload 9, 2) := by decide +kernel
theorem dX12_tellsBy_37 : decode cX12_tellsBy 37 = .ok (.lstore 7, 2) := by decide +kernel
theorem dX12_tellsBy_39 : decode cX12_tellsBy 39 = .ok (.goto (-22), 3) := by decide +kernel
theorem dX12_tellsBy_42 : decode cX12_tellsBy 42 = .ok (.aload_n 0, 1) := by decide +kernel
theorem dX12_tellsBy_43 : decode cX12_tellsBy 43 = .ok (.lload_n 1, 1) := by decide +kernel
theorem dX12_tellsBy_44 : decode cX12_tellsBy 44 = .ok (.lload 5, 2) := by decide +kernel
theorem dX12_tellsBy_46 : decode cX12_tellsBy 46 = .ok (.ldiv, 1) := by decide +kernel
theorem dX12_tellsBy_47 : decode cX12_tellsBy 47 = .ok (.putfield 80, 3) := by decide +kernel
theorem dX12_tellsBy_50 : decode cX12_tellsBy 50 = .ok (.aload_n 0, 1) := by decide +kernel
theorem dX12_tellsBy_51 : decode cX12_tellsBy 51 = .ok (.lload_n 3, 1) := by decide +kernel
theorem dX12_tellsBy_52 : decode cX12_tellsBy 52 = .ok (.lload 5, 2) := by decide +kernel
theorem dX12_tellsBy_54 : decode cX12_tellsBy 54 = .ok (.ldiv, 1) := by decide +kernel
theorem dX12_tellsBy_55 : decode cX12_tellsBy 55 = .ok (.putfield 17, 3) := by decide +kernel
theorem dX12_tellsBy_58 : decode cX12_tellsBy 58 = .ok (.aload_n 0, 1) := by decide +kernel
theorem dX12_tellsBy_59 : decode cX12_tellsBy 59 = .ok (.iconst 0, 1) := by decide +kernel
theorem dX12_tellsBy_60 : decode cX12_tellsBy 60 = .ok (.invokevirtual 90, 3) := by decide +kernel
theorem dX12_tellsBy_63 : decode cX12_tellsBy 63 = .ok (.ireturn, 1) := by decide +kernel
theorem dX12_isTray_0 : decode cX12_isTray 0 = .ok (.iload_n 0, 1) := by decide +kernel
theorem dX12_isTray_1 : decode cX12_isTray 1 = .ok (.ifCond .lt 12, 3) := by decide +kernel
theorem dX12_isTray_4 : decode cX12_isTray 4 = .ok (.iload_n 0, 1) := by decide +kernel
theorem dX12_isTray_5 : decode cX12_isTray 5 = .ok (.iconst 4, 1) := by decide +kernel
theorem dX12_isTray_6 : decode cX12_isTray 6 = .ok (.if_icmp .ge 7, 3) := by decide +kernel
theorem dX12_isTray_9 : decode cX12_isTray 9 = .ok (.iconst 1, 1) := by decide +kernel
theorem dX12_isTray_10 : decode cX12_isTray 10 = .ok (.goto 4, 3) := by decide +kernel
theorem dX12_isTray_13 : decode cX12_isTray 13 = .ok (.iconst 0, 1) := by decide +kernel
theorem dX12_isTray_14 : decode cX12_isTray 14 = .ok (.ireturn, 1) := by decide +kernel
theorem dX12_cut_0 : decode cX12_cut 0 = .ok (.iload_n 2, 1) := by decide +kernel
theorem dX12_cut_1 : decode cX12_cut 1 = .ok (.ifCond .ne 10, 3) := by decide +kernel
theorem dX12_cut_4 : decode cX12_cut 4 = .ok (.lload_n 0, 1) := by decide +kernel
theorem dX12_cut_5 : decode cX12_cut 5 = .ok (.l2i, 1) := by decide +kernel
theorem dX12_cut_6 : decode cX12_cut 6 = .ok (.i2b, 1) := by decide +kernel
theorem dX12_cut_7 : decode cX12_cut 7 = .ok (.i2l, 1) := by decide +kernel
theorem dX12_cut_8 : decode cX12_cut 8 = .ok (.goto 27, 3) := by decide +kernel
theorem dX12_cut_11 : decode cX12_cut 11 = .ok (.iload_n 2, 1) := by decide +kernel
theorem dX12_cut_12 : decode cX12_cut 12 = .ok (.iconst 1, 1) := by decide +kernel
theorem dX12_cut_13 : decode cX12_cut 13 = .ok (.if_icmp .ne 10, 3) := by decide +kernel
theorem dX12_cut_16 : decode cX12_cut 16 = .ok (.lload_n 0, 1) := by decide +kernel
theorem dX12_cut_17 : decode cX12_cut 17 = .ok (.l2i, 1) := by decide +kernel
theorem dX12_cut_18 : decode cX12_cut 18 = .ok (.i2s, 1) := by decide +kernel
theorem dX12_cut_19 : decode cX12_cut 19 = .ok (.i2l, 1) := by decide +kernel
theorem dX12_cut_20 : decode cX12_cut 20 = .ok (.goto 15, 3) := by decide +kernel
theorem dX12_cut_23 : decode cX12_cut 23 = .ok (.iload_n 2, 1) := by decide +kernel
theorem dX12_cut_24 : decode cX12_cut 24 = .ok (.iconst 2, 1) := by decide +kernel
theorem dX12_cut_25 : decode cX12_cut 25 = .ok (.if_icmp .ne 9, 3) := by decide +kernel
theorem dX12_cut_28 : decode cX12_cut 28 = .ok (.lload_n 0, 1) := by decide +kernel
theorem dX12_cut_29 : decode cX12_cut 29 = .ok (.l2i, 1) := by decide +kernel
theorem dX12_cut_30 : decode cX12_cut 30 = .ok (.i2l, 1) := by decide +kernel
theorem dX12_cut_31 : decode cX12_cut 31 = .ok (.goto 4, 3) := by decide +kernel
theorem dX12_cut_34 : decode cX12_cut 34 = .ok (.lload_n 0, 1) := by decide +kernel
theorem dX12_cut_35 : decode cX12_cut 35 = .ok (.lreturn, 1) := by decide +kernel
theorem dX12_tray_0 : decode cX12_tray 0 = .ok (.iload_n 1, 1) := by decide +kernel
theorem dX12_tray_1 : decode cX12_tray 1 = .ok (.invokestatic 94, 3) := by decide +kernel
theorem dX12_tray_4 : decode cX12_tray 4 = .ok (.ifCond .eq 22, 3) := by decide +kernel
theorem dX12_tray_7 : decode cX12_tray 7 = .ok (.iload_n 2, 1) := by decide +kernel
theorem dX12_tray_8 : decode cX12_tray 8 = .ok (.ifCond .lt 18, 3) := by decide +kernel
theorem dX12_tray_11 : decode cX12_tray 11 = .ok (.iload_n 2, 1) := by decide +kernel
theorem dX12_tray_12 : decode cX12_tray 12 = .ok (.iconst 3, 1) := by decide +kernel
theorem dX12_tray_13 : decode cX12_tray 13 = .ok (.if_icmp .gt 13, 3) := by decide +kernel
theorem dX12_tray_16 : decode cX12_tray 16 = .ok (.iload_n 3, 1) := by decide +kernel
theorem dX12_tray_17 : decode cX12_tray 17 = .ok (.ifCond .lt 9, 3) := by decide +kernel
theorem dX12_tray_20 : decode cX12_tray 20 = .ok (.iload_n 3, 1) := by decide +kernel
theorem dX12_tray_21 : decode cX12_tray 21 = .ok (.bipush 60, 2) := by decide +kernel
theorem dX12_tray_23 : decode cX12_tray 23 = .ok (.if_icmp .le 9, 3) := by decide +kernel
theorem dX12_tray_26 : decode cX12_tray 26 = .ok (.aload_n 0, 1) := by decide +kernel
theorem dX12_tray_27 : decode cX12_tray 27 = .ok (.iconst 1, 1) := by decide +kernel
theorem dX12_tray_28 : decode cX12_tray 28 = .ok (.invokevirtual 90, 3) := by decide +kernel
theorem dX12_tray_31 : decode cX12_tray 31 = .ok (.ireturn, 1) := by decide +kernel
theorem dX12_tray_32 : decode cX12_tray 32 = .ok (.aload_n 0, 1) := by decide +kernel
theorem dX12_tray_33 : decode cX12_tray 33 = .ok (.getfield 21, 3) := by decide +kernel
theorem dX12_tray_36 : decode cX12_tray 36 = .ok (.iload_n 1, 1) := by decide +kernel
theorem dX12_tray_37 : decode cX12_tray 37 = .ok (.iload_n 2, 1) := by decide +kernel
theorem dX12_tray_38 : decode cX12_tray 38 = .ok (.iastore, 1) := by decide +kernel
theorem dX12_tray_39 : decode cX12_tray 39 = .ok (.aload_n 0, 1) := by decide +kernel
theorem dX12_tray_40 : decode cX12_tray 40 = .ok (.getfield 24, 3) := by decide +kernel
theorem dX12_tray_43 : decode cX12_tray 43 = .ok (.iload_n 1, 1) := by decide +kernel
theorem dX12_tray_44 : decode cX12_tray 44 = .ok (.iload_n 3, 1) := by decide +kernel
theorem dX12_tray_45 : decode cX12_tray 45 = .ok (.iastore, 1) := by decide +kernel
theorem dX12_tray_46 : decode cX12_tray 46 = .ok (.iconst 0, 1) := by decide +kernel
theorem dX12_tray_47 : decode cX12_tray 47 = .ok (.istore 4, 2) := by decide +kernel
theorem dX12_tray_49 : decode cX12_tray 49 = .ok (.iload 4, 2) := by decide +kernel
theorem dX12_tray_51 : decode cX12_tray 51 = .ok (.iload_n 3, 1) := by decide +kernel
theorem dX12_tray_52 : decode cX12_tray 52 = .ok (.if_icmp .ge 22, 3) := by decide +kernel
theorem dX12_tray_55 : decode cX12_tray 55 = .ok (.aload_n 0, 1) := by decide +kernel
theorem dX12_tray_56 : decode cX12_tray 56 = .ok (.getfield 27, 3) := by decide +kernel
theorem dX12_tray_59 : decode cX12_tray 59 = .ok (.bipush 60, 2) := by decide +kernel
theorem dX12_tray_61 : decode cX12_tray 61 = .ok (.iload_n 1, 1) := by decide +kernel
theorem dX12_tray_62 : decode cX12_tray 62 = .ok (.imul, 1) := by decide +kernel
theorem dX12_tray_63 : decode cX12_tray 63 = .ok (.iload 4, 2) := by decide +kernel
theorem dX12_tray_65 : decode cX12_tray 65 = .ok (.iadd, 1) := by decide +kernel
theorem dX12_tray_66 : decode cX12_tray 66 = .ok (.lconst 0, 1) := by decide +kernel
theorem dX12_tray_67 : decode cX12_tray 67 = .ok (.lastore, 1) := by decide +kernel
theorem dX12_tray_68 : decode cX12_tray 68 = .ok (.iinc 4 1, 3) := by decide +kernel
theorem dX12_tray_71 : decode cX12_tray 71 = .ok (.goto (-22), 3) := by decide +kernel
theorem dX12_tray_74 : decode cX12_tray 74 = .ok (.aload_n 0, 1) := by decide +kernel
theorem dX12_tray_75 : decode cX12_tray 75 = .ok (.iconst 0, 1) := by decide +kernel
theorem dX12_tray_76 : decode cX12_tray 76 = .ok (.invokevirtual 90, 3) := by decide +kernel
theorem dX12_tray_79 : decode cX12_tray 79 = .ok (.ireturn, 1) := by decide +kernel
theorem dX12_wrongPlace_0 : decode cX12_wrongPlace 0 = .ok (.iload_n 1, 1) := by decide +kernel
theorem dX12_wrongPlace_1 : decode cX12_wrongPlace 1 = .ok (.invokestatic 94, 3) := by decide +kernel
theorem dX12_wrongPlace_4 : decode cX12_wrongPlace 4 = .ok (.ifCond .ne 7, 3) := by decide +kernel
theorem dX12_wrongPlace_7 : decode cX12_wrongPlace 7 = .ok (.iconst 1, 1) := by decide +kernel
theorem dX12_wrongPlace_8 : decode cX12_wrongPlace 8 = .ok (.goto 36, 3) := by decide +kernel
theorem dX12_wrongPlace_11 : decode cX12_wrongPlace 11 = .ok (.aload_n 0, 1) := by decide +kernel
theorem dX12_wrongPlace_12 : decode cX12_wrongPlace 12 = .ok (.getfield 24, 3) := by decide +kernel
theorem dX12_wrongPlace_15 : decode cX12_wrongPlace 15 = .ok (.iload_n 1, 1) := by decide +kernel
theorem dX12_wrongPlace_16 : decode cX12_wrongPlace 16 = .ok (.iaload, 1) := by decide +kernel
theorem dX12_wrongPlace_17 : decode cX12_wrongPlace 17 = .ok (.iconst (-1), 1) := by decide +kernel
theorem dX12_wrongPlace_18 : decode cX12_wrongPlace 18 = .ok (.if_icmp .ne 7, 3) := by decide +kernel
theorem dX12_wrongPlace_21 : decode cX12_wrongPlace 21 = .ok (.iconst 2, 1) := by decide +kernel
theorem dX12_wrongPlace_22 : decode cX12_wrongPlace 22 = .ok (.goto 22, 3) := by decide +kernel
theorem dX12_wrongPlace_25 : decode cX12_wrongPlace 25 = .ok (.iload_n 2, 1) := by decide +kernel
theorem dX12_wrongPlace_26 : decode cX12_wrongPlace 26 = .ok (.ifCond .lt 13, 3) := by decide +kernel
theorem dX12_wrongPlace_29 : decode cX12_wrongPlace 29 = .ok (.iload_n 2, 1) := by decide +kernel
theorem dX12_wrongPlace_30 : decode cX12_wrongPlace 30 = .ok (.aload_n 0, 1) := by decide +kernel
theorem dX12_wrongPlace_31 : decode cX12_wrongPlace 31 = .ok (.getfield 24, 3) := by decide +kernel
theorem dX12_wrongPlace_34 : decode cX12_wrongPlace 34 = .ok (.iload_n 1, 1) := by decide +kernel
theorem dX12_wrongPlace_35 : decode cX12_wrongPlace 35 = .ok (.iaload, 1) := by decide +kernel
theorem dX12_wrongPlace_36 : decode cX12_wrongPlace 36 = .ok (.if_icmp .lt 7, 3) := by decide +kernel
theorem dX12_wrongPlace_39 : decode cX12_wrongPlace 39 = .ok (.iconst 3, 1) := by decide +kernel
theorem dX12_wrongPlace_40 : decode cX12_wrongPlace 40 = .ok (.goto 4, 3) := by decide +kernel
theorem dX12_wrongPlace_43 : decode cX12_wrongPlace 43 = .ok (.iconst 0, 1) := by decide +kernel
theorem dX12_wrongPlace_44 : decode cX12_wrongPlace 44 = .ok (.ireturn, 1) := by decide +kernel
theorem dX12_write_0 : decode cX12_write 0 = .ok (.aload_n 0, 1) := by decide +kernel
theorem dX12_write_1 : decode cX12_write 1 = .ok (.iload_n 1, 1) := by decide +kernel
theorem dX12_write_2 : decode cX12_write 2 = .ok (.iload_n 2, 1) := by decide +kernel
theorem dX12_write_3 : decode cX12_write 3 = .ok (.invokevirtual 97, 3) := by decide +kernel
theorem dX12_write_6 : decode cX12_write 6 = .ok (.istore 5, 2) := by decide +kernel
theorem dX12_write_8 : decode cX12_write 8 = .ok (.iload 5, 2) := by decide +kernel
theorem dX12_write_10 : decode cX12_write 10 = .ok (.ifCond .ne 24, 3) := by decide +kernel
theorem dX12_write_13 : decode cX12_write 13 = .ok (.aload_n 0, 1) := by decide +kernel
theorem dX12_write_14 : decode cX12_write 14 = .ok (.getfield 27, 3) := by decide +kernel
theorem dX12_write_17 : decode cX12_write 17 = .ok (.bipush 60, 2) := by decide +kernel
theorem dX12_write_19 : decode cX12_write 19 = .ok (.iload_n 1, 1) := by decide +kernel
theorem dX12_write_20 : decode cX12_write 20 = .ok (.imul, 1) := by decide +kernel
theorem dX12_write_21 : decode cX12_write 21 = .ok (.iload_n 2, 1) := by decide +kernel
theorem dX12_write_22 : decode cX12_write 22 = .ok (.iadd, 1) := by decide +kernel
theorem dX12_write_23 : decode cX12_write 23 = .ok (.lload_n 3, 1) := by decide +kernel
theorem dX12_write_24 : decode cX12_write 24 = .ok (.aload_n 0, 1) := by decide +kernel
theorem dX12_write_25 : decode cX12_write 25 = .ok (.getfield 21, 3) := by decide +kernel
theorem dX12_write_28 : decode cX12_write 28 = .ok (.iload_n 1, 1) := by decide +kernel
theorem dX12_write_29 : decode cX12_write 29 = .ok (.iaload, 1) := by decide +kernel
theorem dX12_write_30 : decode cX12_write 30 = .ok (.invokestatic 101, 3) := by decide +kernel
theorem dX12_write_33 : decode cX12_write 33 = .ok (.lastore, 1) := by decide +kernel
theorem dX12_write_34 : decode cX12_write 34 = .ok (.aload_n 0, 1) := by decide +kernel
theorem dX12_write_35 : decode cX12_write 35 = .ok (.iload 5, 2) := by decide +kernel
theorem dX12_write_37 : decode cX12_write 37 = .ok (.invokevirtual 90, 3) := by decide +kernel
theorem dX12_write_40 : decode cX12_write 40 = .ok (.ireturn, 1) := by decide +kernel
theorem dX12_read_0 : decode cX12_read 0 = .ok (.aload_n 0, 1) := by decide +kernel
theorem dX12_read_1 : decode cX12_read 1 = .ok (.aload_n 0, 1) := by decide +kernel
theorem dX12_read_2 : decode cX12_read 2 = .ok (.iload_n 1, 1) := by decide +kernel
theorem dX12_read_3 : decode cX12_read 3 = .ok (.iload_n 2, 1) := by decide +kernel
theorem dX12_read_4 : decode cX12_read 4 = .ok (.invokevirtual 97, 3) := by decide +kernel
theorem dX12_read_7 : decode cX12_read 7 = .ok (.putfield 77, 3) := by decide +kernel
theorem dX12_read_10 : decode cX12_read 10 = .ok (.aload_n 0, 1) := by decide +kernel
theorem dX12_read_11 : decode cX12_read 11 = .ok (.getfield 77, 3) := by decide +kernel
theorem dX12_read_14 : decode cX12_read 14 = .ok (.ifCond .le 9, 3) := by decide +kernel
theorem dX12_read_17 : decode cX12_read 17 = .ok (.ldc2_w 105, 3) := by decide +kernel
theorem dX12_read_20 : decode cX12_read 20 = .ok (.goto 14, 3) := by decide +kernel
theorem dX12_read_23 : decode cX12_read 23 = .ok (.aload_n 0, 1) := by decide +kernel
theorem dX12_read_24 : decode cX12_read 24 = .ok (.getfield 27, 3) := by decide +kernel
theorem dX12_read_27 : decode cX12_read 27 = .ok (.bipush 60, 2) := by decide +kernel
theorem dX12_read_29 : decode cX12_read 29 = .ok (.iload_n 1, 1) := by decide +kernel
theorem dX12_read_30 : decode cX12_read 30 = .ok (.imul, 1) := by decide +kernel
theorem dX12_read_31 : decode cX12_read 31 = .ok (.iload_n 2, 1) := by decide +kernel
theorem dX12_read_32 : decode cX12_read 32 = .ok (.iadd, 1) := by decide +kernel
theorem dX12_read_33 : decode cX12_read 33 = .ok (.laload, 1) := by decide +kernel
theorem dX12_read_34 : decode cX12_read 34 = .ok (.lreturn, 1) := by decide +kernel
theorem dX12_pour_0 : decode cX12_pour 0 = .ok (.iload_n 1, 1) := by decide +kernel
theorem dX12_pour_1 : decode cX12_pour 1 = .ok (.invokestatic 94, 3) := by decide +kernel
theorem dX12_pour_4 : decode cX12_pour 4 = .ok (.ifCond .eq 24, 3) := by decide +kernel
theorem dX12_pour_7 : decode cX12_pour 7 = .ok (.iload_n 3, 1) := by decide +kernel
theorem dX12_pour_8 : decode cX12_pour 8 = .ok (.invokestatic 94, 3) := by decide +kernel
theorem dX12_pour_11 : decode cX12_pour 11 = .ok (.ifCond .eq 17, 3) := by decide +kernel
theorem dX12_pour_14 : decode cX12_pour 14 = .ok (.iload_n 2, 1) := by decide +kernel
theorem dX12_pour_15 : decode cX12_pour 15 = .ok (.ifCond .lt 13, 3) := by decide +kernel
theorem dX12_pour_18 : decode cX12_pour 18 = .ok (.iload 4, 2) := by decide +kernel
theorem dX12_pour_20 : decode cX12_pour 20 = .ok (.ifCond .lt 8, 3) := by decide +kernel
theorem dX12_pour_23 : decode cX12_pour 23 = .ok (.iload 5, 2) := by decide +kernel
theorem dX12_pour_25 : decode cX12_pour 25 = .ok (.ifCond .ge 9, 3) := by decide +kernel
theorem dX12_pour_28 : decode cX12_pour 28 = .ok (.aload_n 0, 1) := by decide +kernel
theorem dX12_pour_29 : decode cX12_pour 29 = .ok (.iconst 1, 1) := by decide +kernel
theorem dX12_pour_30 : decode cX12_pour 30 = .ok (.invokevirtual 90, 3) := by decide +kernel
theorem dX12_pour_33 : decode cX12_pour 33 = .ok (.ireturn, 1) := by decide +kernel
theorem dX12_pour_34 : decode cX12_pour 34 = .ok (.aload_n 0, 1) := by decide +kernel
theorem dX12_pour_35 : decode cX12_pour 35 = .ok (.getfield 24, 3) := by decide +kernel
theorem dX12_pour_38 : decode cX12_pour 38 = .ok (.iload_n 1, 1) := by decide +kernel
theorem dX12_pour_39 : decode cX12_pour 39 = .ok (.iaload, 1) := by decide +kernel
theorem dX12_pour_40 : decode cX12_pour 40 = .ok (.iconst (-1), 1) := by decide +kernel
theorem dX12_pour_41 : decode cX12_pour 41 = .ok (.if_icmp .eq 13, 3) := by decide +kernel
theorem dX12_pour_44 : decode cX12_pour 44 = .ok (.aload_n 0, 1) := by decide +kernel
theorem dX12_pour_45 : decode cX12_pour 45 = .ok (.getfield 24, 3) := by decide +kernel
theorem dX12_pour_48 : decode cX12_pour 48 = .ok (.iload_n 3, 1) := by decide +kernel
theorem dX12_pour_49 : decode cX12_pour 49 = .ok (.iaload, 1) := by decide +kernel
theorem dX12_pour_50 : decode cX12_pour 50 = .ok (.iconst (-1), 1) := by decide +kernel
theorem dX12_pour_51 : decode cX12_pour 51 = .ok (.if_icmp .ne 9, 3) := by decide +kernel
theorem dX12_pour_54 : decode cX12_pour 54 = .ok (.aload_n 0, 1) := by decide +kernel
theorem dX12_pour_55 : decode cX12_pour 55 = .ok (.iconst 2, 1) := by decide +kernel
theorem dX12_pour_56 : decode cX12_pour 56 = .ok (.invokevirtual 90, 3) := by decide +kernel
theorem dX12_pour_59 : decode cX12_pour 59 = .ok (.ireturn, 1) := by decide +kernel
theorem dX12_pour_60 : decode cX12_pour 60 = .ok (.aload_n 0, 1) := by decide +kernel
theorem dX12_pour_61 : decode cX12_pour 61 = .ok (.getfield 21, 3) := by decide +kernel
theorem dX12_pour_64 : decode cX12_pour 64 = .ok (.iload_n 1, 1) := by decide +kernel
theorem dX12_pour_65 : decode cX12_pour 65 = .ok (.iaload, 1) := by decide +kernel
theorem dX12_pour_66 : decode cX12_pour 66 = .ok (.aload_n 0, 1) := by decide +kernel
theorem dX12_pour_67 : decode cX12_pour 67 = .ok (.getfield 21, 3) := by decide +kernel
theorem dX12_pour_70 : decode cX12_pour 70 = .ok (.iload_n 3, 1) := by decide +kernel
theorem dX12_pour_71 : decode cX12_pour 71 = .ok (.iaload, 1) := by decide +kernel
theorem dX12_pour_72 : decode cX12_pour 72 = .ok (.if_icmp .eq 10, 3) := by decide +kernel
theorem dX12_pour_75 : decode cX12_pour 75 = .ok (.aload_n 0, 1) := by decide +kernel
theorem dX12_pour_76 : decode cX12_pour 76 = .ok (.bipush 8, 2) := by decide +kernel
theorem dX12_pour_78 : decode cX12_pour 78 = .ok (.invokevirtual 90, 3) := by decide +kernel
theorem dX12_pour_81 : decode cX12_pour 81 = .ok (.ireturn, 1) := by decide +kernel
theorem dX12_pour_82 : decode cX12_pour 82 = .ok (.iload 5, 2) := by decide +kernel
theorem dX12_pour_84 : decode cX12_pour 84 = .ok (.aload_n 0, 1) := by decide +kernel
theorem dX12_pour_85 : decode cX12_pour 85 = .ok (.getfield 24, 3) := by decide +kernel
theorem dX12_pour_88 : decode cX12_pour 88 = .ok (.iload_n 1, 1) := by decide +kernel
theorem dX12_pour_89 : decode cX12_pour 89 = .ok (.iaload, 1) := by decide +kernel
theorem dX12_pour_90 : decode cX12_pour 90 = .ok (.iload_n 2, 1) := by decide +kernel
theorem dX12_pour_91 : decode cX12_pour 91 = .ok (.isub, 1) := by decide +kernel
theorem dX12_pour_92 : decode cX12_pour 92 = .ok (.if_icmp .gt 17, 3) := by decide +kernel
theorem dX12_pour_95 : decode cX12_pour 95 = .ok (.iload 5, 2) := by decide +kernel
theorem dX12_pour_97 : decode cX12_pour 97 = .ok (.aload_n 0, 1) := by decide +kernel
theorem dX12_pour_98 : decode cX12_pour 98 = .ok (.getfield 24, 3) := by decide +kernel
theorem dX12_pour_101 : decode cX12_pour 101 = .ok (.iload_n 3, 1) := by decide +kernel
theorem dX12_pour_102 : decode cX12_pour 102 = .ok (.iaload, 1) := by decide +kernel
theorem dX12_pour_103 : decode cX12_pour 103 = .ok (.iload 4, 2) := by decide +kernel
theorem dX12_pour_105 : decode cX12_pour 105 = .ok (.isub, 1) := by decide +kernel
theorem dX12_pour_106 : decode cX12_pour 106 = .ok (.if_icmp .le 9, 3) := by decide +kernel
theorem dX12_pour_109 : decode cX12_pour 109 = .ok (.aload_n 0, 1) := by decide +kernel
theorem dX12_pour_110 : decode cX12_pour 110 = .ok (.iconst 3, 1) := by decide +kernel
theorem dX12_pour_111 : decode cX12_pour 111 = .ok (.invokevirtual 90, 3) := by decide +kernel
theorem dX12_pour_114 : decode cX12_pour 114 = .ok (.ireturn, 1) := by decide +kernel
theorem dX12_pour_115 : decode cX12_pour 115 = .ok (.iconst 0, 1) := by decide +kernel
theorem dX12_pour_116 : decode cX12_pour 116 = .ok (.istore 6, 2) := by decide +kernel
theorem dX12_pour_118 : decode cX12_pour 118 = .ok (.iload 6, 2) := by decide +kernel
theorem dX12_pour_120 : decode cX12_pour 120 = .ok (.iload 5, 2) := by decide +kernel
theorem dX12_pour_122 : decode cX12_pour 122 = .ok (.if_icmp .ge 58, 3) := by decide +kernel
theorem dX12_pour_125 : decode cX12_pour 125 = .ok (.iload_n 2, 1) := by decide +kernel
theorem dX12_pour_126 : decode cX12_pour 126 = .ok (.iload 4, 2) := by decide +kernel
theorem dX12_pour_128 : decode cX12_pour 128 = .ok (.if_icmp .ge 13, 3) := by decide +kernel
theorem dX12_pour_131 : decode cX12_pour 131 = .ok (.iload 5, 2) := by decide +kernel
theorem dX12_pour_133 : decode cX12_pour 133 = .ok (.iconst 1, 1) := by decide +kernel
theorem dX12_pour_134 : decode cX12_pour 134 = .ok (.isub, 1) := by decide +kernel
theorem dX12_pour_135 : decode cX12_pour 135 = .ok (.iload 6, 2) := by decide +kernel
theorem dX12_pour_137 : decode cX12_pour 137 = .ok (.isub, 1) := by decide +kernel
theorem dX12_pour_138 : decode cX12_pour 138 = .ok (.goto 5, 3) := by decide +kernel
theorem dX12_pour_141 : decode cX12_pour 141 = .ok (.iload 6, 2) := by decide +kernel
theorem dX12_pour_143 : decode cX12_pour 143 = .ok (.istore 7, 2) := by decide +kernel
theorem dX12_pour_145 : decode cX12_pour 145 = .ok (.aload_n 0, 1) := by decide +kernel
theorem dX12_pour_146 : decode cX12_pour 146 = .ok (.getfield 27, 3) := by decide +kernel
theorem dX12_pour_149 : decode cX12_pour 149 = .ok (.bipush 60, 2) := by decide +kernel
theorem dX12_pour_151 : decode cX12_pour 151 = .ok (.iload_n 3, 1) := by decide +kernel
theorem dX12_pour_152 : decode cX12_pour 152 = .ok (.imul, 1) := by decide +kernel
theorem dX12_pour_153 : decode cX12_pour 153 = .ok (.iload 4, 2) := by decide +kernel
theorem dX12_pour_155 : decode cX12_pour 155 = .ok (.iadd, 1) := by decide +kernel
theorem dX12_pour_156 : decode cX12_pour 156 = .ok (.iload 7, 2) := by decide +kernel
theorem dX12_pour_158 : decode cX12_pour 158 = .ok (.iadd, 1) := by decide +kernel
theorem dX12_pour_159 : decode cX12_pour 159 = .ok (.aload_n 0, 1) := by decide +kernel
theorem dX12_pour_160 : decode cX12_pour 160 = .ok (.getfield 27, 3) := by decide +kernel
theorem dX12_pour_163 : decode cX12_pour 163 = .ok (.bipush 60, 2) := by decide +kernel
theorem dX12_pour_165 : decode cX12_pour 165 = .ok (.iload_n 1, 1) := by decide +kernel
theorem dX12_pour_166 : decode cX12_pour 166 = .ok (.imul, 1) := by decide +kernel
theorem dX12_pour_167 : decode cX12_pour 167 = .ok (.iload_n 2, 1) := by decide +kernel
theorem dX12_pour_168 : decode cX12_pour 168 = .ok (.iadd, 1) := by decide +kernel
theorem dX12_pour_169 : decode cX12_pour 169 = .ok (.iload 7, 2) := by decide +kernel
theorem dX12_pour_171 : decode cX12_pour 171 = .ok (.iadd, 1) := by decide +kernel
theorem dX12_pour_172 : decode cX12_pour 172 = .ok (.laload, 1) := by decide +kernel
theorem dX12_pour_173 : decode cX12_pour 173 = .ok (.lastore, 1) := by decide +kernel
theorem dX12_pour_174 : decode cX12_pour 174 = .ok (.iinc 6 1, 3) := by decide +kernel
theorem dX12_pour_177 : decode cX12_pour 177 = .ok (.goto (-59), 3) := by decide +kernel
theorem dX12_pour_180 : decode cX12_pour 180 = .ok (.aload_n 0, 1) := by decide +kernel
theorem dX12_pour_181 : decode cX12_pour 181 = .ok (.iconst 0, 1) := by decide +kernel
theorem dX12_pour_182 : decode cX12_pour 182 = .ok (.invokevirtual 90, 3) := by decide +kernel
theorem dX12_pour_185 : decode cX12_pour 185 = .ok (.ireturn, 1) := by decide +kernel
theorem dX12_isFrom_0 : decode cX12_isFrom 0 = .ok (.lload_n 0, 1) := by decide +kernel
theorem dX12_isFrom_1 : decode cX12_isFrom 1 = .ok (.lload_n 2, 1) := by decide +kernel
theorem dX12_isFrom_2 : decode cX12_isFrom 2 = .ok (.lcmp, 1) := by decide +kernel
theorem dX12_isFrom_3 : decode cX12_isFrom 3 = .ok (.ifCond .lt 14, 3) := by decide +kernel
theorem dX12_isFrom_6 : decode cX12_isFrom 6 = .ok (.lload_n 0, 1) := by decide +kernel
theorem dX12_isFrom_7 : decode cX12_isFrom 7 = .ok (.lload 4, 2) := by decide +kernel
theorem dX12_isFrom_9 : decode cX12_isFrom 9 = .ok (.lcmp, 1) := by decide +kernel
theorem dX12_isFrom_10 : decode cX12_isFrom 10 = .ok (.ifCond .gt 7, 3) := by decide +kernel
theorem dX12_isFrom_13 : decode cX12_isFrom 13 = .ok (.iconst 1, 1) := by decide +kernel
theorem dX12_isFrom_14 : decode cX12_isFrom 14 = .ok (.goto 4, 3) := by decide +kernel
theorem dX12_isFrom_17 : decode cX12_isFrom 17 = .ok (.iconst 0, 1) := by decide +kernel
theorem dX12_isFrom_18 : decode cX12_isFrom 18 = .ok (.ireturn, 1) := by decide +kernel
theorem dX12_feed_0 : decode cX12_feed 0 = .ok (.aload_n 0, 1) := by decide +kernel
theorem dX12_feed_1 : decode cX12_feed 1 = .ok (.getfield 107, 3) := by decide +kernel
theorem dX12_feed_4 : decode cX12_feed 4 = .ok (.bipush 20, 2) := by decide +kernel
theorem dX12_feed_6 : decode cX12_feed 6 = .ok (.iadd, 1) := by decide +kernel
theorem dX12_feed_7 : decode cX12_feed 7 = .ok (.sipush 900, 3) := by decide +kernel
theorem dX12_feed_10 : decode cX12_feed 10 = .ok (.if_icmp .le 5, 3) := by decide +kernel
theorem dX12_feed_13 : decode cX12_feed 13 = .ok (.iconst (-1), 1) := by decide +kernel
theorem dX12_feed_14 : decode cX12_feed 14 = .ok (.ireturn, 1) := by decide +kernel
theorem dX12_feed_15 : decode cX12_feed 15 = .ok (.aload_n 0, 1) := by decide +kernel
theorem dX12_feed_16 : decode cX12_feed 16 = .ok (.iload_n 1, 1) := by decide +kernel
theorem dX12_feed_17 : decode cX12_feed 17 = .ok (.invokevirtual 110, 3) := by decide +kernel
theorem dX12_feed_20 : decode cX12_feed 20 = .ok (.aload_n 0, 1) := by decide +kernel
theorem dX12_feed_21 : decode cX12_feed 21 = .ok (.iload_n 2, 1) := by decide +kernel
theorem dX12_feed_22 : decode cX12_feed 22 = .ok (.invokevirtual 110, 3) := by decide +kernel
theorem dX12_feed_25 : decode cX12_feed 25 = .ok (.aload_n 0, 1) := by decide +kernel
theorem dX12_feed_26 : decode cX12_feed 26 = .ok (.iload_n 3, 1) := by decide +kernel
theorem dX12_feed_27 : decode cX12_feed 27 = .ok (.invokevirtual 110, 3) := by decide +kernel
theorem dX12_feed_30 : decode cX12_feed 30 = .ok (.aload_n 0, 1) := by decide +kernel
theorem dX12_feed_31 : decode cX12_feed 31 = .ok (.iload 4, 2) := by decide +kernel
theorem dX12_feed_33 : decode cX12_feed 33 = .ok (.invokevirtual 110, 3) := by decide +kernel
theorem dX12_feed_36 : decode cX12_feed 36 = .ok (.aload_n 0, 1) := by decide +kernel
theorem dX12_feed_37 : decode cX12_feed 37 = .ok (.iload 5, 2) := by decide +kernel
theorem dX12_feed_39 : decode cX12_feed 39 = .ok (.invokevirtual 110, 3) := by decide +kernel
theorem dX12_feed_42 : decode cX12_feed 42 = .ok (.aload_n 0, 1) := by decide +kernel
theorem dX12_feed_43 : decode cX12_feed 43 = .ok (.getfield 107, 3) := by decide +kernel
theorem dX12_feed_46 : decode cX12_feed 46 = .ok (.ireturn, 1) := by decide +kernel
theorem dX12_four_0 : decode cX12_four 0 = .ok (.bipush 24, 2) := by decide +kernel
theorem dX12_four_2 : decode cX12_four 2 = .ok (.istore_n 2, 1) := by decide +kernel
theorem dX12_four_3 : decode cX12_four 3 = .ok (.iload_n 2, 1) := by decide +kernel
theorem dX12_four_4 : decode cX12_four 4 = .ok (.ifCond .lt 32, 3) := by decide +kernel
theorem dX12_four_7 : decode cX12_four 7 = .ok (.aload_n 0, 1) := by decide +kernel
theorem dX12_four_8 : decode cX12_four 8 = .ok (.getfield 30, 3) := by decide +kernel
theorem dX12_four_11 : decode cX12_four 11 = .ok (.aload_n 0, 1) := by decide +kernel
theorem dX12_four_12 : decode cX12_four 12 = .ok (.getfield 107, 3) := by decide +kernel
theorem dX12_four_15 : decode cX12_four 15 = .ok (.iload_n 1, 1) := by decide +kernel
theorem dX12_four_16 : decode cX12_four 16 = .ok (.iload_n 2, 1) := by decide +kernel
theorem dX12_four_17 : decode cX12_four 17 = .ok (.ishr, 1) := by decide +kernel
theorem dX12_four_18 : decode cX12_four 18 = .ok (.i2b, 1) := by decide +kernel
theorem dX12_four_19 : decode cX12_four 19 = .ok (.bastore, 1) := by decide +kernel
theorem dX12_four_20 : decode cX12_four 20 = .ok (.aload_n 0, 1) := by decide +kernel
theorem dX12_four_21 : decode cX12_four 21 = .ok (.dup, 1) := by decide +kernel
theorem dX12_four_22 : decode cX12_four 22 = .ok (.getfield 107, 3) := by decide +kernel
theorem dX12_four_25 : decode cX12_four 25 = .ok (.iconst 1, 1) := by decide +kernel
theorem dX12_four_26 : decode cX12_four 26 = .ok (.iadd, 1) := by decide +kernel
theorem dX12_four_27 : decode cX12_four 27 = .ok (.putfield 107, 3) := by decide +kernel
theorem dX12_four_30 : decode cX12_four 30 = .ok (.iinc 2 (-8), 3) := by decide +kernel
theorem dX12_four_33 : decode cX12_four 33 = .ok (.goto (-30), 3) := by decide +kernel
theorem dX12_four_36 : decode cX12_four 36 = .ok (.return_, 1) := by decide +kernel
theorem dX12_byteAt_0 : decode cX12_byteAt 0 = .ok (.iload_n 1, 1) := by decide +kernel
theorem dX12_byteAt_1 : decode cX12_byteAt 1 = .ok (.aload_n 0, 1) := by decide +kernel
theorem dX12_byteAt_2 : decode cX12_byteAt 2 = .ok (.getfield 114, 3) := by decide +kernel
theorem dX12_byteAt_5 : decode cX12_byteAt 5 = .ok (.if_icmp .ge 16, 3) := by decide +kernel
theorem dX12_byteAt_8 : decode cX12_byteAt 8 = .ok (.aload_n 0, 1) := by decide +kernel
theorem dX12_byteAt_9 : decode cX12_byteAt 9 = .ok (.getfield 34, 3) := by decide +kernel
theorem dX12_byteAt_12 : decode cX12_byteAt 12 = .ok (.iload_n 1, 1) := by decide +kernel
theorem dX12_byteAt_13 : decode cX12_byteAt 13 = .ok (.baload, 1) := by decide +kernel
theorem dX12_byteAt_14 : decode cX12_byteAt 14 = .ok (.sipush 255, 3) := by decide +kernel
theorem dX12_byteAt_17 : decode cX12_byteAt 17 = .ok (.iand, 1) := by decide +kernel
theorem dX12_byteAt_18 : decode cX12_byteAt 18 = .ok (.goto 4, 3) := by decide +kernel
theorem dX12_byteAt_21 : decode cX12_byteAt 21 = .ok (.iconst (-1), 1) := by decide +kernel
theorem dX12_byteAt_22 : decode cX12_byteAt 22 = .ok (.ireturn, 1) := by decide +kernel
theorem dX12_isSmall_0 : decode cX12_isSmall 0 = .ok (.iload_n 0, 1) := by decide +kernel
theorem dX12_isSmall_1 : decode cX12_isSmall 1 = .ok (.bipush 97, 2) := by decide +kernel
theorem dX12_isSmall_3 : decode cX12_isSmall 3 = .ok (.if_icmp .lt 13, 3) := by decide +kernel
theorem dX12_isSmall_6 : decode cX12_isSmall 6 = .ok (.iload_n 0, 1) := by decide +kernel
theorem dX12_isSmall_7 : decode cX12_isSmall 7 = .ok (.bipush 122, 2) := by decide +kernel
theorem dX12_isSmall_9 : decode cX12_isSmall 9 = .ok (.if_icmp .gt 7, 3) := by decide +kernel
theorem dX12_isSmall_12 : decode cX12_isSmall 12 = .ok (.iconst 1, 1) := by decide +kernel
theorem dX12_isSmall_13 : decode cX12_isSmall 13 = .ok (.goto 4, 3) := by decide +kernel
theorem dX12_isSmall_16 : decode cX12_isSmall 16 = .ok (.iconst 0, 1) := by decide +kernel
theorem dX12_isSmall_17 : decode cX12_isSmall 17 = .ok (.ireturn, 1) := by decide +kernel
theorem dX12_isDigit_0 : decode cX12_isDigit 0 = .ok (.iload_n 0, 1) := by decide +kernel
theorem dX12_isDigit_1 : decode cX12_isDigit 1 = .ok (.bipush 48, 2) := by decide +kernel
theorem dX12_isDigit_3 : decode cX12_isDigit 3 = .ok (.if_icmp .lt 13, 3) := by decide +kernel
theorem dX12_isDigit_6 : decode cX12_isDigit 6 = .ok (.iload_n 0, 1) := by decide +kernel
theorem dX12_isDigit_7 : decode cX12_isDigit 7 = .ok (.bipush 57, 2) := by decide +kernel
theorem dX12_isDigit_9 : decode cX12_isDigit 9 = .ok (.if_icmp .gt 7, 3) := by decide +kernel
theorem dX12_isDigit_12 : decode cX12_isDigit 12 = .ok (.iconst 1, 1) := by decide +kernel
theorem dX12_isDigit_13 : decode cX12_isDigit 13 = .ok (.goto 4, 3) := by decide +kernel
theorem dX12_isDigit_16 : decode cX12_isDigit 16 = .ok (.iconst 0, 1) := by decide +kernel
theorem dX12_isDigit_17 : decode cX12_isDigit 17 = .ok (.ireturn, 1) := by decide +kernel
theorem dX12_ahead_0 : decode cX12_ahead 0 = .ok (.aload_n 0, 1) := by decide +kernel
theorem dX12_ahead_1 : decode cX12_ahead 1 = .ok (.aload_n 0, 1) := by decide +kernel
theorem dX12_ahead_2 : decode cX12_ahead 2 = .ok (.getfield 117, 3) := by decide +kernel
theorem dX12_ahead_5 : decode cX12_ahead 5 = .ok (.invokevirtual 120, 3) := by decide +kernel
theorem dX12_ahead_8 : decode cX12_ahead 8 = .ok (.bipush 32, 2) := by decide +kernel
theorem dX12_ahead_10 : decode cX12_ahead 10 = .ok (.if_icmp .eq 16, 3) := by decide +kernel
theorem dX12_ahead_13 : decode cX12_ahead 13 = .ok (.aload_n 0, 1) := by decide +kernel
theorem dX12_ahead_14 : decode cX12_ahead 14 = .ok (.aload_n 0, 1) := by decide +kernel
theorem dX12_ahead_15 : decode cX12_ahead 15 = .ok (.getfield 117, 3) := by decide +kernel
theorem dX12_ahead_18 : decode cX12_ahead 18 = .ok (.invokevirtual 120, 3) := by decide +kernel
theorem dX12_ahead_21 : decode cX12_ahead 21 = .ok (.bipush 10, 2) := by decide +kernel
theorem dX12_ahead_23 : decode cX12_ahead 23 = .ok (.if_icmp .ne 16, 3) := by decide +kernel
theorem dX12_ahead_26 : decode cX12_ahead 26 = .ok (.aload_n 0, 1) := by decide +kernel
theorem dX12_ahead_27 : decode cX12_ahead 27 = .ok (.dup, 1) := by decide +kernel
theorem dX12_ahead_28 : decode cX12_ahead 28 = .ok (.getfield 117, 3) := by decide +kernel
theorem dX12_ahead_31 : decode cX12_ahead 31 = .ok (.iconst 1, 1) := by decide +kernel
theorem dX12_ahead_32 : decode cX12_ahead 32 = .ok (.iadd, 1) := by decide +kernel
theorem dX12_ahead_33 : decode cX12_ahead 33 = .ok (.putfield 117, 3) := by decide +kernel
theorem dX12_ahead_36 : decode cX12_ahead 36 = .ok (.goto (-36), 3) := by decide +kernel
theorem dX12_ahead_39 : decode cX12_ahead 39 = .ok (.aload_n 0, 1) := by decide +kernel
theorem dX12_ahead_40 : decode cX12_ahead 40 = .ok (.aload_n 0, 1) := by decide +kernel
theorem dX12_ahead_41 : decode cX12_ahead 41 = .ok (.getfield 117, 3) := by decide +kernel
theorem dX12_ahead_44 : decode cX12_ahead 44 = .ok (.putfield 123, 3) := by decide +kernel
theorem dX12_ahead_47 : decode cX12_ahead 47 = .ok (.aload_n 0, 1) := by decide +kernel
theorem dX12_ahead_48 : decode cX12_ahead 48 = .ok (.aload_n 0, 1) := by decide +kernel
theorem dX12_ahead_49 : decode cX12_ahead 49 = .ok (.getfield 117, 3) := by decide +kernel
theorem dX12_ahead_52 : decode cX12_ahead 52 = .ok (.invokevirtual 120, 3) := by decide +kernel
theorem dX12_ahead_55 : decode cX12_ahead 55 = .ok (.istore_n 1, 1) := by decide +kernel
theorem dX12_ahead_56 : decode cX12_ahead 56 = .ok (.aload_n 0, 1) := by decide +kernel
theorem dX12_ahead_57 : decode cX12_ahead 57 = .ok (.iload_n 1, 1) := by decide +kernel
theorem dX12_ahead_58 : decode cX12_ahead 58 = .ok (.putfield 126, 3) := by decide +kernel
theorem dX12_ahead_61 : decode cX12_ahead 61 = .ok (.iload_n 1, 1) := by decide +kernel
theorem dX12_ahead_62 : decode cX12_ahead 62 = .ok (.iconst (-1), 1) := by decide +kernel
theorem dX12_ahead_63 : decode cX12_ahead 63 = .ok (.if_icmp .ne 11, 3) := by decide +kernel
theorem dX12_ahead_66 : decode cX12_ahead 66 = .ok (.aload_n 0, 1) := by decide +kernel
theorem dX12_ahead_67 : decode cX12_ahead 67 = .ok (.iconst 0, 1) := by decide +kernel
theorem dX12_ahead_68 : decode cX12_ahead 68 = .ok (.putfield 129, 3) := by decide +kernel
theorem dX12_ahead_71 : decode cX12_ahead 71 = .ok (.goto 180, 3) := by decide +kernel
theorem dX12_ahead_74 : decode cX12_ahead 74 = .ok (.iload_n 1, 1) := by decide +kernel
theorem dX12_ahead_75 : decode cX12_ahead 75 = .ok (.invokestatic 132, 3) := by decide +kernel
theorem dX12_ahead_78 : decode cX12_ahead 78 = .ok (.ifCond .eq 38, 3) := by decide +kernel
theorem dX12_ahead_81 : decode cX12_ahead 81 = .ok (.aload_n 0, 1) := by decide +kernel
theorem dX12_ahead_82 : decode cX12_ahead 82 = .ok (.aload_n 0, 1) := by decide +kernel
theorem dX12_ahead_83 : decode cX12_ahead 83 = .ok (.getfield 117, 3) := by decide +kernel
theorem dX12_ahead_86 : decode cX12_ahead 86 = .ok (.invokevirtual 120, 3) := by decide +kernel
theorem dX12_ahead_89 : decode cX12_ahead 89 = .ok (.invokestatic 132, 3) := by decide +kernel
theorem dX12_ahead_92 : decode cX12_ahead 92 = .ok (.ifCond .eq 16, 3) := by decide +kernel
theorem dX12_ahead_95 : decode cX12_ahead 95 = .ok (.aload_n 0, 1) := by decide +kernel
theorem dX12_ahead_96 : decode cX12_ahead 96 = .ok (.dup, 1) := by decide +kernel
theorem dX12_ahead_97 : decode cX12_ahead 97 = .ok (.getfield 117, 3) := by decide +kernel
theorem dX12_ahead_100 : decode cX12_ahead 100 = .ok (.iconst 1, 1) := by decide +kernel
theorem dX12_ahead_101 : decode cX12_ahead 101 = .ok (.iadd, 1) := by decide +kernel
theorem dX12_ahead_102 : decode cX12_ahead 102 = .ok (.putfield 117, 3) := by decide +kernel
theorem dX12_ahead_105 : decode cX12_ahead 105 = .ok (.goto (-24), 3) := by decide +kernel
theorem dX12_ahead_108 : decode cX12_ahead 108 = .ok (.aload_n 0, 1) := by decide +kernel
theorem dX12_ahead_109 : decode cX12_ahead 109 = .ok (.iconst 2, 1) := by decide +kernel
theorem dX12_ahead_110 : decode cX12_ahead 110 = .ok (.putfield 129, 3) := by decide +kernel
theorem dX12_ahead_113 : decode cX12_ahead 113 = .ok (.goto 138, 3) := by decide +kernel
theorem dX12_ahead_116 : decode cX12_ahead 116 = .ok (.iload_n 1, 1) := by decide +kernel
theorem dX12_ahead_117 : decode cX12_ahead 117 = .ok (.invokestatic 135, 3) := by decide +kernel
theorem dX12_ahead_120 : decode cX12_ahead 120 = .ok (.ifCond .eq 88, 3) := by decide +kernel
theorem dX12_ahead_123 : decode cX12_ahead 123 = .ok (.aload_n 0, 1) := by decide +kernel
theorem dX12_ahead_124 : decode cX12_ahead 124 = .ok (.iconst 0, 1) := by decide +kernel
theorem dX12_ahead_125 : decode cX12_ahead 125 = .ok (.putfield 126, 3) := by decide +kernel
theorem dX12_ahead_128 : decode cX12_ahead 128 = .ok (.aload_n 0, 1) := by decide +kernel
theorem dX12_ahead_129 : decode cX12_ahead 129 = .ok (.aload_n 0, 1) := by decide +kernel
theorem dX12_ahead_130 : decode cX12_ahead 130 = .ok (.getfield 117, 3) := by decide +kernel
theorem dX12_ahead_133 : decode cX12_ahead 133 = .ok (.invokevirtual 120, 3) := by decide +kernel
theorem dX12_ahead_136 : decode cX12_ahead 136 = .ok (.invokestatic 135, 3) := by decide +kernel
theorem dX12_ahead_139 : decode cX12_ahead 139 = .ok (.ifCond .eq 44, 3) := by decide +kernel
theorem dX12_ahead_142 : decode cX12_ahead 142 = .ok (.aload_n 0, 1) := by decide +kernel
theorem dX12_ahead_143 : decode cX12_ahead 143 = .ok (.ldc 138, 2) := by decide +kernel
theorem dX12_ahead_145 : decode cX12_ahead 145 = .ok (.bipush 10, 2) := by decide +kernel
theorem dX12_ahead_147 : decode cX12_ahead 147 = .ok (.aload_n 0, 1) := by decide +kernel
theorem dX12_ahead_148 : decode cX12_ahead 148 = .ok (.getfield 126, 3) := by decide +kernel
theorem dX12_ahead_151 : decode cX12_ahead 151 = .ok (.imul, 1) := by decide +kernel
theorem dX12_ahead_152 : decode cX12_ahead 152 = .ok (.aload_n 0, 1) := by decide +kernel
theorem dX12_ahead_153 : decode cX12_ahead 153 = .ok (.aload_n 0, 1) := by decide +kernel
theorem dX12_ahead_154 : decode cX12_ahead 154 = .ok (.getfield 117, 3) := by decide +kernel
theorem dX12_ahead_157 : decode cX12_ahead 157 = .ok (.invokevirtual 120, 3) := by decide +kernel
theorem dX12_ahead_160 : decode cX12_ahead 160 = .ok (.iadd, 1) := by decide +kernel
theorem dX12_ahead_161 : decode cX12_ahead 161 = .ok (.bipush 48, 2) := by decide +kernel
theorem dX12_ahead_163 : decode cX12_ahead 163 = .ok (.isub, 1) := by decide +kernel
theorem dX12_ahead_164 : decode cX12_ahead 164 = .ok (.invokestatic 139, 3) := by decide +kernel
theorem dX12_ahead_167 : decode cX12_ahead 167 = .ok (.putfield 126, 3) := by decide +kernel
theorem dX12_ahead_170 : decode cX12_ahead 170 = .ok (.aload_n 0, 1) := by decide +kernel
theorem dX12_ahead_171 : decode cX12_ahead 171 = .ok (.dup, 1) := by decide +kernel
theorem dX12_ahead_172 : decode cX12_ahead 172 = .ok (.getfield 117, 3) := by decide +kernel
theorem dX12_ahead_175 : decode cX12_ahead 175 = .ok (.iconst 1, 1) := by decide +kernel
theorem dX12_ahead_176 : decode cX12_ahead 176 = .ok (.iadd, 1) := by decide +kernel
theorem dX12_ahead_177 : decode cX12_ahead 177 = .ok (.putfield 117, 3) := by decide +kernel
theorem dX12_ahead_180 : decode cX12_ahead 180 = .ok (.goto (-52), 3) := by decide +kernel
theorem dX12_ahead_183 : decode cX12_ahead 183 = .ok (.aload_n 0, 1) := by decide +kernel
theorem dX12_ahead_184 : decode cX12_ahead 184 = .ok (.aload_n 0, 1) := by decide +kernel
theorem dX12_ahead_185 : decode cX12_ahead 185 = .ok (.getfield 117, 3) := by decide +kernel
theorem dX12_ahead_188 : decode cX12_ahead 188 = .ok (.aload_n 0, 1) := by decide +kernel
theorem dX12_ahead_189 : decode cX12_ahead 189 = .ok (.getfield 123, 3) := by decide +kernel
theorem dX12_ahead_192 : decode cX12_ahead 192 = .ok (.isub, 1) := by decide +kernel
theorem dX12_ahead_193 : decode cX12_ahead 193 = .ok (.iconst 4, 1) := by decide +kernel
theorem dX12_ahead_194 : decode cX12_ahead 194 = .ok (.if_icmp .le 7, 3) := by decide +kernel
theorem dX12_ahead_197 : decode cX12_ahead 197 = .ok (.iconst 1, 1) := by decide +kernel
theorem dX12_ahead_198 : decode cX12_ahead 198 = .ok (.goto 4, 3) := by decide +kernel
theorem dX12_ahead_201 : decode cX12_ahead 201 = .ok (.iconst 3, 1) := by decide +kernel
theorem dX12_ahead_202 : decode cX12_ahead 202 = .ok (.putfield 129, 3) := by decide +kernel
theorem dX12_ahead_205 : decode cX12_ahead 205 = .ok (.goto 46, 3) := by decide +kernel
theorem dX12_ahead_208 : decode cX12_ahead 208 = .ok (.aload_n 0, 1) := by decide +kernel
theorem dX12_ahead_209 : decode cX12_ahead 209 = .ok (.dup, 1) := by decide +kernel
theorem dX12_ahead_210 : decode cX12_ahead 210 = .ok (.getfield 117, 3) := by decide +kernel
theorem dX12_ahead_213 : decode cX12_ahead 213 = .ok (.iconst 1, 1) := by decide +kernel
theorem dX12_ahead_214 : decode cX12_ahead 214 = .ok (.iadd, 1) := by decide +kernel
theorem dX12_ahead_215 : decode cX12_ahead 215 = .ok (.putfield 117, 3) := by decide +kernel
theorem dX12_ahead_218 : decode cX12_ahead 218 = .ok (.aload_n 0, 1) := by decide +kernel
theorem dX12_ahead_219 : decode cX12_ahead 219 = .ok (.iload_n 1, 1) := by decide +kernel
theorem dX12_ahead_220 : decode cX12_ahead 220 = .ok (.bipush 59, 2) := by decide +kernel
theorem dX12_ahead_222 : decode cX12_ahead 222 = .ok (.if_icmp .eq 21, 3) := by decide +kernel
theorem dX12_ahead_225 : decode cX12_ahead 225 = .ok (.iload_n 1, 1) := by decide +kernel
theorem dX12_ahead_226 : decode cX12_ahead 226 = .ok (.bipush 60, 2) := by decide +kernel
theorem dX12_ahead_228 : decode cX12_ahead 228 = .ok (.if_icmp .eq 15, 3) := by decide +kernel
theorem dX12_ahead_231 : decode cX12_ahead 231 = .ok (.iload_n 1, 1) := by decide +kernel
theorem dX12_ahead_232 : decode cX12_ahead 232 = .ok (.bipush 62, 2) := by decide +kernel
theorem dX12_ahead_234 : decode cX12_ahead 234 = .ok (.if_icmp .eq 9, 3) := by decide +kernel
theorem dX12_ahead_237 : decode cX12_ahead 237 = .ok (.iload_n 1, 1) := by decide +kernel
theorem dX12_ahead_238 : decode cX12_ahead 238 = .ok (.bipush 61, 2) := by decide +kernel
theorem dX12_ahead_240 : decode cX12_ahead 240 = .ok (.if_icmp .ne 7, 3) := by decide +kernel
theorem dX12_ahead_243 : decode cX12_ahead 243 = .ok (.iconst 4, 1) := by decide +kernel
theorem dX12_ahead_244 : decode cX12_ahead 244 = .ok (.goto 4, 3) := by decide +kernel
theorem dX12_ahead_247 : decode cX12_ahead 247 = .ok (.iconst 1, 1) := by decide +kernel
theorem dX12_ahead_248 : decode cX12_ahead 248 = .ok (.putfield 129, 3) := by decide +kernel
theorem dX12_ahead_251 : decode cX12_ahead 251 = .ok (.return_, 1) := by decide +kernel
theorem dX12_isSign_0 : decode cX12_isSign 0 = .ok (.aload_n 0, 1) := by decide +kernel
theorem dX12_isSign_1 : decode cX12_isSign 1 = .ok (.getfield 129, 3) := by decide +kernel
theorem dX12_isSign_4 : decode cX12_isSign 4 = .ok (.iconst 4, 1) := by decide +kernel
theorem dX12_isSign_5 : decode cX12_isSign 5 = .ok (.if_icmp .ne 15, 3) := by decide +kernel
theorem dX12_isSign_8 : decode cX12_isSign 8 = .ok (.aload_n 0, 1) := by decide +kernel
theorem dX12_isSign_9 : decode cX12_isSign 9 = .ok (.getfield 126, 3) := by decide +kernel
theorem dX12_isSign_12 : decode cX12_isSign 12 = .ok (.iload_n 1, 1) := by decide +kernel
theorem dX12_isSign_13 : decode cX12_isSign 13 = .ok (.if_icmp .ne 7, 3) := by decide +kernel
theorem dX12_isSign_16 : decode cX12_isSign 16 = .ok (.iconst 1, 1) := by decide +kernel
theorem dX12_isSign_17 : decode cX12_isSign 17 = .ok (.goto 4, 3) := by decide +kernel
theorem dX12_isSign_20 : decode cX12_isSign 20 = .ok (.iconst 0, 1) := by decide +kernel
theorem dX12_isSign_21 : decode cX12_isSign 21 = .ok (.ireturn, 1) := by decide +kernel
theorem dX12_inWords_0 : decode cX12_inWords 0 = .ok (.aload_n 0, 1) := by decide +kernel
theorem dX12_inWords_1 : decode cX12_inWords 1 = .ok (.getfield 129, 3) := by decide +kernel
theorem dX12_inWords_4 : decode cX12_inWords 4 = .ok (.iconst 2, 1) := by decide +kernel
theorem dX12_inWords_5 : decode cX12_inWords 5 = .ok (.if_icmp .eq 5, 3) := by decide +kernel
theorem dX12_inWords_8 : decode cX12_inWords 8 = .ok (.iconst (-1), 1) := by decide +kernel
theorem dX12_inWords_9 : decode cX12_inWords 9 = .ok (.ireturn, 1) := by decide +kernel
theorem dX12_inWords_10 : decode cX12_inWords 10 = .ok (.iconst 0, 1) := by decide +kernel
theorem dX12_inWords_11 : decode cX12_inWords 11 = .ok (.istore_n 2, 1) := by decide +kernel
theorem dX12_inWords_12 : decode cX12_inWords 12 = .ok (.iconst 1, 1) := by decide +kernel
theorem dX12_inWords_13 : decode cX12_inWords 13 = .ok (.istore_n 3, 1) := by decide +kernel
theorem dX12_inWords_14 : decode cX12_inWords 14 = .ok (.iload_n 3, 1) := by decide +kernel
theorem dX12_inWords_15 : decode cX12_inWords 15 = .ok (.aload_n 1, 1) := by decide +kernel
theorem dX12_inWords_16 : decode cX12_inWords 16 = .ok (.invokevirtual 144, 3) := by decide +kernel
theorem dX12_inWords_19 : decode cX12_inWords 19 = .ok (.if_icmp .ge 114, 3) := by decide +kernel
theorem dX12_inWords_22 : decode cX12_inWords 22 = .ok (.iload_n 3, 1) := by decide +kernel
theorem dX12_inWords_23 : decode cX12_inWords 23 = .ok (.istore 4, 2) := by decide +kernel
theorem dX12_inWords_25 : decode cX12_inWords 25 = .ok (.aload_n 1, 1) := by decide +kernel
theorem dX12_inWords_26 : decode cX12_inWords 26 = .ok (.iload 4, 2) := by decide +kernel
theorem dX12_inWords_28 : decode cX12_inWords 28 = .ok (.invokevirtual 150, 3) := by decide +kernel
theorem dX12_inWords_31 : decode cX12_inWords 31 = .ok (.bipush 32, 2) := by decide +kernel
theorem dX12_inWords_33 : decode cX12_inWords 33 = .ok (.if_icmp .eq 9, 3) := by decide +kernel
theorem dX12_inWords_36 : decode cX12_inWords 36 = .ok (.iinc 4 1, 3) := by decide +kernel
theorem dX12_inWords_39 : decode cX12_inWords 39 = .ok (.goto (-14), 3) := by decide +kernel
theorem dX12_inWords_42 : decode cX12_inWords 42 = .ok (.iload 4, 2) := by decide +kernel
theorem dX12_inWords_44 : decode cX12_inWords 44 = .ok (.iload_n 3, 1) := by decide +kernel
theorem dX12_inWords_45 : decode cX12_inWords 45 = .ok (.isub, 1) := by decide +kernel
theorem dX12_inWords_46 : decode cX12_inWords 46 = .ok (.aload_n 0, 1) := by decide +kernel
theorem dX12_inWords_47 : decode cX12_inWords 47 = .ok (.getfield 117, 3) := by decide +kernel
theorem dX12_inWords_50 : decode cX12_inWords 50 = .ok (.aload_n 0, 1) := by decide +kernel
theorem dX12_inWords_51 : decode cX12_inWords 51 = .ok (.getfield 123, 3) := by decide +kernel
theorem dX12_inWords_54 : decode cX12_inWords 54 = .ok (.isub, 1) := by decide +kernel
theorem dX12_inWords_55 : decode cX12_inWords 55 = .ok (.if_icmp .ne 7, 3) := by decide +kernel
theorem dX12_inWords_58 : decode cX12_inWords 58 = .ok (.iconst 1, 1) := by decide +kernel
theorem dX12_inWords_59 : decode cX12_inWords 59 = .ok (.goto 4, 3) := by decide +kernel
theorem dX12_inWords_62 : decode cX12_inWords 62 = .ok (.iconst 0, 1) := by decide +kernel
theorem dX12_inWords_63 : decode cX12_inWords 63 = .ok (.istore 5, 2) := by decide +kernel
theorem dX12_inWords_65 : decode cX12_inWords 65 = .ok (.iload_n 3, 1) := by decide +kernel
theorem dX12_inWords_66 : decode cX12_inWords 66 = .ok (.istore 6, 2) := by decide +kernel
theorem dX12_inWords_68 : decode cX12_inWords 68 = .ok (.iload 6, 2) := by decide +kernel
theorem dX12_inWords_70 : decode cX12_inWords 70 = .ok (.iload 4, 2) := by decide +kernel
theorem dX12_inWords_72 : decode cX12_inWords 72 = .ok (.if_icmp .ge 43, 3) := by decide +kernel
theorem dX12_inWords_75 : decode cX12_inWords 75 = .ok (.iload 5, 2) := by decide +kernel
theorem dX12_inWords_77 : decode cX12_inWords 77 = .ok (.ifCond .eq 38, 3) := by decide +kernel
theorem dX12_inWords_80 : decode cX12_inWords 80 = .ok (.aload_n 1, 1) := by decide +kernel
theorem dX12_inWords_81 : decode cX12_inWords 81 = .ok (.iload 6, 2) := by decide +kernel
theorem dX12_inWords_83 : decode cX12_inWords 83 = .ok (.invokevirtual 150, 3) := by decide +kernel
theorem dX12_inWords_86 : decode cX12_inWords 86 = .ok (.aload_n 0, 1) := by decide +kernel
theorem dX12_inWords_87 : decode cX12_inWords 87 = .ok (.aload_n 0, 1) := by decide +kernel
theorem dX12_inWords_88 : decode cX12_inWords 88 = .ok (.getfield 123, 3) := by decide +kernel
theorem dX12_inWords_91 : decode cX12_inWords 91 = .ok (.iload 6, 2) := by decide +kernel
theorem dX12_inWords_93 : decode cX12_inWords 93 = .ok (.iadd, 1) := by decide +kernel
theorem dX12_inWords_94 : decode cX12_inWords 94 = .ok (.iload_n 3, 1) := by decide +kernel
theorem dX12_inWords_95 : decode cX12_inWords 95 = .ok (.isub, 1) := by decide +kernel
theorem dX12_inWords_96 : decode cX12_inWords 96 = .ok (.invokevirtual 120, 3) := by decide +kernel
theorem dX12_inWords_99 : decode cX12_inWords 99 = .ok (.if_icmp .ne 7, 3) := by decide +kernel
theorem dX12_inWords_102 : decode cX12_inWords 102 = .ok (.iconst 1, 1) := by decide +kernel
theorem dX12_inWords_103 : decode cX12_inWords 103 = .ok (.goto 4, 3) := by decide +kernel
theorem dX12_inWords_106 : decode cX12_inWords 106 = .ok (.iconst 0, 1) := by decide +kernel
theorem dX12_inWords_107 : decode cX12_inWords 107 = .ok (.istore 5, 2) := by decide +kernel
theorem dX12_inWords_109 : decode cX12_inWords 109 = .ok (.iinc 6 1, 3) := by decide +kernel
theorem dX12_inWords_112 : decode cX12_inWords 112 = .ok (.goto (-44), 3) := by decide +kernel
theorem dX12_inWords_115 : decode cX12_inWords 115 = .ok (.iload 5, 2) := by decide +kernel
theorem dX12_inWords_117 : decode cX12_inWords 117 = .ok (.ifCond .eq 5, 3) := by decide +kernel
theorem dX12_inWords_120 : decode cX12_inWords 120 = .ok (.iload_n 2, 1) := by decide +kernel
theorem dX12_inWords_121 : decode cX12_inWords 121 = .ok (.ireturn, 1) := by decide +kernel
theorem dX12_inWords_122 : decode cX12_inWords 122 = .ok (.iinc 2 1, 3) := by decide +kernel
theorem dX12_inWords_125 : decode cX12_inWords 125 = .ok (.iload 4, 2) := by decide +kernel
theorem dX12_inWords_127 : decode cX12_inWords 127 = .ok (.iconst 1, 1) := by decide +kernel
theorem dX12_inWords_128 : decode cX12_inWords 128 = .ok (.iadd, 1) := by decide +kernel
theorem dX12_inWords_129 : decode cX12_inWords 129 = .ok (.istore_n 3, 1) := by decide +kernel
theorem dX12_inWords_130 : decode cX12_inWords 130 = .ok (.goto (-116), 3) := by decide +kernel
theorem dX12_inWords_133 : decode cX12_inWords 133 = .ok (.iconst (-1), 1) := by decide +kernel
theorem dX12_inWords_134 : decode cX12_inWords 134 = .ok (.ireturn, 1) := by decide +kernel
theorem dX12_fails_0 : decode cX12_fails 0 = .ok (.aload_n 0, 1) := by decide +kernel
theorem dX12_fails_1 : decode cX12_fails 1 = .ok (.getfield 154, 3) := by decide +kernel
theorem dX12_fails_4 : decode cX12_fails 4 = .ok (.ifCond .ne 28, 3) := by decide +kernel
theorem dX12_fails_7 : decode cX12_fails 7 = .ok (.aload_n 0, 1) := by decide +kernel
theorem dX12_fails_8 : decode cX12_fails 8 = .ok (.aload_n 0, 1) := by decide +kernel
theorem dX12_fails_9 : decode cX12_fails 9 = .ok (.getfield 129, 3) := by decide +kernel
theorem dX12_fails_12 : decode cX12_fails 12 = .ok (.iconst 1, 1) := by decide +kernel
theorem dX12_fails_13 : decode cX12_fails 13 = .ok (.if_icmp .ne 7, 3) := by decide +kernel
theorem dX12_fails_16 : decode cX12_fails 16 = .ok (.iconst 1, 1) := by decide +kernel
theorem dX12_fails_17 : decode cX12_fails 17 = .ok (.goto 4, 3) := by decide +kernel
theorem dX12_fails_20 : decode cX12_fails 20 = .ok (.iload_n 1, 1) := by decide +kernel
theorem dX12_fails_21 : decode cX12_fails 21 = .ok (.putfield 154, 3) := by decide +kernel
theorem dX12_fails_24 : decode cX12_fails 24 = .ok (.aload_n 0, 1) := by decide +kernel
theorem dX12_fails_25 : decode cX12_fails 25 = .ok (.aload_n 0, 1) := by decide +kernel
theorem dX12_fails_26 : decode cX12_fails 26 = .ok (.getfield 123, 3) := by decide +kernel
theorem dX12_fails_29 : decode cX12_fails 29 = .ok (.putfield 41, 3) := by decide +kernel
theorem dX12_fails_32 : decode cX12_fails 32 = .ok (.iconst 0, 1) := by decide +kernel
theorem dX12_fails_33 : decode cX12_fails 33 = .ok (.ireturn, 1) := by decide +kernel
theorem dX12_begins_0 : decode cX12_begins 0 = .ok (.iload_n 1, 1) := by decide +kernel
theorem dX12_begins_1 : decode cX12_begins 1 = .ok (.ifCond .lt 16, 3) := by decide +kernel
theorem dX12_begins_4 : decode cX12_begins 4 = .ok (.iload_n 1, 1) := by decide +kernel
theorem dX12_begins_5 : decode cX12_begins 5 = .ok (.aload_n 0, 1) := by decide +kernel
theorem dX12_begins_6 : decode cX12_begins 6 = .ok (.getfield 107, 3) := by decide +kernel
theorem dX12_begins_9 : decode cX12_begins 9 = .ok (.if_icmp .gt 8, 3) := by decide +kernel
theorem dX12_begins_12 : decode cX12_begins 12 = .ok (.iload_n 1, 1) := by decide +kernel
theorem dX12_begins_13 : decode cX12_begins 13 = .ok (.iload_n 2, 1) := by decide +kernel
theorem dX12_begins_14 : decode cX12_begins 14 = .ok (.if_icmp .le 5, 3) := by decide +kernel
theorem dX12_begins_17 : decode cX12_begins 17 = .ok (.iconst 0, 1) := by decide +kernel
theorem dX12_begins_18 : decode cX12_begins 18 = .ok (.ireturn, 1) := by decide +kernel
theorem dX12_begins_19 : decode cX12_begins 19 = .ok (.aload_n 0, 1) := by decide +kernel
theorem dX12_begins_20 : decode cX12_begins 20 = .ok (.iload_n 1, 1) := by decide +kernel
theorem dX12_begins_21 : decode cX12_begins 21 = .ok (.putfield 114, 3) := by decide +kernel
theorem dX12_begins_24 : decode cX12_begins 24 = .ok (.iconst 0, 1) := by decide +kernel
theorem dX12_begins_25 : decode cX12_begins 25 = .ok (.istore_n 3, 1) := by decide +kernel
theorem dX12_begins_26 : decode cX12_begins 26 = .ok (.iload_n 3, 1) := by decide +kernel
theorem dX12_begins_27 : decode cX12_begins 27 = .ok (.iload_n 1, 1) := by decide +kernel
theorem dX12_begins_28 : decode cX12_begins 28 = .ok (.if_icmp .ge 21, 3) := by decide +kernel
theorem dX12_begins_31 : decode cX12_begins 31 = .ok (.aload_n 0, 1) := by decide +kernel
theorem dX12_begins_32 : decode cX12_begins 32 = .ok (.getfield 34, 3) := by decide +kernel
theorem dX12_begins_35 : decode cX12_begins 35 = .ok (.iload_n 3, 1) := by decide +kernel
theorem dX12_begins_36 : decode cX12_begins 36 = .ok (.aload_n 0, 1) := by decide +kernel
theorem dX12_begins_37 : decode cX12_begins 37 = .ok (.getfield 30, 3) := by decide +kernel
theorem dX12_begins_40 : decode cX12_begins 40 = .ok (.iload_n 3, 1) := by decide +kernel
theorem dX12_begins_41 : decode cX12_begins 41 = .ok (.baload, 1) := by decide +kernel
theorem dX12_begins_42 : decode cX12_begins 42 = .ok (.bastore, 1) := by decide +kernel
theorem dX12_begins_43 : decode cX12_begins 43 = .ok (.iinc 3 1, 3) := by decide +kernel
theorem dX12_begins_46 : decode cX12_begins 46 = .ok (.goto (-20), 3) := by decide +kernel
theorem dX12_begins_49 : decode cX12_begins 49 = .ok (.aload_n 0, 1) := by decide +kernel
theorem dX12_begins_50 : decode cX12_begins 50 = .ok (.iconst 0, 1) := by decide +kernel
theorem dX12_begins_51 : decode cX12_begins 51 = .ok (.putfield 107, 3) := by decide +kernel
theorem dX12_begins_54 : decode cX12_begins 54 = .ok (.aload_n 0, 1) := by decide +kernel
theorem dX12_begins_55 : decode cX12_begins 55 = .ok (.iconst 0, 1) := by decide +kernel
theorem dX12_begins_56 : decode cX12_begins 56 = .ok (.putfield 154, 3) := by decide +kernel
theorem dX12_begins_59 : decode cX12_begins 59 = .ok (.aload_n 0, 1) := by decide +kernel
theorem dX12_begins_60 : decode cX12_begins 60 = .ok (.iconst (-1), 1) := by decide +kernel
theorem dX12_begins_61 : decode cX12_begins 61 = .ok (.putfield 41, 3) := by decide +kernel
theorem dX12_begins_64 : decode cX12_begins 64 = .ok (.aload_n 0, 1) := by decide +kernel
theorem dX12_begins_65 : decode cX12_begins 65 = .ok (.iconst 0, 1) := by decide +kernel
theorem dX12_begins_66 : decode cX12_begins 66 = .ok (.putfield 117, 3) := by decide +kernel
theorem dX12_begins_69 : decode cX12_begins 69 = .ok (.aload_n 0, 1) := by decide +kernel
theorem dX12_begins_70 : decode cX12_begins 70 = .ok (.iconst 0, 1) := by decide +kernel
theorem dX12_begins_71 : decode cX12_begins 71 = .ok (.putfield 157, 3) := by decide +kernel
theorem dX12_begins_74 : decode cX12_begins 74 = .ok (.aload_n 0, 1) := by decide +kernel
theorem dX12_begins_75 : decode cX12_begins 75 = .ok (.invokevirtual 160, 3) := by decide +kernel
theorem dX12_begins_78 : decode cX12_begins 78 = .ok (.iconst 1, 1) := by decide +kernel
theorem dX12_begins_79 : decode cX12_begins 79 = .ok (.ireturn, 1) := by decide +kernel
theorem dX12_wantSign_0 : decode cX12_wantSign 0 = .ok (.aload_n 0, 1) := by decide +kernel
theorem dX12_wantSign_1 : decode cX12_wantSign 1 = .ok (.iload_n 1, 1) := by decide +kernel
theorem dX12_wantSign_2 : decode cX12_wantSign 2 = .ok (.invokevirtual 163, 3) := by decide +kernel
theorem dX12_wantSign_5 : decode cX12_wantSign 5 = .ok (.ifCond .ne 9, 3) := by decide +kernel
theorem dX12_wantSign_8 : decode cX12_wantSign 8 = .ok (.aload_n 0, 1) := by decide +kernel
theorem dX12_wantSign_9 : decode cX12_wantSign 9 = .ok (.iconst 2, 1) := by decide +kernel
theorem dX12_wantSign_10 : decode cX12_wantSign 10 = .ok (.invokevirtual 166, 3) := by decide +kernel
theorem dX12_wantSign_13 : decode cX12_wantSign 13 = .ok (.ireturn, 1) := by decide +kernel
theorem dX12_wantSign_14 : decode cX12_wantSign 14 = .ok (.aload_n 0, 1) := by decide +kernel
theorem dX12_wantSign_15 : decode cX12_wantSign 15 = .ok (.invokevirtual 160, 3) := by decide +kernel
theorem dX12_wantSign_18 : decode cX12_wantSign 18 = .ok (.iconst 1, 1) := by decide +kernel
theorem dX12_wantSign_19 : decode cX12_wantSign 19 = .ok (.ireturn, 1) := by decide +kernel
theorem dX12_wantWord_0 : decode cX12_wantWord 0 = .ok (.aload_n 0, 1) := by decide +kernel
theorem dX12_wantWord_1 : decode cX12_wantWord 1 = .ok (.aload_n 1, 1) := by decide +kernel
theorem dX12_wantWord_2 : decode cX12_wantWord 2 = .ok (.invokevirtual 169, 3) := by decide +kernel
theorem dX12_wantWord_5 : decode cX12_wantWord 5 = .ok (.iload_n 2, 1) := by decide +kernel
theorem dX12_wantWord_6 : decode cX12_wantWord 6 = .ok (.if_icmp .eq 9, 3) := by decide +kernel
theorem dX12_wantWord_9 : decode cX12_wantWord 9 = .ok (.aload_n 0, 1) := by decide +kernel
theorem dX12_wantWord_10 : decode cX12_wantWord 10 = .ok (.iconst 2, 1) := by decide +kernel
theorem dX12_wantWord_11 : decode cX12_wantWord 11 = .ok (.invokevirtual 166, 3) := by decide +kernel
theorem dX12_wantWord_14 : decode cX12_wantWord 14 = .ok (.ireturn, 1) := by decide +kernel
theorem dX12_wantWord_15 : decode cX12_wantWord 15 = .ok (.aload_n 0, 1) := by decide +kernel
theorem dX12_wantWord_16 : decode cX12_wantWord 16 = .ok (.invokevirtual 160, 3) := by decide +kernel
theorem dX12_wantWord_19 : decode cX12_wantWord 19 = .ok (.iconst 1, 1) := by decide +kernel
theorem dX12_wantWord_20 : decode cX12_wantWord 20 = .ok (.ireturn, 1) := by decide +kernel
theorem dX12_number_0 : decode cX12_number 0 = .ok (.aload_n 0, 1) := by decide +kernel
theorem dX12_number_1 : decode cX12_number 1 = .ok (.getfield 129, 3) := by decide +kernel
theorem dX12_number_4 : decode cX12_number 4 = .ok (.iconst 3, 1) := by decide +kernel
theorem dX12_number_5 : decode cX12_number 5 = .ok (.if_icmp .eq 9, 3) := by decide +kernel
theorem dX12_number_8 : decode cX12_number 8 = .ok (.aload_n 0, 1) := by decide +kernel
theorem dX12_number_9 : decode cX12_number 9 = .ok (.iconst 2, 1) := by decide +kernel
theorem dX12_number_10 : decode cX12_number 10 = .ok (.invokevirtual 166, 3) := by decide +kernel
theorem dX12_number_13 : decode cX12_number 13 = .ok (.ireturn, 1) := by decide +kernel
theorem dX12_number_14 : decode cX12_number 14 = .ok (.aload_n 0, 1) := by decide +kernel
theorem dX12_number_15 : decode cX12_number 15 = .ok (.getfield 126, 3) := by decide +kernel
theorem dX12_number_18 : decode cX12_number 18 = .ok (.iload_n 2, 1) := by decide +kernel
theorem dX12_number_19 : decode cX12_number 19 = .ok (.if_icmp .lt 11, 3) := by decide +kernel
theorem dX12_number_22 : decode cX12_number 22 = .ok (.aload_n 0, 1) := by decide +kernel
theorem dX12_number_23 : decode cX12_number 23 = .ok (.getfield 126, 3) := by decide +kernel
theorem dX12_number_26 : decode cX12_number 26 = .ok (.iload_n 3, 1) := by decide +kernel
theorem dX12_number_27 : decode cX12_number 27 = .ok (.if_icmp .le 9, 3) := by decide +kernel
theorem dX12_number_30 : decode cX12_number 30 = .ok (.aload_n 0, 1) := by decide +kernel
theorem dX12_number_31 : decode cX12_number 31 = .ok (.iconst 4, 1) := by decide +kernel
theorem dX12_number_32 : decode cX12_number 32 = .ok (.invokevirtual 166, 3) := by decide +kernel
theorem dX12_number_35 : decode cX12_number 35 = .ok (.ireturn, 1) := by decide +kernel
theorem dX12_number_36 : decode cX12_number 36 = .ok (.aload_n 0, 1) := by decide +kernel
theorem dX12_number_37 : decode cX12_number 37 = .ok (.getfield 7, 3) := by decide +kernel
theorem dX12_number_40 : decode cX12_number 40 = .ok (.iload_n 1, 1) := by decide +kernel
theorem dX12_number_41 : decode cX12_number 41 = .ok (.aload_n 0, 1) := by decide +kernel
theorem dX12_number_42 : decode cX12_number 42 = .ok (.getfield 126, 3) := by decide +kernel
theorem dX12_number_45 : decode cX12_number 45 = .ok (.iastore, 1) := by decide +kernel
theorem dX12_number_46 : decode cX12_number 46 = .ok (.aload_n 0, 1) := by decide +kernel
theorem dX12_number_47 : decode cX12_number 47 = .ok (.invokevirtual 160, 3) := by decide +kernel
theorem dX12_number_50 : decode cX12_number 50 = .ok (.iconst 1, 1) := by decide +kernel
theorem dX12_number_51 : decode cX12_number 51 = .ok (.ireturn, 1) := by decide +kernel
theorem dX12_isName_0 : decode cX12_isName 0 = .ok (.aload_n 0, 1) := by decide +kernel
theorem dX12_isName_1 : decode cX12_isName 1 = .ok (.getfield 129, 3) := by decide +kernel
theorem dX12_isName_4 : decode cX12_isName 4 = .ok (.iconst 2, 1) := by decide +kernel
theorem dX12_isName_5 : decode cX12_isName 5 = .ok (.if_icmp .ne 30, 3) := by decide +kernel
theorem dX12_isName_8 : decode cX12_isName 8 = .ok (.aload_n 0, 1) := by decide +kernel
theorem dX12_isName_9 : decode cX12_isName 9 = .ok (.getfield 117, 3) := by decide +kernel
theorem dX12_isName_12 : decode cX12_isName 12 = .ok (.aload_n 0, 1) := by decide +kernel
theorem dX12_isName_13 : decode cX12_isName 13 = .ok (.getfield 123, 3) := by decide +kernel
theorem dX12_isName_16 : decode cX12_isName 16 = .ok (.isub, 1) := by decide +kernel
theorem dX12_isName_17 : decode cX12_isName 17 = .ok (.bipush 8, 2) := by decide +kernel
theorem dX12_isName_19 : decode cX12_isName 19 = .ok (.if_icmp .gt 16, 3) := by decide +kernel
theorem dX12_isName_22 : decode cX12_isName 22 = .ok (.aload_n 0, 1) := by decide +kernel
theorem dX12_isName_23 : decode cX12_isName 23 = .ok (.aload_n 1, 1) := by decide +kernel
theorem dX12_isName_24 : decode cX12_isName 24 = .ok (.invokevirtual 169, 3) := by decide +kernel
theorem dX12_isName_27 : decode cX12_isName 27 = .ok (.iconst (-1), 1) := by decide +kernel
theorem dX12_isName_28 : decode cX12_isName 28 = .ok (.if_icmp .ne 7, 3) := by decide +kernel
theorem dX12_isName_31 : decode cX12_isName 31 = .ok (.iconst 1, 1) := by decide +kernel
theorem dX12_isName_32 : decode cX12_isName 32 = .ok (.goto 4, 3) := by decide +kernel
theorem dX12_isName_35 : decode cX12_isName 35 = .ok (.iconst 0, 1) := by decide +kernel
theorem dX12_isName_36 : decode cX12_isName 36 = .ok (.ireturn, 1) := by decide +kernel
theorem dX12_nameHere_0 : decode cX12_nameHere 0 = .ok (.lconst 0, 1) := by decide +kernel
theorem dX12_nameHere_1 : decode cX12_nameHere 1 = .ok (.lstore_n 1, 1) := by decide +kernel
theorem dX12_nameHere_2 : decode cX12_nameHere 2 = .ok (.aload_n 0, 1) := by decide +kernel
theorem dX12_nameHere_3 : decode cX12_nameHere 3 = .ok (.getfield 123, 3) := by decide +kernel
theorem dX12_nameHere_6 : decode cX12_nameHere 6 = .ok (.istore_n 3, 1) := by decide +kernel
theorem dX12_nameHere_7 : decode cX12_nameHere 7 = .ok (.iload_n 3, 1) := by decide +kernel
theorem dX12_nameHere_8 : decode cX12_nameHere 8 = .ok (.aload_n 0, 1) := by decide +kernel
theorem dX12_nameHere_9 : decode cX12_nameHere 9 = .ok (.getfield 117, 3) := by decide +kernel
theorem dX12_nameHere_12 : decode cX12_nameHere 12 = .ok (.if_icmp .ge 21, 3) := by decide +kernel
theorem dX12_nameHere_15 : decode cX12_nameHere 15 = .ok (.lload_n 1, 1) := by decide +kernel
theorem dX12_nameHere_16 : decode cX12_nameHere 16 = .ok (.bipush 8, 2) := by decide +kernel
theorem dX12_nameHere_18 : decode cX12_nameHere 18 = .ok (.lshl, 1) := by decide +kernel
theorem dX12_nameHere_19 : decode cX12_nameHere 19 = .ok (.aload_n 0, 1) := by decide +kernel
theorem dX12_nameHere_20 : decode cX12_nameHere 20 = .ok (.iload_n 3, 1) := by decide +kernel
theorem dX12_nameHere_21 : decode cX12_nameHere 21 = .ok (.invokevirtual 120, 3) := by decide +kernel
theorem dX12_nameHere_24 : decode cX12_nameHere 24 = .ok (.i2l, 1) := by decide +kernel
theorem dX12_nameHere_25 : decode cX12_nameHere 25 = .ok (.lor, 1) := by decide +kernel
theorem dX12_nameHere_26 : decode cX12_nameHere 26 = .ok (.lstore_n 1, 1) := by decide +kernel
theorem dX12_nameHere_27 : decode cX12_nameHere 27 = .ok (.iinc 3 1, 3) := by decide +kernel
theorem dX12_nameHere_30 : decode cX12_nameHere 30 = .ok (.goto (-23), 3) := by decide +kernel
theorem dX12_nameHere_33 : decode cX12_nameHere 33 = .ok (.lload_n 1, 1) := by decide +kernel
theorem dX12_nameHere_34 : decode cX12_nameHere 34 = .ok (.lreturn, 1) := by decide +kernel
theorem dX12_findHere_0 : decode cX12_findHere 0 = .ok (.iconst 0, 1) := by decide +kernel
theorem dX12_findHere_1 : decode cX12_findHere 1 = .ok (.istore_n 3, 1) := by decide +kernel
theorem dX12_findHere_2 : decode cX12_findHere 2 = .ok (.iload_n 3, 1) := by decide +kernel
theorem dX12_findHere_3 : decode cX12_findHere 3 = .ok (.iload_n 2, 1) := by decide +kernel
theorem dX12_findHere_4 : decode cX12_findHere 4 = .ok (.if_icmp .ge 27, 3) := by decide +kernel
theorem dX12_findHere_7 : decode cX12_findHere 7 = .ok (.aload_n 0, 1) := by decide +kernel
theorem dX12_findHere_8 : decode cX12_findHere 8 = .ok (.getfield 13, 3) := by decide +kernel
theorem dX12_findHere_11 : decode cX12_findHere 11 = .ok (.iload_n 1, 1) := by decide +kernel
theorem dX12_findHere_12 : decode cX12_findHere 12 = .ok (.iload_n 3, 1) := by decide +kernel
theorem dX12_findHere_13 : decode cX12_findHere 13 = .ok (.iadd, 1) := by decide +kernel
theorem dX12_findHere_14 : decode cX12_findHere 14 = .ok (.laload, 1) := by decide +kernel
theorem dX12_findHere_15 : decode cX12_findHere 15 = .ok (.aload_n 0, 1) := by decide +kernel
theorem dX12_findHere_16 : decode cX12_findHere 16 = .ok (.invokevirtual 173, 3) := by decide +kernel
theorem dX12_findHere_19 : decode cX12_findHere 19 = .ok (.lcmp, 1) := by decide +kernel
theorem dX12_findHere_20 : decode cX12_findHere 20 = .ok (.ifCond .ne 5, 3) := by decide +kernel
theorem dX12_findHere_23 : decode cX12_findHere 23 = .ok (.iload_n 3, 1) := by decide +kernel
theorem dX12_findHere_24 : decode cX12_findHere 24 = .ok (.ireturn, 1) := by decide +kernel
theorem dX12_findHere_25 : decode cX12_findHere 25 = .ok (.iinc 3 1, 3) := by decide +kernel
theorem dX12_findHere_28 : decode cX12_findHere 28 = .ok (.goto (-26), 3) := by decide +kernel
theorem dX12_findHere_31 : decode cX12_findHere 31 = .ok (.iconst (-1), 1) := by decide +kernel
theorem dX12_findHere_32 : decode cX12_findHere 32 = .ok (.ireturn, 1) := by decide +kernel
theorem dX12_fault_0 : decode cX12_fault 0 = .ok (.iload_n 1, 1) := by decide +kernel
theorem dX12_fault_1 : decode cX12_fault 1 = .ok (.ifCond .ne 10, 3) := by decide +kernel
theorem dX12_fault_4 : decode cX12_fault 4 = .ok (.aload_n 0, 1) := by decide +kernel
theorem dX12_fault_5 : decode cX12_fault 5 = .ok (.getfield 37, 3) := by decide +kernel
theorem dX12_fault_8 : decode cX12_fault 8 = .ok (.goto 16, 3) := by decide +kernel
theorem dX12_fault_11 : decode cX12_fault 11 = .ok (.iload_n 1, 1) := by decide +kernel
theorem dX12_fault_12 : decode cX12_fault 12 = .ok (.iconst 1, 1) := by decide +kernel
theorem dX12_fault_13 : decode cX12_fault 13 = .ok (.if_icmp .ne 10, 3) := by decide +kernel
theorem dX12_fault_16 : decode cX12_fault 16 = .ok (.aload_n 0, 1) := by decide +kernel
theorem dX12_fault_17 : decode cX12_fault 17 = .ok (.getfield 41, 3) := by decide +kernel
theorem dX12_fault_20 : decode cX12_fault 20 = .ok (.goto 4, 3) := by decide +kernel
theorem dX12_fault_23 : decode cX12_fault 23 = .ok (.iconst (-1), 1) := by decide +kernel
theorem dX12_fault_24 : decode cX12_fault 24 = .ok (.ireturn, 1) := by decide +kernel
theorem dX12_taken_0 : decode cX12_taken 0 = .ok (.aload_n 0, 1) := by decide +kernel
theorem dX12_taken_1 : decode cX12_taken 1 = .ok (.aload_n 0, 1) := by decide +kernel
theorem dX12_taken_2 : decode cX12_taken 2 = .ok (.getfield 154, 3) := by decide +kernel
theorem dX12_taken_5 : decode cX12_taken 5 = .ok (.putfield 37, 3) := by decide +kernel
theorem dX12_taken_8 : decode cX12_taken 8 = .ok (.aload_n 0, 1) := by decide +kernel
theorem dX12_taken_9 : decode cX12_taken 9 = .ok (.getfield 154, 3) := by decide +kernel
theorem dX12_taken_12 : decode cX12_taken 12 = .ok (.ifCond .le 12, 3) := by decide +kernel
theorem dX12_taken_15 : decode cX12_taken 15 = .ok (.aload_n 0, 1) := by decide +kernel
theorem dX12_taken_16 : decode cX12_taken 16 = .ok (.bipush 9, 2) := by decide +kernel
theorem dX12_taken_18 : decode cX12_taken 18 = .ok (.invokevirtual 83, 3) := by decide +kernel
theorem dX12_taken_21 : decode cX12_taken 21 = .ok (.goto 8, 3) := by decide +kernel
theorem dX12_taken_24 : decode cX12_taken 24 = .ok (.aload_n 0, 1) := by decide +kernel
theorem dX12_taken_25 : decode cX12_taken 25 = .ok (.iload_n 1, 1) := by decide +kernel
theorem dX12_taken_26 : decode cX12_taken 26 = .ok (.invokevirtual 87, 3) := by decide +kernel
theorem dX12_taken_29 : decode cX12_taken 29 = .ok (.ireturn, 1) := by decide +kernel
theorem dX12_isNew_0 : decode cX12_isNew 0 = .ok (.aload_n 0, 1) := by decide +kernel
theorem dX12_isNew_1 : decode cX12_isNew 1 = .ok (.bipush 88, 2) := by decide +kernel
theorem dX12_isNew_3 : decode cX12_isNew 3 = .ok (.aload_n 0, 1) := by decide +kernel
theorem dX12_isNew_4 : decode cX12_isNew 4 = .ok (.getfield 7, 3) := by decide +kernel
theorem dX12_isNew_7 : decode cX12_isNew 7 = .ok (.sipush 1960, 3) := by decide +kernel
theorem dX12_isNew_10 : decode cX12_isNew 10 = .ok (.iaload, 1) := by decide +kernel
theorem dX12_isNew_11 : decode cX12_isNew 11 = .ok (.invokevirtual 177, 3) := by decide +kernel
theorem dX12_isNew_14 : decode cX12_isNew 14 = .ok (.iconst (-1), 1) := by decide +kernel
theorem dX12_isNew_15 : decode cX12_isNew 15 = .ok (.if_icmp .ne 43, 3) := by decide +kernel
theorem dX12_isNew_18 : decode cX12_isNew 18 = .ok (.aload_n 0, 1) := by decide +kernel
theorem dX12_isNew_19 : decode cX12_isNew 19 = .ok (.bipush 92, 2) := by decide +kernel
theorem dX12_isNew_21 : decode cX12_isNew 21 = .ok (.aload_n 0, 1) := by decide +kernel
theorem dX12_isNew_22 : decode cX12_isNew 22 = .ok (.getfield 7, 3) := by decide +kernel
theorem dX12_isNew_25 : decode cX12_isNew 25 = .ok (.sipush 1961, 3) := by decide +kernel
theorem dX12_isNew_28 : decode cX12_isNew 28 = .ok (.iaload, 1) := by decide +kernel
theorem dX12_isNew_29 : decode cX12_isNew 29 = .ok (.invokevirtual 177, 3) := by decide +kernel
theorem dX12_isNew_32 : decode cX12_isNew 32 = .ok (.iconst (-1), 1) := by decide +kernel
theorem dX12_isNew_33 : decode cX12_isNew 33 = .ok (.if_icmp .ne 25, 3) := by decide +kernel
theorem dX12_isNew_36 : decode cX12_isNew 36 = .ok (.aload_n 0, 1) := by decide +kernel
theorem dX12_isNew_37 : decode cX12_isNew 37 = .ok (.bipush 100, 2) := by decide +kernel
theorem dX12_isNew_39 : decode cX12_isNew 39 = .ok (.aload_n 0, 1) := by decide +kernel
theorem dX12_isNew_40 : decode cX12_isNew 40 = .ok (.getfield 7, 3) := by decide +kernel
theorem dX12_isNew_43 : decode cX12_isNew 43 = .ok (.sipush 1962, 3) := by decide +kernel
theorem dX12_isNew_46 : decode cX12_isNew 46 = .ok (.iaload, 1) := by decide +kernel
theorem dX12_isNew_47 : decode cX12_isNew 47 = .ok (.invokevirtual 177, 3) := by decide +kernel
theorem dX12_isNew_50 : decode cX12_isNew 50 = .ok (.iconst (-1), 1) := by decide +kernel
theorem dX12_isNew_51 : decode cX12_isNew 51 = .ok (.if_icmp .ne 7, 3) := by decide +kernel
theorem dX12_isNew_54 : decode cX12_isNew 54 = .ok (.iconst 1, 1) := by decide +kernel
theorem dX12_isNew_55 : decode cX12_isNew 55 = .ok (.goto 4, 3) := by decide +kernel
theorem dX12_isNew_58 : decode cX12_isNew 58 = .ok (.iconst 0, 1) := by decide +kernel
theorem dX12_isNew_59 : decode cX12_isNew 59 = .ok (.ireturn, 1) := by decide +kernel
theorem dX12_newOne_0 : decode cX12_newOne 0 = .ok (.aload_n 0, 1) := by decide +kernel
theorem dX12_newOne_1 : decode cX12_newOne 1 = .ok (.getfield 7, 3) := by decide +kernel
theorem dX12_newOne_4 : decode cX12_newOne 4 = .ok (.sipush 1960, 3) := by decide +kernel
theorem dX12_newOne_7 : decode cX12_newOne 7 = .ok (.iload_n 1, 1) := by decide +kernel
theorem dX12_newOne_8 : decode cX12_newOne 8 = .ok (.iadd, 1) := by decide +kernel
theorem dX12_newOne_9 : decode cX12_newOne 9 = .ok (.iaload, 1) := by decide +kernel
theorem dX12_newOne_10 : decode cX12_newOne 10 = .ok (.iload_n 2, 1) := by decide +kernel
theorem dX12_newOne_11 : decode cX12_newOne 11 = .ok (.if_icmp .ne 10, 3) := by decide +kernel
theorem dX12_newOne_14 : decode cX12_newOne 14 = .ok (.aload_n 0, 1) := by decide +kernel
theorem dX12_newOne_15 : decode cX12_newOne 15 = .ok (.bipush 6, 2) := by decide +kernel
theorem dX12_newOne_17 : decode cX12_newOne 17 = .ok (.invokevirtual 166, 3) := by decide +kernel
theorem dX12_newOne_20 : decode cX12_newOne 20 = .ok (.ireturn, 1) := by decide +kernel
theorem dX12_newOne_21 : decode cX12_newOne 21 = .ok (.aload_n 0, 1) := by decide +kernel
theorem dX12_newOne_22 : decode cX12_newOne 22 = .ok (.invokevirtual 160, 3) := by decide +kernel
theorem dX12_newOne_25 : decode cX12_newOne 25 = .ok (.aload_n 0, 1) := by decide +kernel
theorem dX12_newOne_26 : decode cX12_newOne 26 = .ok (.ldc 180, 2) := by decide +kernel
theorem dX12_newOne_28 : decode cX12_newOne 28 = .ok (.invokevirtual 182, 3) := by decide +kernel
theorem dX12_newOne_31 : decode cX12_newOne 31 = .ok (.ifCond .ne 9, 3) := by decide +kernel
theorem dX12_newOne_34 : decode cX12_newOne 34 = .ok (.aload_n 0, 1) := by decide +kernel
theorem dX12_newOne_35 : decode cX12_newOne 35 = .ok (.iconst 2, 1) := by decide +kernel
theorem dX12_newOne_36 : decode cX12_newOne 36 = .ok (.invokevirtual 166, 3) := by decide +kernel
theorem dX12_newOne_39 : decode cX12_newOne 39 = .ok (.ireturn, 1) := by decide +kernel
theorem dX12_newOne_40 : decode cX12_newOne 40 = .ok (.aload_n 0, 1) := by decide +kernel
theorem dX12_newOne_41 : decode cX12_newOne 41 = .ok (.invokevirtual 186, 3) := by decide +kernel
theorem dX12_newOne_44 : decode cX12_newOne 44 = .ok (.ifCond .ne 9, 3) := by decide +kernel
theorem dX12_newOne_47 : decode cX12_newOne 47 = .ok (.aload_n 0, 1) := by decide +kernel
theorem dX12_newOne_48 : decode cX12_newOne 48 = .ok (.iconst 3, 1) := by decide +kernel
theorem dX12_newOne_49 : decode cX12_newOne 49 = .ok (.invokevirtual 166, 3) := by decide +kernel
theorem dX12_newOne_52 : decode cX12_newOne 52 = .ok (.ireturn, 1) := by decide +kernel
theorem dX12_newOne_53 : decode cX12_newOne 53 = .ok (.aload_n 0, 1) := by decide +kernel
theorem dX12_newOne_54 : decode cX12_newOne 54 = .ok (.getfield 13, 3) := by decide +kernel
theorem dX12_newOne_57 : decode cX12_newOne 57 = .ok (.bipush 88, 2) := by decide +kernel
theorem dX12_newOne_59 : decode cX12_newOne 59 = .ok (.iload_n 3, 1) := by decide +kernel
theorem dX12_newOne_60 : decode cX12_newOne 60 = .ok (.iadd, 1) := by decide +kernel
theorem dX12_newOne_61 : decode cX12_newOne 61 = .ok (.aload_n 0, 1) := by decide +kernel
theorem dX12_newOne_62 : decode cX12_newOne 62 = .ok (.getfield 7, 3) := by decide +kernel
theorem dX12_newOne_65 : decode cX12_newOne 65 = .ok (.sipush 1960, 3) := by decide +kernel
theorem dX12_newOne_68 : decode cX12_newOne 68 = .ok (.iload_n 1, 1) := by decide +kernel
theorem dX12_newOne_69 : decode cX12_newOne 69 = .ok (.iadd, 1) := by decide +kernel
theorem dX12_newOne_70 : decode cX12_newOne 70 = .ok (.iaload, 1) := by decide +kernel
theorem dX12_newOne_71 : decode cX12_newOne 71 = .ok (.iadd, 1) := by decide +kernel
theorem dX12_newOne_72 : decode cX12_newOne 72 = .ok (.aload_n 0, 1) := by decide +kernel
theorem dX12_newOne_73 : decode cX12_newOne 73 = .ok (.invokevirtual 173, 3) := by decide +kernel
theorem dX12_newOne_76 : decode cX12_newOne 76 = .ok (.lastore, 1) := by decide +kernel
theorem dX12_newOne_77 : decode cX12_newOne 77 = .ok (.aload_n 0, 1) := by decide +kernel
theorem dX12_newOne_78 : decode cX12_newOne 78 = .ok (.invokevirtual 160, 3) := by decide +kernel
theorem dX12_newOne_81 : decode cX12_newOne 81 = .ok (.iconst 1, 1) := by decide +kernel
theorem dX12_newOne_82 : decode cX12_newOne 82 = .ok (.ireturn, 1) := by decide +kernel
theorem dX12_oldOne_0 : decode cX12_oldOne 0 = .ok (.aload_n 0, 1) := by decide +kernel
theorem dX12_oldOne_1 : decode cX12_oldOne 1 = .ok (.ldc 180, 2) := by decide +kernel
theorem dX12_oldOne_3 : decode cX12_oldOne 3 = .ok (.invokevirtual 182, 3) := by decide +kernel
theorem dX12_oldOne_6 : decode cX12_oldOne 6 = .ok (.ifCond .ne 9, 3) := by decide +kernel
theorem dX12_oldOne_9 : decode cX12_oldOne 9 = .ok (.aload_n 0, 1) := by decide +kernel
theorem dX12_oldOne_10 : decode cX12_oldOne 10 = .ok (.iconst 2, 1) := by decide +kernel
theorem dX12_oldOne_11 : decode cX12_oldOne 11 = .ok (.invokevirtual 166, 3) := by decide +kernel
theorem dX12_oldOne_14 : decode cX12_oldOne 14 = .ok (.ireturn, 1) := by decide +kernel
theorem dX12_oldOne_15 : decode cX12_oldOne 15 = .ok (.aload_n 0, 1) := by decide +kernel
theorem dX12_oldOne_16 : decode cX12_oldOne 16 = .ok (.aload_n 0, 1) := by decide +kernel
theorem dX12_oldOne_17 : decode cX12_oldOne 17 = .ok (.iload_n 1, 1) := by decide +kernel
theorem dX12_oldOne_18 : decode cX12_oldOne 18 = .ok (.iload_n 3, 1) := by decide +kernel
theorem dX12_oldOne_19 : decode cX12_oldOne 19 = .ok (.iadd, 1) := by decide +kernel
theorem dX12_oldOne_20 : decode cX12_oldOne 20 = .ok (.iload_n 2, 1) := by decide +kernel
theorem dX12_oldOne_21 : decode cX12_oldOne 21 = .ok (.invokevirtual 177, 3) := by decide +kernel
theorem dX12_oldOne_24 : decode cX12_oldOne 24 = .ok (.putfield 190, 3) := by decide +kernel
theorem dX12_oldOne_27 : decode cX12_oldOne 27 = .ok (.aload_n 0, 1) := by decide +kernel
theorem dX12_oldOne_28 : decode cX12_oldOne 28 = .ok (.getfield 190, 3) := by decide +kernel
theorem dX12_oldOne_31 : decode cX12_oldOne 31 = .ok (.iconst (-1), 1) := by decide +kernel
theorem dX12_oldOne_32 : decode cX12_oldOne 32 = .ok (.if_icmp .ne 11, 3) := by decide +kernel
theorem dX12_oldOne_35 : decode cX12_oldOne 35 = .ok (.aload_n 0, 1) := by decide +kernel
theorem dX12_oldOne_36 : decode cX12_oldOne 36 = .ok (.iconst 3, 1) := by decide +kernel
theorem dX12_oldOne_37 : decode cX12_oldOne 37 = .ok (.invokevirtual 166, 3) := by decide +kernel
theorem dX12_oldOne_40 : decode cX12_oldOne 40 = .ok (.goto 4, 3) := by decide +kernel
theorem dX12_oldOne_43 : decode cX12_oldOne 43 = .ok (.iconst 1, 1) := by decide +kernel
theorem dX12_oldOne_44 : decode cX12_oldOne 44 = .ok (.ireturn, 1) := by decide +kernel
theorem dX12_aVane_0 : decode cX12_aVane 0 = .ok (.sipush 1980, 3) := by decide +kernel
theorem dX12_aVane_3 : decode cX12_aVane 3 = .ok (.bipush 6, 2) := by decide +kernel
theorem dX12_aVane_5 : decode cX12_aVane 5 = .ok (.aload_n 0, 1) := by decide +kernel
theorem dX12_aVane_6 : decode cX12_aVane 6 = .ok (.getfield 7, 3) := by decide +kernel
theorem dX12_aVane_9 : decode cX12_aVane 9 = .ok (.sipush 1961, 3) := by decide +kernel
theorem dX12_aVane_12 : decode cX12_aVane 12 = .ok (.iaload, 1) := by decide +kernel
theorem dX12_aVane_13 : decode cX12_aVane 13 = .ok (.imul, 1) := by decide +kernel
theorem dX12_aVane_14 : decode cX12_aVane 14 = .ok (.iadd, 1) := by decide +kernel
theorem dX12_aVane_15 : decode cX12_aVane 15 = .ok (.istore_n 1, 1) := by decide +kernel
theorem dX12_aVane_16 : decode cX12_aVane 16 = .ok (.aload_n 0, 1) := by decide +kernel
theorem dX12_aVane_17 : decode cX12_aVane 17 = .ok (.iconst 1, 1) := by decide +kernel
theorem dX12_aVane_18 : decode cX12_aVane 18 = .ok (.bipush 8, 2) := by decide +kernel
theorem dX12_aVane_20 : decode cX12_aVane 20 = .ok (.iconst 4, 1) := by decide +kernel
theorem dX12_aVane_21 : decode cX12_aVane 21 = .ok (.invokevirtual 193, 3) := by decide +kernel
theorem dX12_aVane_24 : decode cX12_aVane 24 = .ok (.ifCond .ne 5, 3) := by decide +kernel
theorem dX12_aVane_27 : decode cX12_aVane 27 = .ok (.iconst 0, 1) := by decide +kernel
theorem dX12_aVane_28 : decode cX12_aVane 28 = .ok (.ireturn, 1) := by decide +kernel
theorem dX12_aVane_29 : decode cX12_aVane 29 = .ok (.iconst 0, 1) := by decide +kernel
theorem dX12_aVane_30 : decode cX12_aVane 30 = .ok (.istore_n 2, 1) := by decide +kernel
theorem dX12_aVane_31 : decode cX12_aVane 31 = .ok (.iload_n 2, 1) := by decide +kernel
theorem dX12_aVane_32 : decode cX12_aVane 32 = .ok (.bipush 6, 2) := by decide +kernel
theorem dX12_aVane_34 : decode cX12_aVane 34 = .ok (.if_icmp .ge 18, 3) := by decide +kernel
theorem dX12_aVane_37 : decode cX12_aVane 37 = .ok (.aload_n 0, 1) := by decide +kernel
theorem dX12_aVane_38 : decode cX12_aVane 38 = .ok (.getfield 7, 3) := by decide +kernel
theorem dX12_aVane_41 : decode cX12_aVane 41 = .ok (.iload_n 1, 1) := by decide +kernel
theorem dX12_aVane_42 : decode cX12_aVane 42 = .ok (.iload_n 2, 1) := by decide +kernel
theorem dX12_aVane_43 : decode cX12_aVane 43 = .ok (.iadd, 1) := by decide +kernel
theorem dX12_aVane_44 : decode cX12_aVane 44 = .ok (.iconst 0, 1) := by decide +kernel
theorem dX12_aVane_45 : decode cX12_aVane 45 = .ok (.iastore, 1) := by decide +kernel
theorem dX12_aVane_46 : decode cX12_aVane 46 = .ok (.iinc 2 1, 3) := by decide +kernel
theorem dX12_aVane_49 : decode cX12_aVane 49 = .ok (.goto (-18), 3) := by decide +kernel
theorem dX12_aVane_52 : decode cX12_aVane 52 = .ok (.aload_n 0, 1) := by decide +kernel
theorem dX12_aVane_53 : decode cX12_aVane 53 = .ok (.ldc 180, 2) := by decide +kernel
theorem dX12_aVane_55 : decode cX12_aVane 55 = .ok (.iconst 4, 1) := by decide +kernel
theorem dX12_aVane_56 : decode cX12_aVane 56 = .ok (.invokevirtual 197, 3) := by decide +kernel
theorem dX12_aVane_59 : decode cX12_aVane 59 = .ok (.ifCond .eq 42, 3) := by decide +kernel
theorem dX12_aVane_62 : decode cX12_aVane 62 = .ok (.aload_n 0, 1) := by decide +kernel
theorem dX12_aVane_63 : decode cX12_aVane 63 = .ok (.iload_n 1, 1) := by decide +kernel
theorem dX12_aVane_64 : decode cX12_aVane 64 = .ok (.iconst 4, 1) := by decide +kernel
theorem dX12_aVane_65 : decode cX12_aVane 65 = .ok (.bipush 60, 2) := by decide +kernel
theorem dX12_aVane_67 : decode cX12_aVane 67 = .ok (.invokevirtual 201, 3) := by decide +kernel
theorem dX12_aVane_70 : decode cX12_aVane 70 = .ok (.ifCond .eq 31, 3) := by decide +kernel
theorem dX12_aVane_73 : decode cX12_aVane 73 = .ok (.aload_n 0, 1) := by decide +kernel
theorem dX12_aVane_74 : decode cX12_aVane 74 = .ok (.ldc 180, 2) := by decide +kernel
theorem dX12_aVane_76 : decode cX12_aVane 76 = .ok (.iconst 5, 1) := by decide +kernel
theorem dX12_aVane_77 : decode cX12_aVane 77 = .ok (.invokevirtual 197, 3) := by decide +kernel
theorem dX12_aVane_80 : decode cX12_aVane 80 = .ok (.ifCond .eq 21, 3) := by decide +kernel
theorem dX12_aVane_83 : decode cX12_aVane 83 = .ok (.aload_n 0, 1) := by decide +kernel
theorem dX12_aVane_84 : decode cX12_aVane 84 = .ok (.bipush 88, 2) := by decide +kernel
theorem dX12_aVane_86 : decode cX12_aVane 86 = .ok (.aload_n 0, 1) := by decide +kernel
theorem dX12_aVane_87 : decode cX12_aVane 87 = .ok (.getfield 7, 3) := by decide +kernel
theorem dX12_aVane_90 : decode cX12_aVane 90 = .ok (.sipush 1960, 3) := by decide +kernel
theorem dX12_aVane_93 : decode cX12_aVane 93 = .ok (.iaload, 1) := by decide +kernel
theorem dX12_aVane_94 : decode cX12_aVane 94 = .ok (.iconst 0, 1) := by decide +kernel
theorem dX12_aVane_95 : decode cX12_aVane 95 = .ok (.invokevirtual 204, 3) := by decide +kernel
theorem dX12_aVane_98 : decode cX12_aVane 98 = .ok (.ifCond .ne 5, 3) := by decide +kernel
theorem dX12_aVane_101 : decode cX12_aVane 101 = .ok (.iconst 0, 1) := by decide +kernel
theorem dX12_aVane_102 : decode cX12_aVane 102 = .ok (.ireturn, 1) := by decide +kernel
theorem dX12_aVane_103 : decode cX12_aVane 103 = .ok (.aload_n 0, 1) := by decide +kernel
theorem dX12_aVane_104 : decode cX12_aVane 104 = .ok (.getfield 7, 3) := by decide +kernel
theorem dX12_aVane_107 : decode cX12_aVane 107 = .ok (.iload_n 1, 1) := by decide +kernel
theorem dX12_aVane_108 : decode cX12_aVane 108 = .ok (.iconst 1, 1) := by decide +kernel
theorem dX12_aVane_109 : decode cX12_aVane 109 = .ok (.iadd, 1) := by decide +kernel
theorem dX12_aVane_110 : decode cX12_aVane 110 = .ok (.aload_n 0, 1) := by decide +kernel
theorem dX12_aVane_111 : decode cX12_aVane 111 = .ok (.getfield 190, 3) := by decide +kernel
theorem dX12_aVane_114 : decode cX12_aVane 114 = .ok (.iastore, 1) := by decide +kernel
theorem dX12_aVane_115 : decode cX12_aVane 115 = .ok (.aload_n 0, 1) := by decide +kernel
theorem dX12_aVane_116 : decode cX12_aVane 116 = .ok (.invokevirtual 160, 3) := by decide +kernel
theorem dX12_aVane_119 : decode cX12_aVane 119 = .ok (.aload_n 0, 1) := by decide +kernel
theorem dX12_aVane_120 : decode cX12_aVane 120 = .ok (.ldc 180, 2) := by decide +kernel
theorem dX12_aVane_122 : decode cX12_aVane 122 = .ok (.invokevirtual 169, 3) := by decide +kernel
theorem dX12_aVane_125 : decode cX12_aVane 125 = .ok (.bipush 6, 2) := by decide +kernel
theorem dX12_aVane_127 : decode cX12_aVane 127 = .ok (.if_icmp .ne 22, 3) := by decide +kernel
theorem dX12_aVane_130 : decode cX12_aVane 130 = .ok (.aload_n 0, 1) := by decide +kernel
theorem dX12_aVane_131 : decode cX12_aVane 131 = .ok (.invokevirtual 160, 3) := by decide +kernel
theorem dX12_aVane_134 : decode cX12_aVane 134 = .ok (.aload_n 0, 1) := by decide +kernel
theorem dX12_aVane_135 : decode cX12_aVane 135 = .ok (.iload_n 1, 1) := by decide +kernel
theorem dX12_aVane_136 : decode cX12_aVane 136 = .ok (.iconst 2, 1) := by decide +kernel
theorem dX12_aVane_137 : decode cX12_aVane 137 = .ok (.iadd, 1) := by decide +kernel
theorem dX12_aVane_138 : decode cX12_aVane 138 = .ok (.iconst 0, 1) := by decide +kernel
theorem dX12_aVane_139 : decode cX12_aVane 139 = .ok (.bipush 99, 2) := by decide +kernel
theorem dX12_aVane_141 : decode cX12_aVane 141 = .ok (.invokevirtual 201, 3) := by decide +kernel
theorem dX12_aVane_144 : decode cX12_aVane 144 = .ok (.ifCond .ne 5, 3) := by decide +kernel
theorem dX12_aVane_147 : decode cX12_aVane 147 = .ok (.iconst 0, 1) := by decide +kernel
theorem dX12_aVane_148 : decode cX12_aVane 148 = .ok (.ireturn, 1) := by decide +kernel
theorem dX12_aVane_149 : decode cX12_aVane 149 = .ok (.aload_n 0, 1) := by decide +kernel
theorem dX12_aVane_150 : decode cX12_aVane 150 = .ok (.ldc 180, 2) := by decide +kernel
theorem dX12_aVane_152 : decode cX12_aVane 152 = .ok (.invokevirtual 169, 3) := by decide +kernel
theorem dX12_aVane_155 : decode cX12_aVane 155 = .ok (.bipush 7, 2) := by decide +kernel
theorem dX12_aVane_157 : decode cX12_aVane 157 = .ok (.if_icmp .ne 28, 3) := by decide +kernel
theorem dX12_aVane_160 : decode cX12_aVane 160 = .ok (.aload_n 0, 1) := by decide +kernel
theorem dX12_aVane_161 : decode cX12_aVane 161 = .ok (.invokevirtual 160, 3) := by decide +kernel
theorem dX12_aVane_164 : decode cX12_aVane 164 = .ok (.aload_n 0, 1) := by decide +kernel
theorem dX12_aVane_165 : decode cX12_aVane 165 = .ok (.iload_n 1, 1) := by decide +kernel
theorem dX12_aVane_166 : decode cX12_aVane 166 = .ok (.iconst 3, 1) := by decide +kernel
theorem dX12_aVane_167 : decode cX12_aVane 167 = .ok (.iadd, 1) := by decide +kernel
theorem dX12_aVane_168 : decode cX12_aVane 168 = .ok (.iconst 0, 1) := by decide +kernel
theorem dX12_aVane_169 : decode cX12_aVane 169 = .ok (.aload_n 0, 1) := by decide +kernel
theorem dX12_aVane_170 : decode cX12_aVane 170 = .ok (.getfield 7, 3) := by decide +kernel
theorem dX12_aVane_173 : decode cX12_aVane 173 = .ok (.iload_n 1, 1) := by decide +kernel
theorem dX12_aVane_174 : decode cX12_aVane 174 = .ok (.iaload, 1) := by decide +kernel
theorem dX12_aVane_175 : decode cX12_aVane 175 = .ok (.iconst 1, 1) := by decide +kernel
theorem dX12_aVane_176 : decode cX12_aVane 176 = .ok (.isub, 1) := by decide +kernel
theorem dX12_aVane_177 : decode cX12_aVane 177 = .ok (.invokevirtual 201, 3) := by decide +kernel
theorem dX12_aVane_180 : decode cX12_aVane 180 = .ok (.ifCond .ne 5, 3) := by decide +kernel
theorem dX12_aVane_183 : decode cX12_aVane 183 = .ok (.iconst 0, 1) := by decide +kernel
theorem dX12_aVane_184 : decode cX12_aVane 184 = .ok (.ireturn, 1) := by decide +kernel
theorem dX12_aVane_185 : decode cX12_aVane 185 = .ok (.aload_n 0, 1) := by decide +kernel
theorem dX12_aVane_186 : decode cX12_aVane 186 = .ok (.getfield 7, 3) := by decide +kernel
theorem dX12_aVane_189 : decode cX12_aVane 189 = .ok (.sipush 1961, 3) := by decide +kernel
theorem dX12_aVane_192 : decode cX12_aVane 192 = .ok (.dup2, 1) := by decide +kernel
theorem dX12_aVane_193 : decode cX12_aVane 193 = .ok (.iaload, 1) := by decide +kernel
theorem dX12_aVane_194 : decode cX12_aVane 194 = .ok (.iconst 1, 1) := by decide +kernel
theorem dX12_aVane_195 : decode cX12_aVane 195 = .ok (.iadd, 1) := by decide +kernel
theorem dX12_aVane_196 : decode cX12_aVane 196 = .ok (.iastore, 1) := by decide +kernel
theorem dX12_aVane_197 : decode cX12_aVane 197 = .ok (.iconst 1, 1) := by decide +kernel
theorem dX12_aVane_198 : decode cX12_aVane 198 = .ok (.ireturn, 1) := by decide +kernel
theorem dX12_aShaft_0 : decode cX12_aShaft 0 = .ok (.sipush 2030, 3) := by decide +kernel
theorem dX12_aShaft_3 : decode cX12_aShaft 3 = .ok (.iconst 5, 1) := by decide +kernel
theorem dX12_aShaft_4 : decode cX12_aShaft 4 = .ok (.aload_n 0, 1) := by decide +kernel
theorem dX12_aShaft_5 : decode cX12_aShaft 5 = .ok (.getfield 7, 3) := by decide +kernel
theorem dX12_aShaft_8 : decode cX12_aShaft 8 = .ok (.sipush 1962, 3) := by decide +kernel
theorem dX12_aShaft_11 : decode cX12_aShaft 11 = .ok (.iaload, 1) := by decide +kernel
theorem dX12_aShaft_12 : decode cX12_aShaft 12 = .ok (.imul, 1) := by decide +kernel
theorem dX12_aShaft_13 : decode cX12_aShaft 13 = .ok (.iadd, 1) := by decide +kernel
theorem dX12_aShaft_14 : decode cX12_aShaft 14 = .ok (.istore_n 2, 1) := by decide +kernel
theorem dX12_aShaft_15 : decode cX12_aShaft 15 = .ok (.aload_n 0, 1) := by decide +kernel
theorem dX12_aShaft_16 : decode cX12_aShaft 16 = .ok (.iconst 2, 1) := by decide +kernel
theorem dX12_aShaft_17 : decode cX12_aShaft 17 = .ok (.bipush 10, 2) := by decide +kernel
theorem dX12_aShaft_19 : decode cX12_aShaft 19 = .ok (.bipush 12, 2) := by decide +kernel
theorem dX12_aShaft_21 : decode cX12_aShaft 21 = .ok (.invokevirtual 193, 3) := by decide +kernel
theorem dX12_aShaft_24 : decode cX12_aShaft 24 = .ok (.ifCond .ne 5, 3) := by decide +kernel
theorem dX12_aShaft_27 : decode cX12_aShaft 27 = .ok (.iconst 0, 1) := by decide +kernel
theorem dX12_aShaft_28 : decode cX12_aShaft 28 = .ok (.ireturn, 1) := by decide +kernel
theorem dX12_aShaft_29 : decode cX12_aShaft 29 = .ok (.aload_n 0, 1) := by decide +kernel
theorem dX12_aShaft_30 : decode cX12_aShaft 30 = .ok (.getfield 7, 3) := by decide +kernel
theorem dX12_aShaft_33 : decode cX12_aShaft 33 = .ok (.iload_n 2, 1) := by decide +kernel
theorem dX12_aShaft_34 : decode cX12_aShaft 34 = .ok (.iconst 2, 1) := by decide +kernel
theorem dX12_aShaft_35 : decode cX12_aShaft 35 = .ok (.iadd, 1) := by decide +kernel
theorem dX12_aShaft_36 : decode cX12_aShaft 36 = .ok (.iload_n 1, 1) := by decide +kernel
theorem dX12_aShaft_37 : decode cX12_aShaft 37 = .ok (.iastore, 1) := by decide +kernel
theorem dX12_aShaft_38 : decode cX12_aShaft 38 = .ok (.aload_n 0, 1) := by decide +kernel
theorem dX12_aShaft_39 : decode cX12_aShaft 39 = .ok (.getfield 7, 3) := by decide +kernel
theorem dX12_aShaft_42 : decode cX12_aShaft 42 = .ok (.iload_n 2, 1) := by decide +kernel
theorem dX12_aShaft_43 : decode cX12_aShaft 43 = .ok (.iconst 3, 1) := by decide +kernel
theorem dX12_aShaft_44 : decode cX12_aShaft 44 = .ok (.iadd, 1) := by decide +kernel
theorem dX12_aShaft_45 : decode cX12_aShaft 45 = .ok (.iconst 0, 1) := by decide +kernel
theorem dX12_aShaft_46 : decode cX12_aShaft 46 = .ok (.iastore, 1) := by decide +kernel
theorem dX12_aShaft_47 : decode cX12_aShaft 47 = .ok (.aload_n 0, 1) := by decide +kernel
theorem dX12_aShaft_48 : decode cX12_aShaft 48 = .ok (.getfield 7, 3) := by decide +kernel
theorem dX12_aShaft_51 : decode cX12_aShaft 51 = .ok (.iload_n 2, 1) := by decide +kernel
theorem dX12_aShaft_52 : decode cX12_aShaft 52 = .ok (.iconst 4, 1) := by decide +kernel
theorem dX12_aShaft_53 : decode cX12_aShaft 53 = .ok (.iadd, 1) := by decide +kernel
theorem dX12_aShaft_54 : decode cX12_aShaft 54 = .ok (.iconst 0, 1) := by decide +kernel
theorem dX12_aShaft_55 : decode cX12_aShaft 55 = .ok (.iastore, 1) := by decide +kernel
theorem dX12_aShaft_56 : decode cX12_aShaft 56 = .ok (.aload_n 0, 1) := by decide +kernel
theorem dX12_aShaft_57 : decode cX12_aShaft 57 = .ok (.ldc 180, 2) := by decide +kernel
theorem dX12_aShaft_59 : decode cX12_aShaft 59 = .ok (.bipush 8, 2) := by decide +kernel
theorem dX12_aShaft_61 : decode cX12_aShaft 61 = .ok (.invokevirtual 197, 3) := by decide +kernel
theorem dX12_aShaft_64 : decode cX12_aShaft 64 = .ok (.ifCond .eq 21, 3) := by decide +kernel
theorem dX12_aShaft_67 : decode cX12_aShaft 67 = .ok (.aload_n 0, 1) := by decide +kernel
theorem dX12_aShaft_68 : decode cX12_aShaft 68 = .ok (.bipush 88, 2) := by decide +kernel
theorem dX12_aShaft_70 : decode cX12_aShaft 70 = .ok (.aload_n 0, 1) := by decide +kernel
theorem dX12_aShaft_71 : decode cX12_aShaft 71 = .ok (.getfield 7, 3) := by decide +kernel
theorem dX12_aShaft_74 : decode cX12_aShaft 74 = .ok (.sipush 1961, 3) := by decide +kernel
theorem dX12_aShaft_77 : decode cX12_aShaft 77 = .ok (.iaload, 1) := by decide +kernel
theorem dX12_aShaft_78 : decode cX12_aShaft 78 = .ok (.iconst 4, 1) := by decide +kernel
theorem dX12_aShaft_79 : decode cX12_aShaft 79 = .ok (.invokevirtual 204, 3) := by decide +kernel
theorem dX12_aShaft_82 : decode cX12_aShaft 82 = .ok (.ifCond .ne 5, 3) := by decide +kernel
theorem dX12_aShaft_85 : decode cX12_aShaft 85 = .ok (.iconst 0, 1) := by decide +kernel
theorem dX12_aShaft_86 : decode cX12_aShaft 86 = .ok (.ireturn, 1) := by decide +kernel
theorem dX12_aShaft_87 : decode cX12_aShaft 87 = .ok (.aload_n 0, 1) := by decide +kernel
theorem dX12_aShaft_88 : decode cX12_aShaft 88 = .ok (.getfield 7, 3) := by decide +kernel
theorem dX12_aShaft_91 : decode cX12_aShaft 91 = .ok (.iload_n 2, 1) := by decide +kernel
theorem dX12_aShaft_92 : decode cX12_aShaft 92 = .ok (.aload_n 0, 1) := by decide +kernel
theorem dX12_aShaft_93 : decode cX12_aShaft 93 = .ok (.getfield 190, 3) := by decide +kernel
theorem dX12_aShaft_96 : decode cX12_aShaft 96 = .ok (.iastore, 1) := by decide +kernel
theorem dX12_aShaft_97 : decode cX12_aShaft 97 = .ok (.aload_n 0, 1) := by decide +kernel
theorem dX12_aShaft_98 : decode cX12_aShaft 98 = .ok (.invokevirtual 160, 3) := by decide +kernel
theorem dX12_aShaft_101 : decode cX12_aShaft 101 = .ok (.aload_n 0, 1) := by decide +kernel
theorem dX12_aShaft_102 : decode cX12_aShaft 102 = .ok (.bipush 88, 2) := by decide +kernel
theorem dX12_aShaft_104 : decode cX12_aShaft 104 = .ok (.aload_n 0, 1) := by decide +kernel
theorem dX12_aShaft_105 : decode cX12_aShaft 105 = .ok (.getfield 7, 3) := by decide +kernel
theorem dX12_aShaft_108 : decode cX12_aShaft 108 = .ok (.sipush 1961, 3) := by decide +kernel
theorem dX12_aShaft_111 : decode cX12_aShaft 111 = .ok (.iaload, 1) := by decide +kernel
theorem dX12_aShaft_112 : decode cX12_aShaft 112 = .ok (.iconst 4, 1) := by decide +kernel
theorem dX12_aShaft_113 : decode cX12_aShaft 113 = .ok (.invokevirtual 204, 3) := by decide +kernel
theorem dX12_aShaft_116 : decode cX12_aShaft 116 = .ok (.ifCond .ne 5, 3) := by decide +kernel
theorem dX12_aShaft_119 : decode cX12_aShaft 119 = .ok (.iconst 0, 1) := by decide +kernel
theorem dX12_aShaft_120 : decode cX12_aShaft 120 = .ok (.ireturn, 1) := by decide +kernel
theorem dX12_aShaft_121 : decode cX12_aShaft 121 = .ok (.aload_n 0, 1) := by decide +kernel
theorem dX12_aShaft_122 : decode cX12_aShaft 122 = .ok (.getfield 190, 3) := by decide +kernel
theorem dX12_aShaft_125 : decode cX12_aShaft 125 = .ok (.aload_n 0, 1) := by decide +kernel
theorem dX12_aShaft_126 : decode cX12_aShaft 126 = .ok (.getfield 7, 3) := by decide +kernel
theorem dX12_aShaft_129 : decode cX12_aShaft 129 = .ok (.iload_n 2, 1) := by decide +kernel
theorem dX12_aShaft_130 : decode cX12_aShaft 130 = .ok (.iaload, 1) := by decide +kernel
theorem dX12_aShaft_131 : decode cX12_aShaft 131 = .ok (.if_icmp .ne 9, 3) := by decide +kernel
theorem dX12_aShaft_134 : decode cX12_aShaft 134 = .ok (.aload_n 0, 1) := by decide +kernel
theorem dX12_aShaft_135 : decode cX12_aShaft 135 = .ok (.iconst 5, 1) := by decide +kernel
theorem dX12_aShaft_136 : decode cX12_aShaft 136 = .ok (.invokevirtual 166, 3) := by decide +kernel
theorem dX12_aShaft_139 : decode cX12_aShaft 139 = .ok (.ireturn, 1) := by decide +kernel
theorem dX12_aShaft_140 : decode cX12_aShaft 140 = .ok (.aload_n 0, 1) := by decide +kernel
theorem dX12_aShaft_141 : decode cX12_aShaft 141 = .ok (.getfield 7, 3) := by decide +kernel
theorem dX12_aShaft_144 : decode cX12_aShaft 144 = .ok (.iload_n 2, 1) := by decide +kernel
theorem dX12_aShaft_145 : decode cX12_aShaft 145 = .ok (.iconst 1, 1) := by decide +kernel
theorem dX12_aShaft_146 : decode cX12_aShaft 146 = .ok (.iadd, 1) := by decide +kernel
theorem dX12_aShaft_147 : decode cX12_aShaft 147 = .ok (.aload_n 0, 1) := by decide +kernel
theorem dX12_aShaft_148 : decode cX12_aShaft 148 = .ok (.getfield 190, 3) := by decide +kernel
theorem dX12_aShaft_151 : decode cX12_aShaft 151 = .ok (.iastore, 1) := by decide +kernel
theorem dX12_aShaft_152 : decode cX12_aShaft 152 = .ok (.aload_n 0, 1) := by decide +kernel
theorem dX12_aShaft_153 : decode cX12_aShaft 153 = .ok (.invokevirtual 160, 3) := by decide +kernel
theorem dX12_aShaft_156 : decode cX12_aShaft 156 = .ok (.aload_n 0, 1) := by decide +kernel
theorem dX12_aShaft_157 : decode cX12_aShaft 157 = .ok (.ldc 180, 2) := by decide +kernel
theorem dX12_aShaft_159 : decode cX12_aShaft 159 = .ok (.invokevirtual 169, 3) := by decide +kernel
theorem dX12_aShaft_162 : decode cX12_aShaft 162 = .ok (.bipush 9, 2) := by decide +kernel
theorem dX12_aShaft_164 : decode cX12_aShaft 164 = .ok (.if_icmp .ne 22, 3) := by decide +kernel
theorem dX12_aShaft_167 : decode cX12_aShaft 167 = .ok (.aload_n 0, 1) := by decide +kernel
theorem dX12_aShaft_168 : decode cX12_aShaft 168 = .ok (.invokevirtual 160, 3) := by decide +kernel
theorem dX12_aShaft_171 : decode cX12_aShaft 171 = .ok (.aload_n 0, 1) := by decide +kernel
theorem dX12_aShaft_172 : decode cX12_aShaft 172 = .ok (.iload_n 2, 1) := by decide +kernel
theorem dX12_aShaft_173 : decode cX12_aShaft 173 = .ok (.iconst 3, 1) := by decide +kernel
theorem dX12_aShaft_174 : decode cX12_aShaft 174 = .ok (.iadd, 1) := by decide +kernel
theorem dX12_aShaft_175 : decode cX12_aShaft 175 = .ok (.iconst 0, 1) := by decide +kernel
theorem dX12_aShaft_176 : decode cX12_aShaft 176 = .ok (.bipush 9, 2) := by decide +kernel
theorem dX12_aShaft_178 : decode cX12_aShaft 178 = .ok (.invokevirtual 201, 3) := by decide +kernel
theorem dX12_aShaft_181 : decode cX12_aShaft 181 = .ok (.ifCond .ne 5, 3) := by decide +kernel
theorem dX12_aShaft_184 : decode cX12_aShaft 184 = .ok (.iconst 0, 1) := by decide +kernel
theorem dX12_aShaft_185 : decode cX12_aShaft 185 = .ok (.ireturn, 1) := by decide +kernel
theorem dX12_aShaft_186 : decode cX12_aShaft 186 = .ok (.aload_n 0, 1) := by decide +kernel
theorem dX12_aShaft_187 : decode cX12_aShaft 187 = .ok (.getfield 7, 3) := by decide +kernel
theorem dX12_aShaft_190 : decode cX12_aShaft 190 = .ok (.sipush 1962, 3) := by decide +kernel
theorem dX12_aShaft_193 : decode cX12_aShaft 193 = .ok (.dup2, 1) := by decide +kernel
theorem dX12_aShaft_194 : decode cX12_aShaft 194 = .ok (.iaload, 1) := by decide +kernel
theorem dX12_aShaft_195 : decode cX12_aShaft 195 = .ok (.iconst 1, 1) := by decide +kernel
theorem dX12_aShaft_196 : decode cX12_aShaft 196 = .ok (.iadd, 1) := by decide +kernel
theorem dX12_aShaft_197 : decode cX12_aShaft 197 = .ok (.iastore, 1) := by decide +kernel
theorem dX12_aShaft_198 : decode cX12_aShaft 198 = .ok (.iconst 1, 1) := by decide +kernel
theorem dX12_aShaft_199 : decode cX12_aShaft 199 = .ok (.ireturn, 1) := by decide +kernel
theorem dX12_villagePart_0 : decode cX12_villagePart 0 = .ok (.aload_n 0, 1) := by decide +kernel
theorem dX12_villagePart_1 : decode cX12_villagePart 1 = .ok (.ldc 180, 2) := by decide +kernel
theorem dX12_villagePart_3 : decode cX12_villagePart 3 = .ok (.invokevirtual 169, 3) := by decide +kernel
theorem dX12_villagePart_6 : decode cX12_villagePart 6 = .ok (.tableswitch 87 0 3 #[30, 61, 69, 78], 30) := by decide +kernel
theorem dX12_villagePart_36 : decode cX12_villagePart 36 = .ok (.aload_n 0, 1) := by decide +kernel
theorem dX12_villagePart_37 : decode cX12_villagePart 37 = .ok (.iconst 0, 1) := by decide +kernel
theorem dX12_villagePart_38 : decode cX12_villagePart 38 = .ok (.iconst 4, 1) := by decide +kernel
theorem dX12_villagePart_39 : decode cX12_villagePart 39 = .ok (.iconst 0, 1) := by decide +kernel
theorem dX12_villagePart_40 : decode cX12_villagePart 40 = .ok (.invokevirtual 193, 3) := by decide +kernel
theorem dX12_villagePart_43 : decode cX12_villagePart 43 = .ok (.istore_n 1, 1) := by decide +kernel
theorem dX12_villagePart_44 : decode cX12_villagePart 44 = .ok (.aload_n 0, 1) := by decide +kernel
theorem dX12_villagePart_45 : decode cX12_villagePart 45 = .ok (.getfield 7, 3) := by decide +kernel
theorem dX12_villagePart_48 : decode cX12_villagePart 48 = .ok (.sipush 1960, 3) := by decide +kernel
theorem dX12_villagePart_51 : decode cX12_villagePart 51 = .ok (.dup2, 1) := by decide +kernel
theorem dX12_villagePart_52 : decode cX12_villagePart 52 = .ok (.iaload, 1) := by decide +kernel
theorem dX12_villagePart_53 : decode cX12_villagePart 53 = .ok (.iload_n 1, 1) := by decide +kernel
theorem dX12_villagePart_54 : decode cX12_villagePart 54 = .ok (.ifCond .eq 7, 3) := by decide +kernel
theorem dX12_villagePart_57 : decode cX12_villagePart 57 = .ok (.iconst 1, 1) := by decide +kernel
theorem dX12_villagePart_58 : decode cX12_villagePart 58 = .ok (.goto 4, 3) := by decide +kernel
theorem dX12_villagePart_61 : decode cX12_villagePart 61 = .ok (.iconst 0, 1) := by decide +kernel
theorem dX12_villagePart_62 : decode cX12_villagePart 62 = .ok (.iadd, 1) := by decide +kernel
theorem dX12_villagePart_63 : decode cX12_villagePart 63 = .ok (.iastore, 1) := by decide +kernel
theorem dX12_villagePart_64 : decode cX12_villagePart 64 = .ok (.goto 35, 3) := by decide +kernel
theorem dX12_villagePart_67 : decode cX12_villagePart 67 = .ok (.aload_n 0, 1) := by decide +kernel
theorem dX12_villagePart_68 : decode cX12_villagePart 68 = .ok (.invokevirtual 207, 3) := by decide +kernel
theorem dX12_villagePart_71 : decode cX12_villagePart 71 = .ok (.istore_n 1, 1) := by decide +kernel
theorem dX12_villagePart_72 : decode cX12_villagePart 72 = .ok (.goto 27, 3) := by decide +kernel
theorem dX12_villagePart_75 : decode cX12_villagePart 75 = .ok (.aload_n 0, 1) := by decide +kernel
theorem dX12_villagePart_76 : decode cX12_villagePart 76 = .ok (.iconst 0, 1) := by decide +kernel
theorem dX12_villagePart_77 : decode cX12_villagePart 77 = .ok (.invokevirtual 210, 3) := by decide +kernel
theorem dX12_villagePart_80 : decode cX12_villagePart 80 = .ok (.istore_n 1, 1) := by decide +kernel
theorem dX12_villagePart_81 : decode cX12_villagePart 81 = .ok (.goto 18, 3) := by decide +kernel
theorem dX12_villagePart_84 : decode cX12_villagePart 84 = .ok (.aload_n 0, 1) := by decide +kernel
theorem dX12_villagePart_85 : decode cX12_villagePart 85 = .ok (.iconst 1, 1) := by decide +kernel
theorem dX12_villagePart_86 : decode cX12_villagePart 86 = .ok (.invokevirtual 210, 3) := by decide +kernel
theorem dX12_villagePart_89 : decode cX12_villagePart 89 = .ok (.istore_n 1, 1) := by decide +kernel
theorem dX12_villagePart_90 : decode cX12_villagePart 90 = .ok (.goto 9, 3) := by decide +kernel
theorem dX12_villagePart_93 : decode cX12_villagePart 93 = .ok (.aload_n 0, 1) := by decide +kernel
theorem dX12_villagePart_94 : decode cX12_villagePart 94 = .ok (.iconst 2, 1) := by decide +kernel
theorem dX12_villagePart_95 : decode cX12_villagePart 95 = .ok (.invokevirtual 166, 3) := by decide +kernel
theorem dX12_villagePart_98 : decode cX12_villagePart 98 = .ok (.ireturn, 1) := by decide +kernel
theorem dX12_villagePart_99 : decode cX12_villagePart 99 = .ok (.iload_n 1, 1) := by decide +kernel
theorem dX12_villagePart_100 : decode cX12_villagePart 100 = .ok (.ifCond .eq 16, 3) := by decide +kernel
theorem dX12_villagePart_103 : decode cX12_villagePart 103 = .ok (.aload_n 0, 1) := by decide +kernel
theorem dX12_villagePart_104 : decode cX12_villagePart 104 = .ok (.bipush 59, 2) := by decide +kernel
theorem dX12_villagePart_106 : decode cX12_villagePart 106 = .ok (.invokevirtual 213, 3) := by decide +kernel
theorem dX12_villagePart_109 : decode cX12_villagePart 109 = .ok (.ifCond .eq 7, 3) := by decide +kernel
theorem dX12_villagePart_112 : decode cX12_villagePart 112 = .ok (.iconst 1, 1) := by decide +kernel
theorem dX12_villagePart_113 : decode cX12_villagePart 113 = .ok (.goto 4, 3) := by decide +kernel
theorem dX12_villagePart_116 : decode cX12_villagePart 116 = .ok (.iconst 0, 1) := by decide +kernel
theorem dX12_villagePart_117 : decode cX12_villagePart 117 = .ok (.ireturn, 1) := by decide +kernel
theorem dX12_village_0 : decode cX12_village 0 = .ok (.aload_n 0, 1) := by decide +kernel
theorem dX12_village_1 : decode cX12_village 1 = .ok (.iload_n 1, 1) := by decide +kernel
theorem dX12_village_2 : decode cX12_village 2 = .ok (.sipush 900, 3) := by decide +kernel
theorem dX12_village_5 : decode cX12_village 5 = .ok (.invokevirtual 216, 3) := by decide +kernel
theorem dX12_village_8 : decode cX12_village 8 = .ok (.ifCond .ne 9, 3) := by decide +kernel
theorem dX12_village_11 : decode cX12_village 11 = .ok (.aload_n 0, 1) := by decide +kernel
theorem dX12_village_12 : decode cX12_village 12 = .ok (.iconst 1, 1) := by decide +kernel
theorem dX12_village_13 : decode cX12_village 13 = .ok (.invokevirtual 83, 3) := by decide +kernel
theorem dX12_village_16 : decode cX12_village 16 = .ok (.ireturn, 1) := by decide +kernel
theorem dX12_village_17 : decode cX12_village 17 = .ok (.iconst 0, 1) := by decide +kernel
theorem dX12_village_18 : decode cX12_village 18 = .ok (.istore_n 2, 1) := by decide +kernel
theorem dX12_village_19 : decode cX12_village 19 = .ok (.iload_n 2, 1) := by decide +kernel
theorem dX12_village_20 : decode cX12_village 20 = .ok (.sipush 490, 3) := by decide +kernel
theorem dX12_village_23 : decode cX12_village 23 = .ok (.if_icmp .ge 20, 3) := by decide +kernel
theorem dX12_village_26 : decode cX12_village 26 = .ok (.aload_n 0, 1) := by decide +kernel
theorem dX12_village_27 : decode cX12_village 27 = .ok (.getfield 7, 3) := by decide +kernel
theorem dX12_village_30 : decode cX12_village 30 = .ok (.sipush 1960, 3) := by decide +kernel
theorem dX12_village_33 : decode cX12_village 33 = .ok (.iload_n 2, 1) := by decide +kernel
theorem dX12_village_34 : decode cX12_village 34 = .ok (.iadd, 1) := by decide +kernel
theorem dX12_village_35 : decode cX12_village 35 = .ok (.iconst 0, 1) := by decide +kernel
theorem dX12_village_36 : decode cX12_village 36 = .ok (.iastore, 1) := by decide +kernel
theorem dX12_village_37 : decode cX12_village 37 = .ok (.iinc 2 1, 3) := by decide +kernel
theorem dX12_village_40 : decode cX12_village 40 = .ok (.goto (-21), 3) := by decide +kernel
theorem dX12_village_43 : decode cX12_village 43 = .ok (.aload_n 0, 1) := by decide +kernel
theorem dX12_village_44 : decode cX12_village 44 = .ok (.getfield 7, 3) := by decide +kernel
theorem dX12_village_47 : decode cX12_village 47 = .ok (.sipush 1966, 3) := by decide +kernel
theorem dX12_village_50 : decode cX12_village 50 = .ok (.iconst (-1), 1) := by decide +kernel
theorem dX12_village_51 : decode cX12_village 51 = .ok (.iastore, 1) := by decide +kernel
theorem dX12_village_52 : decode cX12_village 52 = .ok (.iconst 1, 1) := by decide +kernel
theorem dX12_village_53 : decode cX12_village 53 = .ok (.istore_n 2, 1) := by decide +kernel
theorem dX12_village_54 : decode cX12_village 54 = .ok (.iload_n 2, 1) := by decide +kernel
theorem dX12_village_55 : decode cX12_village 55 = .ok (.ifCond .eq 18, 3) := by decide +kernel
theorem dX12_village_58 : decode cX12_village 58 = .ok (.aload_n 0, 1) := by decide +kernel
theorem dX12_village_59 : decode cX12_village 59 = .ok (.getfield 129, 3) := by decide +kernel
theorem dX12_village_62 : decode cX12_village 62 = .ok (.ifCond .eq 11, 3) := by decide +kernel
theorem dX12_village_65 : decode cX12_village 65 = .ok (.aload_n 0, 1) := by decide +kernel
theorem dX12_village_66 : decode cX12_village 66 = .ok (.invokevirtual 220, 3) := by decide +kernel
theorem dX12_village_69 : decode cX12_village 69 = .ok (.istore_n 2, 1) := by decide +kernel
theorem dX12_village_70 : decode cX12_village 70 = .ok (.goto (-16), 3) := by decide +kernel
theorem dX12_village_73 : decode cX12_village 73 = .ok (.aload_n 0, 1) := by decide +kernel
theorem dX12_village_74 : decode cX12_village 74 = .ok (.getfield 154, 3) := by decide +kernel
theorem dX12_village_77 : decode cX12_village 77 = .ok (.ifCond .ne 63, 3) := by decide +kernel
theorem dX12_village_80 : decode cX12_village 80 = .ok (.iconst 0, 1) := by decide +kernel
theorem dX12_village_81 : decode cX12_village 81 = .ok (.istore_n 3, 1) := by decide +kernel
theorem dX12_village_82 : decode cX12_village 82 = .ok (.iload_n 3, 1) := by decide +kernel
theorem dX12_village_83 : decode cX12_village 83 = .ok (.sipush 490, 3) := by decide +kernel
theorem dX12_village_86 : decode cX12_village 86 = .ok (.if_icmp .ge 25, 3) := by decide +kernel
theorem dX12_village_89 : decode cX12_village 89 = .ok (.aload_n 0, 1) := by decide +kernel
theorem dX12_village_90 : decode cX12_village 90 = .ok (.getfield 7, 3) := by decide +kernel
theorem dX12_village_93 : decode cX12_village 93 = .ok (.iload_n 3, 1) := by decide +kernel
theorem dX12_village_94 : decode cX12_village 94 = .ok (.aload_n 0, 1) := by decide +kernel
theorem dX12_village_95 : decode cX12_village 95 = .ok (.getfield 7, 3) := by decide +kernel
theorem dX12_village_98 : decode cX12_village 98 = .ok (.sipush 1960, 3) := by decide +kernel
theorem dX12_village_101 : decode cX12_village 101 = .ok (.iload_n 3, 1) := by decide +kernel
theorem dX12_village_102 : decode cX12_village 102 = .ok (.iadd, 1) := by decide +kernel
theorem dX12_village_103 : decode cX12_village 103 = .ok (.iaload, 1) := by decide +kernel
theorem dX12_village_104 : decode cX12_village 104 = .ok (.iastore, 1) := by decide +kernel
theorem dX12_village_105 : decode cX12_village 105 = .ok (.iinc 3 1, 3) := by decide +kernel
theorem dX12_village_108 : decode cX12_village 108 = .ok (.goto (-26), 3) := by decide +kernel
theorem dX12_village_111 : decode cX12_village 111 = .ok (.iconst 0, 1) := by decide +kernel
theorem dX12_village_112 : decode cX12_village 112 = .ok (.istore_n 3, 1) := by decide +kernel
theorem dX12_village_113 : decode cX12_village 113 = .ok (.iload_n 3, 1) := by decide +kernel
theorem dX12_village_114 : decode cX12_village 114 = .ok (.bipush 22, 2) := by decide +kernel
theorem dX12_village_116 : decode cX12_village 116 = .ok (.if_icmp .ge 24, 3) := by decide +kernel
theorem dX12_village_119 : decode cX12_village 119 = .ok (.aload_n 0, 1) := by decide +kernel
theorem dX12_village_120 : decode cX12_village 120 = .ok (.getfield 13, 3) := by decide +kernel
theorem dX12_village_123 : decode cX12_village 123 = .ok (.iload_n 3, 1) := by decide +kernel
theorem dX12_village_124 : decode cX12_village 124 = .ok (.aload_n 0, 1) := by decide +kernel
theorem dX12_village_125 : decode cX12_village 125 = .ok (.getfield 13, 3) := by decide +kernel
theorem dX12_village_128 : decode cX12_village 128 = .ok (.bipush 88, 2) := by decide +kernel
theorem dX12_village_130 : decode cX12_village 130 = .ok (.iload_n 3, 1) := by decide +kernel
theorem dX12_village_131 : decode cX12_village 131 = .ok (.iadd, 1) := by decide +kernel
theorem dX12_village_132 : decode cX12_village 132 = .ok (.laload, 1) := by decide +kernel
theorem dX12_village_133 : decode cX12_village 133 = .ok (.lastore, 1) := by decide +kernel
theorem dX12_village_134 : decode cX12_village 134 = .ok (.iinc 3 1, 3) := by decide +kernel
theorem dX12_village_137 : decode cX12_village 137 = .ok (.goto (-24), 3) := by decide +kernel
theorem dX12_village_140 : decode cX12_village 140 = .ok (.aload_n 0, 1) := by decide +kernel
theorem dX12_village_141 : decode cX12_village 141 = .ok (.aload_n 0, 1) := by decide +kernel
theorem dX12_village_142 : decode cX12_village 142 = .ok (.getfield 7, 3) := by decide +kernel
theorem dX12_village_145 : decode cX12_village 145 = .ok (.iconst 1, 1) := by decide +kernel
theorem dX12_village_146 : decode cX12_village 146 = .ok (.iaload, 1) := by decide +kernel
theorem dX12_village_147 : decode cX12_village 147 = .ok (.invokevirtual 223, 3) := by decide +kernel
theorem dX12_village_150 : decode cX12_village 150 = .ok (.ireturn, 1) := by decide +kernel
theorem dX12_orderName_0 : decode cX12_orderName 0 = .ok (.aload_n 0, 1) := by decide +kernel
theorem dX12_orderName_1 : decode cX12_orderName 1 = .ok (.iconst 0, 1) := by decide +kernel
theorem dX12_orderName_2 : decode cX12_orderName 2 = .ok (.aload_n 0, 1) := by decide +kernel
theorem dX12_orderName_3 : decode cX12_orderName 3 = .ok (.getfield 7, 3) := by decide +kernel
theorem dX12_orderName_6 : decode cX12_orderName 6 = .ok (.iload_n 2, 1) := by decide +kernel
theorem dX12_orderName_7 : decode cX12_orderName 7 = .ok (.iaload, 1) := by decide +kernel
theorem dX12_orderName_8 : decode cX12_orderName 8 = .ok (.iload_n 3, 1) := by decide +kernel
theorem dX12_orderName_9 : decode cX12_orderName 9 = .ok (.invokevirtual 204, 3) := by decide +kernel
theorem dX12_orderName_12 : decode cX12_orderName 12 = .ok (.ifCond .ne 5, 3) := by decide +kernel
theorem dX12_orderName_15 : decode cX12_orderName 15 = .ok (.iconst 0, 1) := by decide +kernel
theorem dX12_orderName_16 : decode cX12_orderName 16 = .ok (.ireturn, 1) := by decide +kernel
theorem dX12_orderName_17 : decode cX12_orderName 17 = .ok (.aload_n 0, 1) := by decide +kernel
theorem dX12_orderName_18 : decode cX12_orderName 18 = .ok (.getfield 7, 3) := by decide +kernel
theorem dX12_orderName_21 : decode cX12_orderName 21 = .ok (.iload_n 1, 1) := by decide +kernel
theorem dX12_orderName_22 : decode cX12_orderName 22 = .ok (.aload_n 0, 1) := by decide +kernel
theorem dX12_orderName_23 : decode cX12_orderName 23 = .ok (.getfield 190, 3) := by decide +kernel
theorem dX12_orderName_26 : decode cX12_orderName 26 = .ok (.iastore, 1) := by decide +kernel
theorem dX12_orderName_27 : decode cX12_orderName 27 = .ok (.aload_n 0, 1) := by decide +kernel
theorem dX12_orderName_28 : decode cX12_orderName 28 = .ok (.invokevirtual 160, 3) := by decide +kernel
theorem dX12_orderName_31 : decode cX12_orderName 31 = .ok (.iconst 1, 1) := by decide +kernel
theorem dX12_orderName_32 : decode cX12_orderName 32 = .ok (.ireturn, 1) := by decide +kernel
theorem dX12_aTest_0 : decode cX12_aTest 0 = .ok (.aload_n 0, 1) := by decide +kernel
theorem dX12_aTest_1 : decode cX12_aTest 1 = .ok (.ldc 180, 2) := by decide +kernel
theorem dX12_aTest_3 : decode cX12_aTest 3 = .ok (.invokevirtual 169, 3) := by decide +kernel
theorem dX12_aTest_6 : decode cX12_aTest 6 = .ok (.istore_n 2, 1) := by decide +kernel
theorem dX12_aTest_7 : decode cX12_aTest 7 = .ok (.iload_n 2, 1) := by decide +kernel
theorem dX12_aTest_8 : decode cX12_aTest 8 = .ok (.bipush 7, 2) := by decide +kernel
theorem dX12_aTest_10 : decode cX12_aTest 10 = .ok (.if_icmp .eq 15, 3) := by decide +kernel
theorem dX12_aTest_13 : decode cX12_aTest 13 = .ok (.iload_n 2, 1) := by decide +kernel
theorem dX12_aTest_14 : decode cX12_aTest 14 = .ok (.bipush 19, 2) := by decide +kernel
theorem dX12_aTest_16 : decode cX12_aTest 16 = .ok (.if_icmp .eq 9, 3) := by decide +kernel
theorem dX12_aTest_19 : decode cX12_aTest 19 = .ok (.aload_n 0, 1) := by decide +kernel
theorem dX12_aTest_20 : decode cX12_aTest 20 = .ok (.iconst 2, 1) := by decide +kernel
theorem dX12_aTest_21 : decode cX12_aTest 21 = .ok (.invokevirtual 166, 3) := by decide +kernel
theorem dX12_aTest_24 : decode cX12_aTest 24 = .ok (.ireturn, 1) := by decide +kernel
theorem dX12_aTest_25 : decode cX12_aTest 25 = .ok (.aload_n 0, 1) := by decide +kernel
theorem dX12_aTest_26 : decode cX12_aTest 26 = .ok (.getfield 7, 3) := by decide +kernel
theorem dX12_aTest_29 : decode cX12_aTest 29 = .ok (.iload_n 1, 1) := by decide +kernel
theorem dX12_aTest_30 : decode cX12_aTest 30 = .ok (.sipush 1800, 3) := by decide +kernel
theorem dX12_aTest_33 : decode cX12_aTest 33 = .ok (.iload_n 2, 1) := by decide +kernel
theorem dX12_aTest_34 : decode cX12_aTest 34 = .ok (.iadd, 1) := by decide +kernel
theorem dX12_aTest_35 : decode cX12_aTest 35 = .ok (.iastore, 1) := by decide +kernel
theorem dX12_aTest_36 : decode cX12_aTest 36 = .ok (.aload_n 0, 1) := by decide +kernel
theorem dX12_aTest_37 : decode cX12_aTest 37 = .ok (.invokevirtual 160, 3) := by decide +kernel
theorem dX12_aTest_40 : decode cX12_aTest 40 = .ok (.aload_n 0, 1) := by decide +kernel
theorem dX12_aTest_41 : decode cX12_aTest 41 = .ok (.iload_n 1, 1) := by decide +kernel
theorem dX12_aTest_42 : decode cX12_aTest 42 = .ok (.iconst 1, 1) := by decide +kernel
theorem dX12_aTest_43 : decode cX12_aTest 43 = .ok (.iadd, 1) := by decide +kernel
theorem dX12_aTest_44 : decode cX12_aTest 44 = .ok (.iconst 1, 1) := by decide +kernel
theorem dX12_aTest_45 : decode cX12_aTest 45 = .ok (.iconst 4, 1) := by decide +kernel
theorem dX12_aTest_46 : decode cX12_aTest 46 = .ok (.invokevirtual 226, 3) := by decide +kernel
theorem dX12_aTest_49 : decode cX12_aTest 49 = .ok (.ifCond .eq 9, 3) := by decide +kernel
theorem dX12_aTest_52 : decode cX12_aTest 52 = .ok (.iload_n 2, 1) := by decide +kernel
theorem dX12_aTest_53 : decode cX12_aTest 53 = .ok (.bipush 19, 2) := by decide +kernel
theorem dX12_aTest_55 : decode cX12_aTest 55 = .ok (.if_icmp .ne 16, 3) := by decide +kernel
theorem dX12_aTest_58 : decode cX12_aTest 58 = .ok (.aload_n 0, 1) := by decide +kernel
theorem dX12_aTest_59 : decode cX12_aTest 59 = .ok (.getfield 154, 3) := by decide +kernel
theorem dX12_aTest_62 : decode cX12_aTest 62 = .ok (.ifCond .ne 7, 3) := by decide +kernel
theorem dX12_aTest_65 : decode cX12_aTest 65 = .ok (.iconst 1, 1) := by decide +kernel
theorem dX12_aTest_66 : decode cX12_aTest 66 = .ok (.goto 4, 3) := by decide +kernel
theorem dX12_aTest_69 : decode cX12_aTest 69 = .ok (.iconst 0, 1) := by decide +kernel
theorem dX12_aTest_70 : decode cX12_aTest 70 = .ok (.ireturn, 1) := by decide +kernel
theorem dX12_aTest_71 : decode cX12_aTest 71 = .ok (.aload_n 0, 1) := by decide +kernel
theorem dX12_aTest_72 : decode cX12_aTest 72 = .ok (.bipush 60, 2) := by decide +kernel
theorem dX12_aTest_74 : decode cX12_aTest 74 = .ok (.invokevirtual 163, 3) := by decide +kernel
theorem dX12_aTest_77 : decode cX12_aTest 77 = .ok (.ifCond .ne 27, 3) := by decide +kernel
theorem dX12_aTest_80 : decode cX12_aTest 80 = .ok (.aload_n 0, 1) := by decide +kernel
theorem dX12_aTest_81 : decode cX12_aTest 81 = .ok (.bipush 62, 2) := by decide +kernel
theorem dX12_aTest_83 : decode cX12_aTest 83 = .ok (.invokevirtual 163, 3) := by decide +kernel
theorem dX12_aTest_86 : decode cX12_aTest 86 = .ok (.ifCond .ne 18, 3) := by decide +kernel
theorem dX12_aTest_89 : decode cX12_aTest 89 = .ok (.aload_n 0, 1) := by decide +kernel
theorem dX12_aTest_90 : decode cX12_aTest 90 = .ok (.bipush 61, 2) := by decide +kernel
theorem dX12_aTest_92 : decode cX12_aTest 92 = .ok (.invokevirtual 163, 3) := by decide +kernel
theorem dX12_aTest_95 : decode cX12_aTest 95 = .ok (.ifCond .ne 9, 3) := by decide +kernel
theorem dX12_aTest_98 : decode cX12_aTest 98 = .ok (.aload_n 0, 1) := by decide +kernel
theorem dX12_aTest_99 : decode cX12_aTest 99 = .ok (.iconst 2, 1) := by decide +kernel
theorem dX12_aTest_100 : decode cX12_aTest 100 = .ok (.invokevirtual 166, 3) := by decide +kernel
theorem dX12_aTest_103 : decode cX12_aTest 103 = .ok (.ireturn, 1) := by decide +kernel
theorem dX12_aTest_104 : decode cX12_aTest 104 = .ok (.aload_n 0, 1) := by decide +kernel
theorem dX12_aTest_105 : decode cX12_aTest 105 = .ok (.getfield 7, 3) := by decide +kernel
theorem dX12_aTest_108 : decode cX12_aTest 108 = .ok (.iload_n 1, 1) := by decide +kernel
theorem dX12_aTest_109 : decode cX12_aTest 109 = .ok (.iconst 5, 1) := by decide +kernel
theorem dX12_aTest_110 : decode cX12_aTest 110 = .ok (.iadd, 1) := by decide +kernel
theorem dX12_aTest_111 : decode cX12_aTest 111 = .ok (.aload_n 0, 1) := by decide +kernel
theorem dX12_aTest_112 : decode cX12_aTest 112 = .ok (.getfield 126, 3) := by decide +kernel
theorem dX12_aTest_115 : decode cX12_aTest 115 = .ok (.iastore, 1) := by decide +kernel
theorem dX12_aTest_116 : decode cX12_aTest 116 = .ok (.aload_n 0, 1) := by decide +kernel
theorem dX12_aTest_117 : decode cX12_aTest 117 = .ok (.invokevirtual 160, 3) := by decide +kernel
theorem dX12_aTest_120 : decode cX12_aTest 120 = .ok (.aload_n 0, 1) := by decide +kernel
theorem dX12_aTest_121 : decode cX12_aTest 121 = .ok (.iload_n 1, 1) := by decide +kernel
theorem dX12_aTest_122 : decode cX12_aTest 122 = .ok (.iconst 2, 1) := by decide +kernel
theorem dX12_aTest_123 : decode cX12_aTest 123 = .ok (.iadd, 1) := by decide +kernel
theorem dX12_aTest_124 : decode cX12_aTest 124 = .ok (.iconst 0, 1) := by decide +kernel
theorem dX12_aTest_125 : decode cX12_aTest 125 = .ok (.bipush 60, 2) := by decide +kernel
theorem dX12_aTest_127 : decode cX12_aTest 127 = .ok (.invokevirtual 201, 3) := by decide +kernel
theorem dX12_aTest_130 : decode cX12_aTest 130 = .ok (.ireturn, 1) := by decide +kernel
theorem dX12_order_0 : decode cX12_order 0 = .ok (.iload_n 1, 1) := by decide +kernel
theorem dX12_order_1 : decode cX12_order 1 = .ok (.tableswitch 183 10 20 #[59, 103, 114, 125, 125, 136, 136, 146, 177, 183, 114], 59) := by decide +kernel
theorem dX12_order_60 : decode cX12_order 60 = .ok (.aload_n 0, 1) := by decide +kernel
theorem dX12_order_61 : decode cX12_order 61 = .ok (.iload_n 2, 1) := by decide +kernel
theorem dX12_order_62 : decode cX12_order 62 = .ok (.iconst 1, 1) := by decide +kernel
theorem dX12_order_63 : decode cX12_order 63 = .ok (.iadd, 1) := by decide +kernel
theorem dX12_order_64 : decode cX12_order 64 = .ok (.iconst 0, 1) := by decide +kernel
theorem dX12_order_65 : decode cX12_order 65 = .ok (.iconst 0, 1) := by decide +kernel
theorem dX12_order_66 : decode cX12_order 66 = .ok (.invokevirtual 226, 3) := by decide +kernel
theorem dX12_order_69 : decode cX12_order 69 = .ok (.ifCond .eq 33, 3) := by decide +kernel
theorem dX12_order_72 : decode cX12_order 72 = .ok (.aload_n 0, 1) := by decide +kernel
theorem dX12_order_73 : decode cX12_order 73 = .ok (.iload_n 2, 1) := by decide +kernel
theorem dX12_order_74 : decode cX12_order 74 = .ok (.iconst 2, 1) := by decide +kernel
theorem dX12_order_75 : decode cX12_order 75 = .ok (.iadd, 1) := by decide +kernel
theorem dX12_order_76 : decode cX12_order 76 = .ok (.iconst 0, 1) := by decide +kernel
theorem dX12_order_77 : decode cX12_order 77 = .ok (.bipush 15, 2) := by decide +kernel
theorem dX12_order_79 : decode cX12_order 79 = .ok (.invokevirtual 201, 3) := by decide +kernel
theorem dX12_order_82 : decode cX12_order 82 = .ok (.ifCond .eq 20, 3) := by decide +kernel
theorem dX12_order_85 : decode cX12_order 85 = .ok (.aload_n 0, 1) := by decide +kernel
theorem dX12_order_86 : decode cX12_order 86 = .ok (.iload_n 2, 1) := by decide +kernel
theorem dX12_order_87 : decode cX12_order 87 = .ok (.iconst 3, 1) := by decide +kernel
theorem dX12_order_88 : decode cX12_order 88 = .ok (.iadd, 1) := by decide +kernel
theorem dX12_order_89 : decode cX12_order 89 = .ok (.iconst 0, 1) := by decide +kernel
theorem dX12_order_90 : decode cX12_order 90 = .ok (.bipush 99, 2) := by decide +kernel
theorem dX12_order_92 : decode cX12_order 92 = .ok (.invokevirtual 201, 3) := by decide +kernel
theorem dX12_order_95 : decode cX12_order 95 = .ok (.ifCond .eq 7, 3) := by decide +kernel
theorem dX12_order_98 : decode cX12_order 98 = .ok (.iconst 1, 1) := by decide +kernel
theorem dX12_order_99 : decode cX12_order 99 = .ok (.goto 4, 3) := by decide +kernel
theorem dX12_order_102 : decode cX12_order 102 = .ok (.iconst 0, 1) := by decide +kernel
theorem dX12_order_103 : decode cX12_order 103 = .ok (.ireturn, 1) := by decide +kernel
theorem dX12_order_104 : decode cX12_order 104 = .ok (.aload_n 0, 1) := by decide +kernel
theorem dX12_order_105 : decode cX12_order 105 = .ok (.iload_n 2, 1) := by decide +kernel
theorem dX12_order_106 : decode cX12_order 106 = .ok (.iconst 1, 1) := by decide +kernel
theorem dX12_order_107 : decode cX12_order 107 = .ok (.iadd, 1) := by decide +kernel
theorem dX12_order_108 : decode cX12_order 108 = .ok (.iconst 0, 1) := by decide +kernel
theorem dX12_order_109 : decode cX12_order 109 = .ok (.bipush 99, 2) := by decide +kernel
theorem dX12_order_111 : decode cX12_order 111 = .ok (.invokevirtual 201, 3) := by decide +kernel
theorem dX12_order_114 : decode cX12_order 114 = .ok (.ireturn, 1) := by decide +kernel
theorem dX12_order_115 : decode cX12_order 115 = .ok (.aload_n 0, 1) := by decide +kernel
theorem dX12_order_116 : decode cX12_order 116 = .ok (.iload_n 2, 1) := by decide +kernel
theorem dX12_order_117 : decode cX12_order 117 = .ok (.iconst 1, 1) := by decide +kernel
theorem dX12_order_118 : decode cX12_order 118 = .ok (.iadd, 1) := by decide +kernel
theorem dX12_order_119 : decode cX12_order 119 = .ok (.iconst 1, 1) := by decide +kernel
theorem dX12_order_120 : decode cX12_order 120 = .ok (.bipush 99, 2) := by decide +kernel
theorem dX12_order_122 : decode cX12_order 122 = .ok (.invokevirtual 201, 3) := by decide +kernel
theorem dX12_order_125 : decode cX12_order 125 = .ok (.ireturn, 1) := by decide +kernel
theorem dX12_order_126 : decode cX12_order 126 = .ok (.aload_n 0, 1) := by decide +kernel
theorem dX12_order_127 : decode cX12_order 127 = .ok (.iload_n 2, 1) := by decide +kernel
theorem dX12_order_128 : decode cX12_order 128 = .ok (.iconst 1, 1) := by decide +kernel
theorem dX12_order_129 : decode cX12_order 129 = .ok (.iadd, 1) := by decide +kernel
theorem dX12_order_130 : decode cX12_order 130 = .ok (.iconst 2, 1) := by decide +kernel
theorem dX12_order_131 : decode cX12_order 131 = .ok (.bipush 12, 2) := by decide +kernel
theorem dX12_order_133 : decode cX12_order 133 = .ok (.invokevirtual 226, 3) := by decide +kernel
theorem dX12_order_136 : decode cX12_order 136 = .ok (.ireturn, 1) := by decide +kernel
theorem dX12_order_137 : decode cX12_order 137 = .ok (.aload_n 0, 1) := by decide +kernel
theorem dX12_order_138 : decode cX12_order 138 = .ok (.iload_n 2, 1) := by decide +kernel
theorem dX12_order_139 : decode cX12_order 139 = .ok (.iconst 1, 1) := by decide +kernel
theorem dX12_order_140 : decode cX12_order 140 = .ok (.iadd, 1) := by decide +kernel
theorem dX12_order_141 : decode cX12_order 141 = .ok (.iconst 1, 1) := by decide +kernel
theorem dX12_order_142 : decode cX12_order 142 = .ok (.iconst 4, 1) := by decide +kernel
theorem dX12_order_143 : decode cX12_order 143 = .ok (.invokevirtual 226, 3) := by decide +kernel
theorem dX12_order_146 : decode cX12_order 146 = .ok (.ireturn, 1) := by decide +kernel
theorem dX12_order_147 : decode cX12_order 147 = .ok (.aload_n 0, 1) := by decide +kernel
theorem dX12_order_148 : decode cX12_order 148 = .ok (.iload_n 2, 1) := by decide +kernel
theorem dX12_order_149 : decode cX12_order 149 = .ok (.iconst 1, 1) := by decide +kernel
theorem dX12_order_150 : decode cX12_order 150 = .ok (.iadd, 1) := by decide +kernel
theorem dX12_order_151 : decode cX12_order 151 = .ok (.iconst 1, 1) := by decide +kernel
theorem dX12_order_152 : decode cX12_order 152 = .ok (.iconst 4, 1) := by decide +kernel
theorem dX12_order_153 : decode cX12_order 153 = .ok (.invokevirtual 226, 3) := by decide +kernel
theorem dX12_order_156 : decode cX12_order 156 = .ok (.ifCond .eq 20, 3) := by decide +kernel
theorem dX12_order_159 : decode cX12_order 159 = .ok (.aload_n 0, 1) := by decide +kernel
theorem dX12_order_160 : decode cX12_order 160 = .ok (.iload_n 2, 1) := by decide +kernel
theorem dX12_order_161 : decode cX12_order 161 = .ok (.iconst 2, 1) := by decide +kernel
theorem dX12_order_162 : decode cX12_order 162 = .ok (.iadd, 1) := by decide +kernel
theorem dX12_order_163 : decode cX12_order 163 = .ok (.iconst 1, 1) := by decide +kernel
theorem dX12_order_164 : decode cX12_order 164 = .ok (.bipush 99, 2) := by decide +kernel
theorem dX12_order_166 : decode cX12_order 166 = .ok (.invokevirtual 201, 3) := by decide +kernel
theorem dX12_order_169 : decode cX12_order 169 = .ok (.ifCond .eq 7, 3) := by decide +kernel
theorem dX12_order_172 : decode cX12_order 172 = .ok (.iconst 1, 1) := by decide +kernel
theorem dX12_order_173 : decode cX12_order 173 = .ok (.goto 4, 3) := by decide +kernel
theorem dX12_order_176 : decode cX12_order 176 = .ok (.iconst 0, 1) := by decide +kernel
theorem dX12_order_177 : decode cX12_order 177 = .ok (.ireturn, 1) := by decide +kernel
theorem dX12_order_178 : decode cX12_order 178 = .ok (.aload_n 0, 1) := by decide +kernel
theorem dX12_order_179 : decode cX12_order 179 = .ok (.iload_n 2, 1) := by decide +kernel
theorem dX12_order_180 : decode cX12_order 180 = .ok (.invokevirtual 229, 3) := by decide +kernel
theorem dX12_order_183 : decode cX12_order 183 = .ok (.ireturn, 1) := by decide +kernel
theorem dX12_order_184 : decode cX12_order 184 = .ok (.iconst 1, 1) := by decide +kernel
theorem dX12_order_185 : decode cX12_order 185 = .ok (.ireturn, 1) := by decide +kernel
theorem dX12_step_0 : decode cX12_step 0 = .ok (.aload_n 0, 1) := by decide +kernel
theorem dX12_step_1 : decode cX12_step 1 = .ok (.ldc 180, 2) := by decide +kernel
theorem dX12_step_3 : decode cX12_step 3 = .ok (.invokevirtual 169, 3) := by decide +kernel
theorem dX12_step_6 : decode cX12_step 6 = .ok (.istore_n 1, 1) := by decide +kernel
theorem dX12_step_7 : decode cX12_step 7 = .ok (.aload_n 0, 1) := by decide +kernel
theorem dX12_step_8 : decode cX12_step 8 = .ok (.getfield 7, 3) := by decide +kernel
theorem dX12_step_11 : decode cX12_step 11 = .ok (.sipush 1966, 3) := by decide +kernel
theorem dX12_step_14 : decode cX12_step 14 = .ok (.iaload, 1) := by decide +kernel
theorem dX12_step_15 : decode cX12_step 15 = .ok (.istore_n 2, 1) := by decide +kernel
theorem dX12_step_16 : decode cX12_step 16 = .ok (.sipush 2080, 3) := by decide +kernel
theorem dX12_step_19 : decode cX12_step 19 = .ok (.bipush 6, 2) := by decide +kernel
theorem dX12_step_21 : decode cX12_step 21 = .ok (.iload_n 2, 1) := by decide +kernel
theorem dX12_step_22 : decode cX12_step 22 = .ok (.imul, 1) := by decide +kernel
theorem dX12_step_23 : decode cX12_step 23 = .ok (.iadd, 1) := by decide +kernel
theorem dX12_step_24 : decode cX12_step 24 = .ok (.istore_n 3, 1) := by decide +kernel
theorem dX12_step_25 : decode cX12_step 25 = .ok (.iload_n 1, 1) := by decide +kernel
theorem dX12_step_26 : decode cX12_step 26 = .ok (.bipush 18, 2) := by decide +kernel
theorem dX12_step_28 : decode cX12_step 28 = .ok (.if_icmp .eq 9, 3) := by decide +kernel
theorem dX12_step_31 : decode cX12_step 31 = .ok (.iload_n 1, 1) := by decide +kernel
theorem dX12_step_32 : decode cX12_step 32 = .ok (.bipush 20, 2) := by decide +kernel
theorem dX12_step_34 : decode cX12_step 34 = .ok (.if_icmp .ne 7, 3) := by decide +kernel
theorem dX12_step_37 : decode cX12_step 37 = .ok (.iconst 1, 1) := by decide +kernel
theorem dX12_step_38 : decode cX12_step 38 = .ok (.goto 4, 3) := by decide +kernel
theorem dX12_step_41 : decode cX12_step 41 = .ok (.iconst 0, 1) := by decide +kernel
theorem dX12_step_42 : decode cX12_step 42 = .ok (.istore 4, 2) := by decide +kernel
theorem dX12_step_44 : decode cX12_step 44 = .ok (.iload_n 1, 1) := by decide +kernel
theorem dX12_step_45 : decode cX12_step 45 = .ok (.bipush 10, 2) := by decide +kernel
theorem dX12_step_47 : decode cX12_step 47 = .ok (.if_icmp .lt 9, 3) := by decide +kernel
theorem dX12_step_50 : decode cX12_step 50 = .ok (.iload_n 1, 1) := by decide +kernel
theorem dX12_step_51 : decode cX12_step 51 = .ok (.bipush 18, 2) := by decide +kernel
theorem dX12_step_53 : decode cX12_step 53 = .ok (.if_icmp .le 15, 3) := by decide +kernel
theorem dX12_step_56 : decode cX12_step 56 = .ok (.iload_n 1, 1) := by decide +kernel
theorem dX12_step_57 : decode cX12_step 57 = .ok (.bipush 20, 2) := by decide +kernel
theorem dX12_step_59 : decode cX12_step 59 = .ok (.if_icmp .eq 9, 3) := by decide +kernel
theorem dX12_step_62 : decode cX12_step 62 = .ok (.iload_n 1, 1) := by decide +kernel
theorem dX12_step_63 : decode cX12_step 63 = .ok (.bipush 22, 2) := by decide +kernel
theorem dX12_step_65 : decode cX12_step 65 = .ok (.if_icmp .ne 7, 3) := by decide +kernel
theorem dX12_step_68 : decode cX12_step 68 = .ok (.iconst 1, 1) := by decide +kernel
theorem dX12_step_69 : decode cX12_step 69 = .ok (.goto 4, 3) := by decide +kernel
theorem dX12_step_72 : decode cX12_step 72 = .ok (.iconst 0, 1) := by decide +kernel
theorem dX12_step_73 : decode cX12_step 73 = .ok (.istore 5, 2) := by decide +kernel
theorem dX12_step_75 : decode cX12_step 75 = .ok (.iload 5, 2) := by decide +kernel
theorem dX12_step_77 : decode cX12_step 77 = .ok (.ifCond .ne 22, 3) := by decide +kernel
theorem dX12_step_80 : decode cX12_step 80 = .ok (.iload_n 1, 1) := by decide +kernel
theorem dX12_step_81 : decode cX12_step 81 = .ok (.bipush 21, 2) := by decide +kernel
theorem dX12_step_83 : decode cX12_step 83 = .ok (.if_icmp .ne 10, 3) := by decide +kernel
theorem dX12_step_86 : decode cX12_step 86 = .ok (.aload_n 0, 1) := by decide +kernel
theorem dX12_step_87 : decode cX12_step 87 = .ok (.getfield 232, 3) := by decide +kernel
theorem dX12_step_90 : decode cX12_step 90 = .ok (.ifCond .ne 9, 3) := by decide +kernel
theorem dX12_step_93 : decode cX12_step 93 = .ok (.aload_n 0, 1) := by decide +kernel
theorem dX12_step_94 : decode cX12_step 94 = .ok (.iconst 2, 1) := by decide +kernel
theorem dX12_step_95 : decode cX12_step 95 = .ok (.invokevirtual 166, 3) := by decide +kernel
theorem dX12_step_98 : decode cX12_step 98 = .ok (.ireturn, 1) := by decide +kernel
theorem dX12_step_99 : decode cX12_step 99 = .ok (.iload_n 1, 1) := by decide +kernel
theorem dX12_step_100 : decode cX12_step 100 = .ok (.bipush 21, 2) := by decide +kernel
theorem dX12_step_102 : decode cX12_step 102 = .ok (.if_icmp .eq 19, 3) := by decide +kernel
theorem dX12_step_105 : decode cX12_step 105 = .ok (.aload_n 0, 1) := by decide +kernel
theorem dX12_step_106 : decode cX12_step 106 = .ok (.getfield 235, 3) := by decide +kernel
theorem dX12_step_109 : decode cX12_step 109 = .ok (.bipush 30, 2) := by decide +kernel
theorem dX12_step_111 : decode cX12_step 111 = .ok (.if_icmp .ne 10, 3) := by decide +kernel
theorem dX12_step_114 : decode cX12_step 114 = .ok (.aload_n 0, 1) := by decide +kernel
theorem dX12_step_115 : decode cX12_step 115 = .ok (.bipush 6, 2) := by decide +kernel
theorem dX12_step_117 : decode cX12_step 117 = .ok (.invokevirtual 166, 3) := by decide +kernel
theorem dX12_step_120 : decode cX12_step 120 = .ok (.ireturn, 1) := by decide +kernel
theorem dX12_step_121 : decode cX12_step 121 = .ok (.iload 4, 2) := by decide +kernel
theorem dX12_step_123 : decode cX12_step 123 = .ok (.ifCond .eq 18, 3) := by decide +kernel
theorem dX12_step_126 : decode cX12_step 126 = .ok (.aload_n 0, 1) := by decide +kernel
theorem dX12_step_127 : decode cX12_step 127 = .ok (.getfield 232, 3) := by decide +kernel
theorem dX12_step_130 : decode cX12_step 130 = .ok (.iconst 3, 1) := by decide +kernel
theorem dX12_step_131 : decode cX12_step 131 = .ok (.if_icmp .ne 10, 3) := by decide +kernel
theorem dX12_step_134 : decode cX12_step 134 = .ok (.aload_n 0, 1) := by decide +kernel
theorem dX12_step_135 : decode cX12_step 135 = .ok (.bipush 7, 2) := by decide +kernel
theorem dX12_step_137 : decode cX12_step 137 = .ok (.invokevirtual 166, 3) := by decide +kernel
theorem dX12_step_140 : decode cX12_step 140 = .ok (.ireturn, 1) := by decide +kernel
theorem dX12_step_141 : decode cX12_step 141 = .ok (.aload_n 0, 1) := by decide +kernel
theorem dX12_step_142 : decode cX12_step 142 = .ok (.dup, 1) := by decide +kernel
theorem dX12_step_143 : decode cX12_step 143 = .ok (.getfield 235, 3) := by decide +kernel
theorem dX12_step_146 : decode cX12_step 146 = .ok (.iload_n 1, 1) := by decide +kernel
theorem dX12_step_147 : decode cX12_step 147 = .ok (.bipush 21, 2) := by decide +kernel
theorem dX12_step_149 : decode cX12_step 149 = .ok (.if_icmp .ne 7, 3) := by decide +kernel
theorem dX12_step_152 : decode cX12_step 152 = .ok (.iconst 0, 1) := by decide +kernel
theorem dX12_step_153 : decode cX12_step 153 = .ok (.goto 4, 3) := by decide +kernel
theorem dX12_step_156 : decode cX12_step 156 = .ok (.iconst 1, 1) := by decide +kernel
theorem dX12_step_157 : decode cX12_step 157 = .ok (.iadd, 1) := by decide +kernel
theorem dX12_step_158 : decode cX12_step 158 = .ok (.putfield 235, 3) := by decide +kernel
theorem dX12_step_161 : decode cX12_step 161 = .ok (.aload_n 0, 1) := by decide +kernel
theorem dX12_step_162 : decode cX12_step 162 = .ok (.getfield 7, 3) := by decide +kernel
theorem dX12_step_165 : decode cX12_step 165 = .ok (.iload_n 3, 1) := by decide +kernel
theorem dX12_step_166 : decode cX12_step 166 = .ok (.iload_n 1, 1) := by decide +kernel
theorem dX12_step_167 : decode cX12_step 167 = .ok (.iastore, 1) := by decide +kernel
theorem dX12_step_168 : decode cX12_step 168 = .ok (.iconst 1, 1) := by decide +kernel
theorem dX12_step_169 : decode cX12_step 169 = .ok (.istore 6, 2) := by decide +kernel
theorem dX12_step_171 : decode cX12_step 171 = .ok (.iload 6, 2) := by decide +kernel
theorem dX12_step_173 : decode cX12_step 173 = .ok (.bipush 6, 2) := by decide +kernel
theorem dX12_step_175 : decode cX12_step 175 = .ok (.if_icmp .ge 19, 3) := by decide +kernel
theorem dX12_step_178 : decode cX12_step 178 = .ok (.aload_n 0, 1) := by decide +kernel
theorem dX12_step_179 : decode cX12_step 179 = .ok (.getfield 7, 3) := by decide +kernel
theorem dX12_step_182 : decode cX12_step 182 = .ok (.iload_n 3, 1) := by decide +kernel
theorem dX12_step_183 : decode cX12_step 183 = .ok (.iload 6, 2) := by decide +kernel
theorem dX12_step_185 : decode cX12_step 185 = .ok (.iadd, 1) := by decide +kernel
theorem dX12_step_186 : decode cX12_step 186 = .ok (.iconst 0, 1) := by decide +kernel
theorem dX12_step_187 : decode cX12_step 187 = .ok (.iastore, 1) := by decide +kernel
theorem dX12_step_188 : decode cX12_step 188 = .ok (.iinc 6 1, 3) := by decide +kernel
theorem dX12_step_191 : decode cX12_step 191 = .ok (.goto (-20), 3) := by decide +kernel
theorem dX12_step_194 : decode cX12_step 194 = .ok (.aload_n 0, 1) := by decide +kernel
theorem dX12_step_195 : decode cX12_step 195 = .ok (.getfield 7, 3) := by decide +kernel
theorem dX12_step_198 : decode cX12_step 198 = .ok (.sipush 1966, 3) := by decide +kernel
theorem dX12_step_201 : decode cX12_step 201 = .ok (.dup2, 1) := by decide +kernel
theorem dX12_step_202 : decode cX12_step 202 = .ok (.iaload, 1) := by decide +kernel
theorem dX12_step_203 : decode cX12_step 203 = .ok (.iconst 1, 1) := by decide +kernel
theorem dX12_step_204 : decode cX12_step 204 = .ok (.iadd, 1) := by decide +kernel
theorem dX12_step_205 : decode cX12_step 205 = .ok (.iastore, 1) := by decide +kernel
theorem dX12_step_206 : decode cX12_step 206 = .ok (.aload_n 0, 1) := by decide +kernel
theorem dX12_step_207 : decode cX12_step 207 = .ok (.invokevirtual 160, 3) := by decide +kernel
theorem dX12_step_210 : decode cX12_step 210 = .ok (.aload_n 0, 1) := by decide +kernel
theorem dX12_step_211 : decode cX12_step 211 = .ok (.iload_n 1, 1) := by decide +kernel
theorem dX12_step_212 : decode cX12_step 212 = .ok (.iload_n 3, 1) := by decide +kernel
theorem dX12_step_213 : decode cX12_step 213 = .ok (.invokevirtual 238, 3) := by decide +kernel
theorem dX12_step_216 : decode cX12_step 216 = .ok (.ifCond .ne 5, 3) := by decide +kernel
theorem dX12_step_219 : decode cX12_step 219 = .ok (.iconst 0, 1) := by decide +kernel
theorem dX12_step_220 : decode cX12_step 220 = .ok (.ireturn, 1) := by decide +kernel
theorem dX12_step_221 : decode cX12_step 221 = .ok (.iload 4, 2) := by decide +kernel
theorem dX12_step_223 : decode cX12_step 223 = .ok (.ifCond .eq 23, 3) := by decide +kernel
theorem dX12_step_226 : decode cX12_step 226 = .ok (.aload_n 0, 1) := by decide +kernel
theorem dX12_step_227 : decode cX12_step 227 = .ok (.getfield 44, 3) := by decide +kernel
theorem dX12_step_230 : decode cX12_step 230 = .ok (.aload_n 0, 1) := by decide +kernel
theorem dX12_step_231 : decode cX12_step 231 = .ok (.getfield 232, 3) := by decide +kernel
theorem dX12_step_234 : decode cX12_step 234 = .ok (.iload_n 2, 1) := by decide +kernel
theorem dX12_step_235 : decode cX12_step 235 = .ok (.iastore, 1) := by decide +kernel
theorem dX12_step_236 : decode cX12_step 236 = .ok (.aload_n 0, 1) := by decide +kernel
theorem dX12_step_237 : decode cX12_step 237 = .ok (.dup, 1) := by decide +kernel
theorem dX12_step_238 : decode cX12_step 238 = .ok (.getfield 232, 3) := by decide +kernel
theorem dX12_step_241 : decode cX12_step 241 = .ok (.iconst 1, 1) := by decide +kernel
theorem dX12_step_242 : decode cX12_step 242 = .ok (.iadd, 1) := by decide +kernel
theorem dX12_step_243 : decode cX12_step 243 = .ok (.putfield 232, 3) := by decide +kernel
theorem dX12_step_246 : decode cX12_step 246 = .ok (.iload_n 1, 1) := by decide +kernel
theorem dX12_step_247 : decode cX12_step 247 = .ok (.bipush 21, 2) := by decide +kernel
theorem dX12_step_249 : decode cX12_step 249 = .ok (.if_icmp .ne 54, 3) := by decide +kernel
theorem dX12_step_252 : decode cX12_step 252 = .ok (.aload_n 0, 1) := by decide +kernel
theorem dX12_step_253 : decode cX12_step 253 = .ok (.dup, 1) := by decide +kernel
theorem dX12_step_254 : decode cX12_step 254 = .ok (.getfield 232, 3) := by decide +kernel
theorem dX12_step_257 : decode cX12_step 257 = .ok (.iconst 1, 1) := by decide +kernel
theorem dX12_step_258 : decode cX12_step 258 = .ok (.isub, 1) := by decide +kernel
theorem dX12_step_259 : decode cX12_step 259 = .ok (.putfield 232, 3) := by decide +kernel
theorem dX12_step_262 : decode cX12_step 262 = .ok (.aload_n 0, 1) := by decide +kernel
theorem dX12_step_263 : decode cX12_step 263 = .ok (.getfield 7, 3) := by decide +kernel
theorem dX12_step_266 : decode cX12_step 266 = .ok (.iload_n 3, 1) := by decide +kernel
theorem dX12_step_267 : decode cX12_step 267 = .ok (.iconst 4, 1) := by decide +kernel
theorem dX12_step_268 : decode cX12_step 268 = .ok (.iadd, 1) := by decide +kernel
theorem dX12_step_269 : decode cX12_step 269 = .ok (.aload_n 0, 1) := by decide +kernel
theorem dX12_step_270 : decode cX12_step 270 = .ok (.getfield 44, 3) := by decide +kernel
theorem dX12_step_273 : decode cX12_step 273 = .ok (.aload_n 0, 1) := by decide +kernel
theorem dX12_step_274 : decode cX12_step 274 = .ok (.getfield 232, 3) := by decide +kernel
theorem dX12_step_277 : decode cX12_step 277 = .ok (.iaload, 1) := by decide +kernel
theorem dX12_step_278 : decode cX12_step 278 = .ok (.iastore, 1) := by decide +kernel
theorem dX12_step_279 : decode cX12_step 279 = .ok (.aload_n 0, 1) := by decide +kernel
theorem dX12_step_280 : decode cX12_step 280 = .ok (.getfield 7, 3) := by decide +kernel
theorem dX12_step_283 : decode cX12_step 283 = .ok (.sipush 2080, 3) := by decide +kernel
theorem dX12_step_286 : decode cX12_step 286 = .ok (.bipush 6, 2) := by decide +kernel
theorem dX12_step_288 : decode cX12_step 288 = .ok (.aload_n 0, 1) := by decide +kernel
theorem dX12_step_289 : decode cX12_step 289 = .ok (.getfield 44, 3) := by decide +kernel
theorem dX12_step_292 : decode cX12_step 292 = .ok (.aload_n 0, 1) := by decide +kernel
theorem dX12_step_293 : decode cX12_step 293 = .ok (.getfield 232, 3) := by decide +kernel
theorem dX12_step_296 : decode cX12_step 296 = .ok (.iaload, 1) := by decide +kernel
theorem dX12_step_297 : decode cX12_step 297 = .ok (.imul, 1) := by decide +kernel
theorem dX12_step_298 : decode cX12_step 298 = .ok (.iadd, 1) := by decide +kernel
theorem dX12_step_299 : decode cX12_step 299 = .ok (.iconst 4, 1) := by decide +kernel
theorem dX12_step_300 : decode cX12_step 300 = .ok (.iadd, 1) := by decide +kernel
theorem dX12_step_301 : decode cX12_step 301 = .ok (.iload_n 2, 1) := by decide +kernel
theorem dX12_step_302 : decode cX12_step 302 = .ok (.iastore, 1) := by decide +kernel
theorem dX12_step_303 : decode cX12_step 303 = .ok (.aload_n 0, 1) := by decide +kernel
theorem dX12_step_304 : decode cX12_step 304 = .ok (.bipush 59, 2) := by decide +kernel
theorem dX12_step_306 : decode cX12_step 306 = .ok (.invokevirtual 213, 3) := by decide +kernel
theorem dX12_step_309 : decode cX12_step 309 = .ok (.ireturn, 1) := by decide +kernel
theorem dX12_orders_0 : decode cX12_orders 0 = .ok (.aload_n 0, 1) := by decide +kernel
theorem dX12_orders_1 : decode cX12_orders 1 = .ok (.iload_n 1, 1) := by decide +kernel
theorem dX12_orders_2 : decode cX12_orders 2 = .ok (.sipush 300, 3) := by decide +kernel
theorem dX12_orders_5 : decode cX12_orders 5 = .ok (.invokevirtual 216, 3) := by decide +kernel
theorem dX12_orders_8 : decode cX12_orders 8 = .ok (.ifCond .ne 9, 3) := by decide +kernel
theorem dX12_orders_11 : decode cX12_orders 11 = .ok (.aload_n 0, 1) := by decide +kernel
theorem dX12_orders_12 : decode cX12_orders 12 = .ok (.iconst 1, 1) := by decide +kernel
theorem dX12_orders_13 : decode cX12_orders 13 = .ok (.invokevirtual 83, 3) := by decide +kernel
theorem dX12_orders_16 : decode cX12_orders 16 = .ok (.ireturn, 1) := by decide +kernel
theorem dX12_orders_17 : decode cX12_orders 17 = .ok (.aload_n 0, 1) := by decide +kernel
theorem dX12_orders_18 : decode cX12_orders 18 = .ok (.getfield 7, 3) := by decide +kernel
theorem dX12_orders_21 : decode cX12_orders 21 = .ok (.sipush 1966, 3) := by decide +kernel
theorem dX12_orders_24 : decode cX12_orders 24 = .ok (.iconst 0, 1) := by decide +kernel
theorem dX12_orders_25 : decode cX12_orders 25 = .ok (.iastore, 1) := by decide +kernel
theorem dX12_orders_26 : decode cX12_orders 26 = .ok (.aload_n 0, 1) := by decide +kernel
theorem dX12_orders_27 : decode cX12_orders 27 = .ok (.iconst 0, 1) := by decide +kernel
theorem dX12_orders_28 : decode cX12_orders 28 = .ok (.putfield 232, 3) := by decide +kernel
theorem dX12_orders_31 : decode cX12_orders 31 = .ok (.aload_n 0, 1) := by decide +kernel
theorem dX12_orders_32 : decode cX12_orders 32 = .ok (.iconst 0, 1) := by decide +kernel
theorem dX12_orders_33 : decode cX12_orders 33 = .ok (.putfield 235, 3) := by decide +kernel
theorem dX12_orders_36 : decode cX12_orders 36 = .ok (.iconst 1, 1) := by decide +kernel
theorem dX12_orders_37 : decode cX12_orders 37 = .ok (.istore_n 2, 1) := by decide +kernel
theorem dX12_orders_38 : decode cX12_orders 38 = .ok (.iload_n 2, 1) := by decide +kernel
theorem dX12_orders_39 : decode cX12_orders 39 = .ok (.ifCond .eq 18, 3) := by decide +kernel
theorem dX12_orders_42 : decode cX12_orders 42 = .ok (.aload_n 0, 1) := by decide +kernel
theorem dX12_orders_43 : decode cX12_orders 43 = .ok (.getfield 129, 3) := by decide +kernel
theorem dX12_orders_46 : decode cX12_orders 46 = .ok (.ifCond .eq 11, 3) := by decide +kernel
theorem dX12_orders_49 : decode cX12_orders 49 = .ok (.aload_n 0, 1) := by decide +kernel
theorem dX12_orders_50 : decode cX12_orders 50 = .ok (.invokevirtual 240, 3) := by decide +kernel
theorem dX12_orders_53 : decode cX12_orders 53 = .ok (.istore_n 2, 1) := by decide +kernel
theorem dX12_orders_54 : decode cX12_orders 54 = .ok (.goto (-16), 3) := by decide +kernel
theorem dX12_orders_57 : decode cX12_orders 57 = .ok (.aload_n 0, 1) := by decide +kernel
theorem dX12_orders_58 : decode cX12_orders 58 = .ok (.getfield 154, 3) := by decide +kernel
theorem dX12_orders_61 : decode cX12_orders 61 = .ok (.ifCond .ne 16, 3) := by decide +kernel
theorem dX12_orders_64 : decode cX12_orders 64 = .ok (.aload_n 0, 1) := by decide +kernel
theorem dX12_orders_65 : decode cX12_orders 65 = .ok (.getfield 232, 3) := by decide +kernel
theorem dX12_orders_68 : decode cX12_orders 68 = .ok (.ifCond .le 9, 3) := by decide +kernel
theorem dX12_orders_71 : decode cX12_orders 71 = .ok (.aload_n 0, 1) := by decide +kernel
theorem dX12_orders_72 : decode cX12_orders 72 = .ok (.iconst 2, 1) := by decide +kernel
theorem dX12_orders_73 : decode cX12_orders 73 = .ok (.invokevirtual 166, 3) := by decide +kernel
theorem dX12_orders_76 : decode cX12_orders 76 = .ok (.pop, 1) := by decide +kernel
theorem dX12_orders_77 : decode cX12_orders 77 = .ok (.aload_n 0, 1) := by decide +kernel
theorem dX12_orders_78 : decode cX12_orders 78 = .ok (.getfield 154, 3) := by decide +kernel
theorem dX12_orders_81 : decode cX12_orders 81 = .ok (.ifCond .ne 50, 3) := by decide +kernel
theorem dX12_orders_84 : decode cX12_orders 84 = .ok (.aload_n 0, 1) := by decide +kernel
theorem dX12_orders_85 : decode cX12_orders 85 = .ok (.getfield 7, 3) := by decide +kernel
theorem dX12_orders_88 : decode cX12_orders 88 = .ok (.bipush 6, 2) := by decide +kernel
theorem dX12_orders_90 : decode cX12_orders 90 = .ok (.aload_n 0, 1) := by decide +kernel
theorem dX12_orders_91 : decode cX12_orders 91 = .ok (.getfield 7, 3) := by decide +kernel
theorem dX12_orders_94 : decode cX12_orders 94 = .ok (.sipush 1966, 3) := by decide +kernel
theorem dX12_orders_97 : decode cX12_orders 97 = .ok (.iaload, 1) := by decide +kernel
theorem dX12_orders_98 : decode cX12_orders 98 = .ok (.iastore, 1) := by decide +kernel
theorem dX12_orders_99 : decode cX12_orders 99 = .ok (.bipush 120, 2) := by decide +kernel
theorem dX12_orders_101 : decode cX12_orders 101 = .ok (.istore_n 3, 1) := by decide +kernel
theorem dX12_orders_102 : decode cX12_orders 102 = .ok (.iload_n 3, 1) := by decide +kernel
theorem dX12_orders_103 : decode cX12_orders 103 = .ok (.sipush 490, 3) := by decide +kernel
theorem dX12_orders_106 : decode cX12_orders 106 = .ok (.if_icmp .ge 25, 3) := by decide +kernel
theorem dX12_orders_109 : decode cX12_orders 109 = .ok (.aload_n 0, 1) := by decide +kernel
theorem dX12_orders_110 : decode cX12_orders 110 = .ok (.getfield 7, 3) := by decide +kernel
theorem dX12_orders_113 : decode cX12_orders 113 = .ok (.iload_n 3, 1) := by decide +kernel
theorem dX12_orders_114 : decode cX12_orders 114 = .ok (.aload_n 0, 1) := by decide +kernel
theorem dX12_orders_115 : decode cX12_orders 115 = .ok (.getfield 7, 3) := by decide +kernel
theorem dX12_orders_118 : decode cX12_orders 118 = .ok (.sipush 1960, 3) := by decide +kernel
theorem dX12_orders_121 : decode cX12_orders 121 = .ok (.iload_n 3, 1) := by decide +kernel
theorem dX12_orders_122 : decode cX12_orders 122 = .ok (.iadd, 1) := by decide +kernel
theorem dX12_orders_123 : decode cX12_orders 123 = .ok (.iaload, 1) := by decide +kernel
theorem dX12_orders_124 : decode cX12_orders 124 = .ok (.iastore, 1) := by decide +kernel
theorem dX12_orders_125 : decode cX12_orders 125 = .ok (.iinc 3 1, 3) := by decide +kernel
theorem dX12_orders_128 : decode cX12_orders 128 = .ok (.goto (-26), 3) := by decide +kernel
theorem dX12_orders_131 : decode cX12_orders 131 = .ok (.aload_n 0, 1) := by decide +kernel
theorem dX12_orders_132 : decode cX12_orders 132 = .ok (.aload_n 0, 1) := by decide +kernel
theorem dX12_orders_133 : decode cX12_orders 133 = .ok (.getfield 235, 3) := by decide +kernel
theorem dX12_orders_136 : decode cX12_orders 136 = .ok (.invokevirtual 223, 3) := by decide +kernel
theorem dX12_orders_139 : decode cX12_orders 139 = .ok (.ireturn, 1) := by decide +kernel
theorem dX12_isPlace_0 : decode cX12_isPlace 0 = .ok (.iload_n 1, 1) := by decide +kernel
theorem dX12_isPlace_1 : decode cX12_isPlace 1 = .ok (.ifCond .lt 17, 3) := by decide +kernel
theorem dX12_isPlace_4 : decode cX12_isPlace 4 = .ok (.iload_n 1, 1) := by decide +kernel
theorem dX12_isPlace_5 : decode cX12_isPlace 5 = .ok (.aload_n 0, 1) := by decide +kernel
theorem dX12_isPlace_6 : decode cX12_isPlace 6 = .ok (.getfield 7, 3) := by decide +kernel
theorem dX12_isPlace_9 : decode cX12_isPlace 9 = .ok (.iconst 0, 1) := by decide +kernel
theorem dX12_isPlace_10 : decode cX12_isPlace 10 = .ok (.iaload, 1) := by decide +kernel
theorem dX12_isPlace_11 : decode cX12_isPlace 11 = .ok (.if_icmp .ge 7, 3) := by decide +kernel
theorem dX12_isPlace_14 : decode cX12_isPlace 14 = .ok (.iconst 1, 1) := by decide +kernel
theorem dX12_isPlace_15 : decode cX12_isPlace 15 = .ok (.goto 4, 3) := by decide +kernel
theorem dX12_isPlace_18 : decode cX12_isPlace 18 = .ok (.iconst 0, 1) := by decide +kernel
theorem dX12_isPlace_19 : decode cX12_isPlace 19 = .ok (.ireturn, 1) := by decide +kernel
theorem dX12_isVane_0 : decode cX12_isVane 0 = .ok (.iload_n 1, 1) := by decide +kernel
theorem dX12_isVane_1 : decode cX12_isVane 1 = .ok (.ifCond .lt 17, 3) := by decide +kernel
theorem dX12_isVane_4 : decode cX12_isVane 4 = .ok (.iload_n 1, 1) := by decide +kernel
theorem dX12_isVane_5 : decode cX12_isVane 5 = .ok (.aload_n 0, 1) := by decide +kernel
theorem dX12_isVane_6 : decode cX12_isVane 6 = .ok (.getfield 7, 3) := by decide +kernel
theorem dX12_isVane_9 : decode cX12_isVane 9 = .ok (.iconst 1, 1) := by decide +kernel
theorem dX12_isVane_10 : decode cX12_isVane 10 = .ok (.iaload, 1) := by decide +kernel
theorem dX12_isVane_11 : decode cX12_isVane 11 = .ok (.if_icmp .ge 7, 3) := by decide +kernel
theorem dX12_isVane_14 : decode cX12_isVane 14 = .ok (.iconst 1, 1) := by decide +kernel
theorem dX12_isVane_15 : decode cX12_isVane 15 = .ok (.goto 4, 3) := by decide +kernel
theorem dX12_isVane_18 : decode cX12_isVane 18 = .ok (.iconst 0, 1) := by decide +kernel
theorem dX12_isVane_19 : decode cX12_isVane 19 = .ok (.ireturn, 1) := by decide +kernel
theorem dX12_isShaft_0 : decode cX12_isShaft 0 = .ok (.iload_n 1, 1) := by decide +kernel
theorem dX12_isShaft_1 : decode cX12_isShaft 1 = .ok (.ifCond .lt 17, 3) := by decide +kernel
theorem dX12_isShaft_4 : decode cX12_isShaft 4 = .ok (.iload_n 1, 1) := by decide +kernel
theorem dX12_isShaft_5 : decode cX12_isShaft 5 = .ok (.aload_n 0, 1) := by decide +kernel
theorem dX12_isShaft_6 : decode cX12_isShaft 6 = .ok (.getfield 7, 3) := by decide +kernel
theorem dX12_isShaft_9 : decode cX12_isShaft 9 = .ok (.iconst 2, 1) := by decide +kernel
theorem dX12_isShaft_10 : decode cX12_isShaft 10 = .ok (.iaload, 1) := by decide +kernel
theorem dX12_isShaft_11 : decode cX12_isShaft 11 = .ok (.if_icmp .ge 7, 3) := by decide +kernel
theorem dX12_isShaft_14 : decode cX12_isShaft 14 = .ok (.iconst 1, 1) := by decide +kernel
theorem dX12_isShaft_15 : decode cX12_isShaft 15 = .ok (.goto 4, 3) := by decide +kernel
theorem dX12_isShaft_18 : decode cX12_isShaft 18 = .ok (.iconst 0, 1) := by decide +kernel
theorem dX12_isShaft_19 : decode cX12_isShaft 19 = .ok (.ireturn, 1) := by decide +kernel
theorem dX12_isAhead_0 : decode cX12_isAhead 0 = .ok (.iload_n 0, 1) := by decide +kernel
theorem dX12_isAhead_1 : decode cX12_isAhead 1 = .ok (.ifCond .lt 14, 3) := by decide +kernel
theorem dX12_isAhead_4 : decode cX12_isAhead 4 = .ok (.iload_n 0, 1) := by decide +kernel
theorem dX12_isAhead_5 : decode cX12_isAhead 5 = .ok (.sipush 400, 3) := by decide +kernel
theorem dX12_isAhead_8 : decode cX12_isAhead 8 = .ok (.if_icmp .gt 7, 3) := by decide +kernel
theorem dX12_isAhead_11 : decode cX12_isAhead 11 = .ok (.iconst 1, 1) := by decide +kernel
theorem dX12_isAhead_12 : decode cX12_isAhead 12 = .ok (.goto 4, 3) := by decide +kernel
theorem dX12_isAhead_15 : decode cX12_isAhead 15 = .ok (.iconst 0, 1) := by decide +kernel
theorem dX12_isAhead_16 : decode cX12_isAhead 16 = .ok (.ireturn, 1) := by decide +kernel
theorem dX12_isSpan_0 : decode cX12_isSpan 0 = .ok (.iload_n 0, 1) := by decide +kernel
theorem dX12_isSpan_1 : decode cX12_isSpan 1 = .ok (.iconst 1, 1) := by decide +kernel
theorem dX12_isSpan_2 : decode cX12_isSpan 2 = .ok (.if_icmp .lt 14, 3) := by decide +kernel
theorem dX12_isSpan_5 : decode cX12_isSpan 5 = .ok (.iload_n 0, 1) := by decide +kernel
theorem dX12_isSpan_6 : decode cX12_isSpan 6 = .ok (.sipush 400, 3) := by decide +kernel
theorem dX12_isSpan_9 : decode cX12_isSpan 9 = .ok (.if_icmp .gt 7, 3) := by decide +kernel
theorem dX12_isSpan_12 : decode cX12_isSpan 12 = .ok (.iconst 1, 1) := by decide +kernel
theorem dX12_isSpan_13 : decode cX12_isSpan 13 = .ok (.goto 4, 3) := by decide +kernel
theorem dX12_isSpan_16 : decode cX12_isSpan 16 = .ok (.iconst 0, 1) := by decide +kernel
theorem dX12_isSpan_17 : decode cX12_isSpan 17 = .ok (.ireturn, 1) := by decide +kernel
theorem dX12_vaneAt_0 : decode cX12_vaneAt 0 = .ok (.aload_n 0, 1) := by decide +kernel
theorem dX12_vaneAt_1 : decode cX12_vaneAt 1 = .ok (.getfield 7, 3) := by decide +kernel
theorem dX12_vaneAt_4 : decode cX12_vaneAt 4 = .ok (.sipush 2470, 3) := by decide +kernel
theorem dX12_vaneAt_7 : decode cX12_vaneAt 7 = .ok (.bipush 6, 2) := by decide +kernel
theorem dX12_vaneAt_9 : decode cX12_vaneAt 9 = .ok (.iload_n 1, 1) := by decide +kernel
theorem dX12_vaneAt_10 : decode cX12_vaneAt 10 = .ok (.imul, 1) := by decide +kernel
theorem dX12_vaneAt_11 : decode cX12_vaneAt 11 = .ok (.iadd, 1) := by decide +kernel
theorem dX12_vaneAt_12 : decode cX12_vaneAt 12 = .ok (.iload_n 2, 1) := by decide +kernel
theorem dX12_vaneAt_13 : decode cX12_vaneAt 13 = .ok (.iadd, 1) := by decide +kernel
theorem dX12_vaneAt_14 : decode cX12_vaneAt 14 = .ok (.iaload, 1) := by decide +kernel
theorem dX12_vaneAt_15 : decode cX12_vaneAt 15 = .ok (.ireturn, 1) := by decide +kernel
theorem dX12_shaftAt_0 : decode cX12_shaftAt 0 = .ok (.aload_n 0, 1) := by decide +kernel
theorem dX12_shaftAt_1 : decode cX12_shaftAt 1 = .ok (.getfield 7, 3) := by decide +kernel
theorem dX12_shaftAt_4 : decode cX12_shaftAt 4 = .ok (.sipush 2520, 3) := by decide +kernel
theorem dX12_shaftAt_7 : decode cX12_shaftAt 7 = .ok (.iconst 5, 1) := by decide +kernel
theorem dX12_shaftAt_8 : decode cX12_shaftAt 8 = .ok (.iload_n 1, 1) := by decide +kernel
theorem dX12_shaftAt_9 : decode cX12_shaftAt 9 = .ok (.imul, 1) := by decide +kernel
theorem dX12_shaftAt_10 : decode cX12_shaftAt 10 = .ok (.iadd, 1) := by decide +kernel
theorem dX12_shaftAt_11 : decode cX12_shaftAt 11 = .ok (.iload_n 2, 1) := by decide +kernel
theorem dX12_shaftAt_12 : decode cX12_shaftAt 12 = .ok (.iadd, 1) := by decide +kernel
theorem dX12_shaftAt_13 : decode cX12_shaftAt 13 = .ok (.iaload, 1) := by decide +kernel
theorem dX12_shaftAt_14 : decode cX12_shaftAt 14 = .ok (.ireturn, 1) := by decide +kernel
theorem dX12_begins0_0 : decode cX12_begins0 0 = .ok (.iconst 0, 1) := by decide +kernel
theorem dX12_begins0_1 : decode cX12_begins0 1 = .ok (.istore_n 1, 1) := by decide +kernel
theorem dX12_begins0_2 : decode cX12_begins0 2 = .ok (.iload_n 1, 1) := by decide +kernel
theorem dX12_begins0_3 : decode cX12_begins0 3 = .ok (.bipush 120, 2) := by decide +kernel
theorem dX12_begins0_5 : decode cX12_begins0 5 = .ok (.if_icmp .ge 25, 3) := by decide +kernel
theorem dX12_begins0_8 : decode cX12_begins0 8 = .ok (.aload_n 0, 1) := by decide +kernel
theorem dX12_begins0_9 : decode cX12_begins0 9 = .ok (.getfield 7, 3) := by decide +kernel
theorem dX12_begins0_12 : decode cX12_begins0 12 = .ok (.sipush 2450, 3) := by decide +kernel
theorem dX12_begins0_15 : decode cX12_begins0 15 = .ok (.iload_n 1, 1) := by decide +kernel
theorem dX12_begins0_16 : decode cX12_begins0 16 = .ok (.iadd, 1) := by decide +kernel
theorem dX12_begins0_17 : decode cX12_begins0 17 = .ok (.aload_n 0, 1) := by decide +kernel
theorem dX12_begins0_18 : decode cX12_begins0 18 = .ok (.getfield 7, 3) := by decide +kernel
theorem dX12_begins0_21 : decode cX12_begins0 21 = .ok (.iload_n 1, 1) := by decide +kernel
theorem dX12_begins0_22 : decode cX12_begins0 22 = .ok (.iaload, 1) := by decide +kernel
theorem dX12_begins0_23 : decode cX12_begins0 23 = .ok (.iastore, 1) := by decide +kernel
theorem dX12_begins0_24 : decode cX12_begins0 24 = .ok (.iinc 1 1, 3) := by decide +kernel
theorem dX12_begins0_27 : decode cX12_begins0 27 = .ok (.goto (-25), 3) := by decide +kernel
theorem dX12_begins0_30 : decode cX12_begins0 30 = .ok (.return_, 1) := by decide +kernel
theorem dX12_laysBack_0 : decode cX12_laysBack 0 = .ok (.iconst 0, 1) := by decide +kernel
theorem dX12_laysBack_1 : decode cX12_laysBack 1 = .ok (.istore_n 1, 1) := by decide +kernel
theorem dX12_laysBack_2 : decode cX12_laysBack 2 = .ok (.iload_n 1, 1) := by decide +kernel
theorem dX12_laysBack_3 : decode cX12_laysBack 3 = .ok (.bipush 120, 2) := by decide +kernel
theorem dX12_laysBack_5 : decode cX12_laysBack 5 = .ok (.if_icmp .ge 25, 3) := by decide +kernel
theorem dX12_laysBack_8 : decode cX12_laysBack 8 = .ok (.aload_n 0, 1) := by decide +kernel
theorem dX12_laysBack_9 : decode cX12_laysBack 9 = .ok (.getfield 7, 3) := by decide +kernel
theorem dX12_laysBack_12 : decode cX12_laysBack 12 = .ok (.iload_n 1, 1) := by decide +kernel
theorem dX12_laysBack_13 : decode cX12_laysBack 13 = .ok (.aload_n 0, 1) := by decide +kernel
theorem dX12_laysBack_14 : decode cX12_laysBack 14 = .ok (.getfield 7, 3) := by decide +kernel
theorem dX12_laysBack_17 : decode cX12_laysBack 17 = .ok (.sipush 2450, 3) := by decide +kernel
theorem dX12_laysBack_20 : decode cX12_laysBack 20 = .ok (.iload_n 1, 1) := by decide +kernel
theorem dX12_laysBack_21 : decode cX12_laysBack 21 = .ok (.iadd, 1) := by decide +kernel
theorem dX12_laysBack_22 : decode cX12_laysBack 22 = .ok (.iaload, 1) := by decide +kernel
theorem dX12_laysBack_23 : decode cX12_laysBack 23 = .ok (.iastore, 1) := by decide +kernel
theorem dX12_laysBack_24 : decode cX12_laysBack 24 = .ok (.iinc 1 1, 3) := by decide +kernel
theorem dX12_laysBack_27 : decode cX12_laysBack 27 = .ok (.goto (-25), 3) := by decide +kernel
theorem dX12_laysBack_30 : decode cX12_laysBack 30 = .ok (.return_, 1) := by decide +kernel
theorem dX12_told_0 : decode cX12_told 0 = .ok (.iload_n 1, 1) := by decide +kernel
theorem dX12_told_1 : decode cX12_told 1 = .ok (.ifCond .lt 8, 3) := by decide +kernel
theorem dX12_told_4 : decode cX12_told 4 = .ok (.iload_n 1, 1) := by decide +kernel
theorem dX12_told_5 : decode cX12_told 5 = .ok (.iconst 5, 1) := by decide +kernel
theorem dX12_told_6 : decode cX12_told 6 = .ok (.if_icmp .le 11, 3) := by decide +kernel
theorem dX12_told_9 : decode cX12_told 9 = .ok (.aload_n 0, 1) := by decide +kernel
theorem dX12_told_10 : decode cX12_told 10 = .ok (.iconst 1, 1) := by decide +kernel
theorem dX12_told_11 : decode cX12_told 11 = .ok (.invokevirtual 83, 3) := by decide +kernel
theorem dX12_told_14 : decode cX12_told 14 = .ok (.goto 13, 3) := by decide +kernel
theorem dX12_told_17 : decode cX12_told 17 = .ok (.aload_n 0, 1) := by decide +kernel
theorem dX12_told_18 : decode cX12_told 18 = .ok (.aload_n 0, 1) := by decide +kernel
theorem dX12_told_19 : decode cX12_told 19 = .ok (.getfield 7, 3) := by decide +kernel
theorem dX12_told_22 : decode cX12_told 22 = .ok (.iload_n 1, 1) := by decide +kernel
theorem dX12_told_23 : decode cX12_told 23 = .ok (.iaload, 1) := by decide +kernel
theorem dX12_told_24 : decode cX12_told 24 = .ok (.invokevirtual 87, 3) := by decide +kernel
theorem dX12_told_27 : decode cX12_told 27 = .ok (.ireturn, 1) := by decide +kernel
theorem dX12_vane_0 : decode cX12_vane 0 = .ok (.aload_n 0, 1) := by decide +kernel
theorem dX12_vane_1 : decode cX12_vane 1 = .ok (.iload_n 1, 1) := by decide +kernel
theorem dX12_vane_2 : decode cX12_vane 2 = .ok (.invokevirtual 243, 3) := by decide +kernel
theorem dX12_vane_5 : decode cX12_vane 5 = .ok (.ifCond .eq 33, 3) := by decide +kernel
theorem dX12_vane_8 : decode cX12_vane 8 = .ok (.iload_n 2, 1) := by decide +kernel
theorem dX12_vane_9 : decode cX12_vane 9 = .ok (.ifCond .lt 29, 3) := by decide +kernel
theorem dX12_vane_12 : decode cX12_vane 12 = .ok (.iload_n 2, 1) := by decide +kernel
theorem dX12_vane_13 : decode cX12_vane 13 = .ok (.iconst 5, 1) := by decide +kernel
theorem dX12_vane_14 : decode cX12_vane 14 = .ok (.if_icmp .gt 24, 3) := by decide +kernel
theorem dX12_vane_17 : decode cX12_vane 17 = .ok (.aload_n 0, 1) := by decide +kernel
theorem dX12_vane_18 : decode cX12_vane 18 = .ok (.aload_n 0, 1) := by decide +kernel
theorem dX12_vane_19 : decode cX12_vane 19 = .ok (.getfield 7, 3) := by decide +kernel
theorem dX12_vane_22 : decode cX12_vane 22 = .ok (.bipush 20, 2) := by decide +kernel
theorem dX12_vane_24 : decode cX12_vane 24 = .ok (.bipush 6, 2) := by decide +kernel
theorem dX12_vane_26 : decode cX12_vane 26 = .ok (.iload_n 1, 1) := by decide +kernel
theorem dX12_vane_27 : decode cX12_vane 27 = .ok (.imul, 1) := by decide +kernel
theorem dX12_vane_28 : decode cX12_vane 28 = .ok (.iadd, 1) := by decide +kernel
theorem dX12_vane_29 : decode cX12_vane 29 = .ok (.iload_n 2, 1) := by decide +kernel
theorem dX12_vane_30 : decode cX12_vane 30 = .ok (.iadd, 1) := by decide +kernel
theorem dX12_vane_31 : decode cX12_vane 31 = .ok (.iaload, 1) := by decide +kernel
theorem dX12_vane_32 : decode cX12_vane 32 = .ok (.invokevirtual 87, 3) := by decide +kernel
theorem dX12_vane_35 : decode cX12_vane 35 = .ok (.goto 8, 3) := by decide +kernel
theorem dX12_vane_38 : decode cX12_vane 38 = .ok (.aload_n 0, 1) := by decide +kernel
theorem dX12_vane_39 : decode cX12_vane 39 = .ok (.iconst 1, 1) := by decide +kernel
theorem dX12_vane_40 : decode cX12_vane 40 = .ok (.invokevirtual 83, 3) := by decide +kernel
theorem dX12_vane_43 : decode cX12_vane 43 = .ok (.ireturn, 1) := by decide +kernel
theorem dX12_shaft_0 : decode cX12_shaft 0 = .ok (.aload_n 0, 1) := by decide +kernel
theorem dX12_shaft_1 : decode cX12_shaft 1 = .ok (.iload_n 1, 1) := by decide +kernel
theorem dX12_shaft_2 : decode cX12_shaft 2 = .ok (.invokevirtual 246, 3) := by decide +kernel
theorem dX12_shaft_5 : decode cX12_shaft 5 = .ok (.ifCond .eq 32, 3) := by decide +kernel
theorem dX12_shaft_8 : decode cX12_shaft 8 = .ok (.iload_n 2, 1) := by decide +kernel
theorem dX12_shaft_9 : decode cX12_shaft 9 = .ok (.ifCond .lt 28, 3) := by decide +kernel
theorem dX12_shaft_12 : decode cX12_shaft 12 = .ok (.iload_n 2, 1) := by decide +kernel
theorem dX12_shaft_13 : decode cX12_shaft 13 = .ok (.iconst 4, 1) := by decide +kernel
theorem dX12_shaft_14 : decode cX12_shaft 14 = .ok (.if_icmp .gt 23, 3) := by decide +kernel
theorem dX12_shaft_17 : decode cX12_shaft 17 = .ok (.aload_n 0, 1) := by decide +kernel
theorem dX12_shaft_18 : decode cX12_shaft 18 = .ok (.aload_n 0, 1) := by decide +kernel
theorem dX12_shaft_19 : decode cX12_shaft 19 = .ok (.getfield 7, 3) := by decide +kernel
theorem dX12_shaft_22 : decode cX12_shaft 22 = .ok (.bipush 70, 2) := by decide +kernel
theorem dX12_shaft_24 : decode cX12_shaft 24 = .ok (.iconst 5, 1) := by decide +kernel
theorem dX12_shaft_25 : decode cX12_shaft 25 = .ok (.iload_n 1, 1) := by decide +kernel
theorem dX12_shaft_26 : decode cX12_shaft 26 = .ok (.imul, 1) := by decide +kernel
theorem dX12_shaft_27 : decode cX12_shaft 27 = .ok (.iadd, 1) := by decide +kernel
theorem dX12_shaft_28 : decode cX12_shaft 28 = .ok (.iload_n 2, 1) := by decide +kernel
theorem dX12_shaft_29 : decode cX12_shaft 29 = .ok (.iadd, 1) := by decide +kernel
theorem dX12_shaft_30 : decode cX12_shaft 30 = .ok (.iaload, 1) := by decide +kernel
theorem dX12_shaft_31 : decode cX12_shaft 31 = .ok (.invokevirtual 87, 3) := by decide +kernel
theorem dX12_shaft_34 : decode cX12_shaft 34 = .ok (.goto 8, 3) := by decide +kernel
theorem dX12_shaft_37 : decode cX12_shaft 37 = .ok (.aload_n 0, 1) := by decide +kernel
theorem dX12_shaft_38 : decode cX12_shaft 38 = .ok (.iconst 1, 1) := by decide +kernel
theorem dX12_shaft_39 : decode cX12_shaft 39 = .ok (.invokevirtual 83, 3) := by decide +kernel
theorem dX12_shaft_42 : decode cX12_shaft 42 = .ok (.ireturn, 1) := by decide +kernel
theorem dX12_isCalm_0 : decode cX12_isCalm 0 = .ok (.aload_n 0, 1) := by decide +kernel
theorem dX12_isCalm_1 : decode cX12_isCalm 1 = .ok (.getfield 7, 3) := by decide +kernel
theorem dX12_isCalm_4 : decode cX12_isCalm 4 = .ok (.sipush 2460, 3) := by decide +kernel
theorem dX12_isCalm_7 : decode cX12_isCalm 7 = .ok (.iconst 2, 1) := by decide +kernel
theorem dX12_isCalm_8 : decode cX12_isCalm 8 = .ok (.aload_n 0, 1) := by decide +kernel
theorem dX12_isCalm_9 : decode cX12_isCalm 9 = .ok (.iload_n 1, 1) := by decide +kernel
theorem dX12_isCalm_10 : decode cX12_isCalm 10 = .ok (.iconst 1, 1) := by decide +kernel
theorem dX12_isCalm_11 : decode cX12_isCalm 11 = .ok (.invokevirtual 249, 3) := by decide +kernel
theorem dX12_isCalm_14 : decode cX12_isCalm 14 = .ok (.imul, 1) := by decide +kernel
theorem dX12_isCalm_15 : decode cX12_isCalm 15 = .ok (.iadd, 1) := by decide +kernel
theorem dX12_isCalm_16 : decode cX12_isCalm 16 = .ok (.iconst 1, 1) := by decide +kernel
theorem dX12_isCalm_17 : decode cX12_isCalm 17 = .ok (.iadd, 1) := by decide +kernel
theorem dX12_isCalm_18 : decode cX12_isCalm 18 = .ok (.iaload, 1) := by decide +kernel
theorem dX12_isCalm_19 : decode cX12_isCalm 19 = .ok (.ifCond .ne 7, 3) := by decide +kernel
theorem dX12_isCalm_22 : decode cX12_isCalm 22 = .ok (.iconst 1, 1) := by decide +kernel
theorem dX12_isCalm_23 : decode cX12_isCalm 23 = .ok (.goto 4, 3) := by decide +kernel
theorem dX12_isCalm_26 : decode cX12_isCalm 26 = .ok (.iconst 0, 1) := by decide +kernel
theorem dX12_isCalm_27 : decode cX12_isCalm 27 = .ok (.ireturn, 1) := by decide +kernel
theorem dX12_wantOf_0 : decode cX12_wantOf 0 = .ok (.aload_n 0, 1) := by decide +kernel
theorem dX12_wantOf_1 : decode cX12_wantOf 1 = .ok (.iload_n 1, 1) := by decide +kernel
theorem dX12_wantOf_2 : decode cX12_wantOf 2 = .ok (.iconst 0, 1) := by decide +kernel
theorem dX12_wantOf_3 : decode cX12_wantOf 3 = .ok (.invokevirtual 249, 3) := by decide +kernel
theorem dX12_wantOf_6 : decode cX12_wantOf 6 = .ok (.aload_n 0, 1) := by decide +kernel
theorem dX12_wantOf_7 : decode cX12_wantOf 7 = .ok (.getfield 7, 3) := by decide +kernel
theorem dX12_wantOf_10 : decode cX12_wantOf 10 = .ok (.sipush 2460, 3) := by decide +kernel
theorem dX12_wantOf_13 : decode cX12_wantOf 13 = .ok (.iconst 2, 1) := by decide +kernel
theorem dX12_wantOf_14 : decode cX12_wantOf 14 = .ok (.aload_n 0, 1) := by decide +kernel
theorem dX12_wantOf_15 : decode cX12_wantOf 15 = .ok (.iload_n 1, 1) := by decide +kernel
theorem dX12_wantOf_16 : decode cX12_wantOf 16 = .ok (.iconst 1, 1) := by decide +kernel
theorem dX12_wantOf_17 : decode cX12_wantOf 17 = .ok (.invokevirtual 249, 3) := by decide +kernel
theorem dX12_wantOf_20 : decode cX12_wantOf 20 = .ok (.imul, 1) := by decide +kernel
theorem dX12_wantOf_21 : decode cX12_wantOf 21 = .ok (.iadd, 1) := by decide +kernel
theorem dX12_wantOf_22 : decode cX12_wantOf 22 = .ok (.iaload, 1) := by decide +kernel
theorem dX12_wantOf_23 : decode cX12_wantOf 23 = .ok (.imul, 1) := by decide +kernel
theorem dX12_wantOf_24 : decode cX12_wantOf 24 = .ok (.bipush 8, 2) := by decide +kernel
theorem dX12_wantOf_26 : decode cX12_wantOf 26 = .ok (.iadd, 1) := by decide +kernel
theorem dX12_wantOf_27 : decode cX12_wantOf 27 = .ok (.bipush 16, 2) := by decide +kernel
theorem dX12_wantOf_29 : decode cX12_wantOf 29 = .ok (.idiv, 1) := by decide +kernel
theorem dX12_wantOf_30 : decode cX12_wantOf 30 = .ok (.aload_n 0, 1) := by decide +kernel
theorem dX12_wantOf_31 : decode cX12_wantOf 31 = .ok (.iload_n 1, 1) := by decide +kernel
theorem dX12_wantOf_32 : decode cX12_wantOf 32 = .ok (.iconst 0, 1) := by decide +kernel
theorem dX12_wantOf_33 : decode cX12_wantOf 33 = .ok (.invokevirtual 249, 3) := by decide +kernel
theorem dX12_wantOf_36 : decode cX12_wantOf 36 = .ok (.irem, 1) := by decide +kernel
theorem dX12_wantOf_37 : decode cX12_wantOf 37 = .ok (.ireturn, 1) := by decide +kernel
theorem dX12_isRight_0 : decode cX12_isRight 0 = .ok (.aload_n 0, 1) := by decide +kernel
theorem dX12_isRight_1 : decode cX12_isRight 1 = .ok (.iload_n 1, 1) := by decide +kernel
theorem dX12_isRight_2 : decode cX12_isRight 2 = .ok (.invokevirtual 252, 3) := by decide +kernel
theorem dX12_isRight_5 : decode cX12_isRight 5 = .ok (.ifCond .ne 17, 3) := by decide +kernel
theorem dX12_isRight_8 : decode cX12_isRight 8 = .ok (.aload_n 0, 1) := by decide +kernel
theorem dX12_isRight_9 : decode cX12_isRight 9 = .ok (.iload_n 1, 1) := by decide +kernel
theorem dX12_isRight_10 : decode cX12_isRight 10 = .ok (.iconst 3, 1) := by decide +kernel
theorem dX12_isRight_11 : decode cX12_isRight 11 = .ok (.invokevirtual 249, 3) := by decide +kernel
theorem dX12_isRight_14 : decode cX12_isRight 14 = .ok (.aload_n 0, 1) := by decide +kernel
theorem dX12_isRight_15 : decode cX12_isRight 15 = .ok (.iload_n 1, 1) := by decide +kernel
theorem dX12_isRight_16 : decode cX12_isRight 16 = .ok (.invokevirtual 255, 3) := by decide +kernel
theorem dX12_isRight_19 : decode cX12_isRight 19 = .ok (.if_icmp .ne 7, 3) := by decide +kernel
theorem dX12_isRight_22 : decode cX12_isRight 22 = .ok (.iconst 1, 1) := by decide +kernel
theorem dX12_isRight_23 : decode cX12_isRight 23 = .ok (.goto 4, 3) := by decide +kernel
theorem dX12_isRight_26 : decode cX12_isRight 26 = .ok (.iconst 0, 1) := by decide +kernel
theorem dX12_isRight_27 : decode cX12_isRight 27 = .ok (.ireturn, 1) := by decide +kernel
theorem dX12_rightSet_0 : decode cX12_rightSet 0 = .ok (.iconst 0, 1) := by decide +kernel
theorem dX12_rightSet_1 : decode cX12_rightSet 1 = .ok (.istore_n 1, 1) := by decide +kernel
theorem dX12_rightSet_2 : decode cX12_rightSet 2 = .ok (.iconst 0, 1) := by decide +kernel
theorem dX12_rightSet_3 : decode cX12_rightSet 3 = .ok (.istore_n 2, 1) := by decide +kernel
theorem dX12_rightSet_4 : decode cX12_rightSet 4 = .ok (.iload_n 2, 1) := by decide +kernel
theorem dX12_rightSet_5 : decode cX12_rightSet 5 = .ok (.aload_n 0, 1) := by decide +kernel
theorem dX12_rightSet_6 : decode cX12_rightSet 6 = .ok (.getfield 7, 3) := by decide +kernel
theorem dX12_rightSet_9 : decode cX12_rightSet 9 = .ok (.iconst 1, 1) := by decide +kernel
theorem dX12_rightSet_10 : decode cX12_rightSet 10 = .ok (.iaload, 1) := by decide +kernel
theorem dX12_rightSet_11 : decode cX12_rightSet 11 = .ok (.if_icmp .ge 27, 3) := by decide +kernel
theorem dX12_rightSet_14 : decode cX12_rightSet 14 = .ok (.iload_n 1, 1) := by decide +kernel
theorem dX12_rightSet_15 : decode cX12_rightSet 15 = .ok (.aload_n 0, 1) := by decide +kernel
theorem dX12_rightSet_16 : decode cX12_rightSet 16 = .ok (.iload_n 2, 1) := by decide +kernel
theorem dX12_rightSet_17 : decode cX12_rightSet 17 = .ok (.invokevirtual 258, 3) := by decide +kernel
theorem dX12_rightSet_20 : decode cX12_rightSet 20 = .ok (.ifCond .eq 9, 3) := by decide +kernel
theorem dX12_rightSet_23 : decode cX12_rightSet 23 = .ok (.iconst 1, 1) := by decide +kernel
theorem dX12_rightSet_24 : decode cX12_rightSet 24 = .ok (.iload_n 2, 1) := by decide +kernel
theorem dX12_rightSet_25 : decode cX12_rightSet 25 = .ok (.ishl, 1) := by decide +kernel
theorem dX12_rightSet_26 : decode cX12_rightSet 26 = .ok (.goto 4, 3) := by decide +kernel
theorem dX12_rightSet_29 : decode cX12_rightSet 29 = .ok (.iconst 0, 1) := by decide +kernel
theorem dX12_rightSet_30 : decode cX12_rightSet 30 = .ok (.ior, 1) := by decide +kernel
theorem dX12_rightSet_31 : decode cX12_rightSet 31 = .ok (.istore_n 1, 1) := by decide +kernel
theorem dX12_rightSet_32 : decode cX12_rightSet 32 = .ok (.iinc 2 1, 3) := by decide +kernel
theorem dX12_rightSet_35 : decode cX12_rightSet 35 = .ok (.goto (-31), 3) := by decide +kernel
theorem dX12_rightSet_38 : decode cX12_rightSet 38 = .ok (.iload_n 1, 1) := by decide +kernel
theorem dX12_rightSet_39 : decode cX12_rightSet 39 = .ok (.ireturn, 1) := by decide +kernel
theorem dX12_wants_0 : decode cX12_wants 0 = .ok (.aload_n 0, 1) := by decide +kernel
theorem dX12_wants_1 : decode cX12_wants 1 = .ok (.iload_n 1, 1) := by decide +kernel
theorem dX12_wants_2 : decode cX12_wants 2 = .ok (.invokevirtual 243, 3) := by decide +kernel
theorem dX12_wants_5 : decode cX12_wants 5 = .ok (.ifCond .ne 9, 3) := by decide +kernel
theorem dX12_wants_8 : decode cX12_wants 8 = .ok (.aload_n 0, 1) := by decide +kernel
theorem dX12_wants_9 : decode cX12_wants 9 = .ok (.iconst 1, 1) := by decide +kernel
theorem dX12_wants_10 : decode cX12_wants 10 = .ok (.invokevirtual 83, 3) := by decide +kernel
theorem dX12_wants_13 : decode cX12_wants 13 = .ok (.ireturn, 1) := by decide +kernel
theorem dX12_wants_14 : decode cX12_wants 14 = .ok (.aload_n 0, 1) := by decide +kernel
theorem dX12_wants_15 : decode cX12_wants 15 = .ok (.invokevirtual 261, 3) := by decide +kernel
theorem dX12_wants_18 : decode cX12_wants 18 = .ok (.aload_n 0, 1) := by decide +kernel
theorem dX12_wants_19 : decode cX12_wants 19 = .ok (.iload_n 1, 1) := by decide +kernel
theorem dX12_wants_20 : decode cX12_wants 20 = .ok (.invokevirtual 252, 3) := by decide +kernel
theorem dX12_wants_23 : decode cX12_wants 23 = .ok (.ifCond .eq 12, 3) := by decide +kernel
theorem dX12_wants_26 : decode cX12_wants 26 = .ok (.aload_n 0, 1) := by decide +kernel
theorem dX12_wants_27 : decode cX12_wants 27 = .ok (.bipush 6, 2) := by decide +kernel
theorem dX12_wants_29 : decode cX12_wants 29 = .ok (.invokevirtual 83, 3) := by decide +kernel
theorem dX12_wants_32 : decode cX12_wants 32 = .ok (.goto 12, 3) := by decide +kernel
theorem dX12_wants_35 : decode cX12_wants 35 = .ok (.aload_n 0, 1) := by decide +kernel
theorem dX12_wants_36 : decode cX12_wants 36 = .ok (.aload_n 0, 1) := by decide +kernel
theorem dX12_wants_37 : decode cX12_wants 37 = .ok (.iload_n 1, 1) := by decide +kernel
theorem dX12_wants_38 : decode cX12_wants 38 = .ok (.invokevirtual 255, 3) := by decide +kernel
theorem dX12_wants_41 : decode cX12_wants 41 = .ok (.invokevirtual 87, 3) := by decide +kernel
theorem dX12_wants_44 : decode cX12_wants 44 = .ok (.ireturn, 1) := by decide +kernel
theorem dX12_right_0 : decode cX12_right 0 = .ok (.aload_n 0, 1) := by decide +kernel
theorem dX12_right_1 : decode cX12_right 1 = .ok (.iload_n 1, 1) := by decide +kernel
theorem dX12_right_2 : decode cX12_right 2 = .ok (.invokevirtual 243, 3) := by decide +kernel
theorem dX12_right_5 : decode cX12_right 5 = .ok (.ifCond .ne 9, 3) := by decide +kernel
theorem dX12_right_8 : decode cX12_right 8 = .ok (.aload_n 0, 1) := by decide +kernel
theorem dX12_right_9 : decode cX12_right 9 = .ok (.iconst 1, 1) := by decide +kernel
theorem dX12_right_10 : decode cX12_right 10 = .ok (.invokevirtual 83, 3) := by decide +kernel
theorem dX12_right_13 : decode cX12_right 13 = .ok (.ireturn, 1) := by decide +kernel
theorem dX12_right_14 : decode cX12_right 14 = .ok (.aload_n 0, 1) := by decide +kernel
theorem dX12_right_15 : decode cX12_right 15 = .ok (.invokevirtual 261, 3) := by decide +kernel
theorem dX12_right_18 : decode cX12_right 18 = .ok (.aload_n 0, 1) := by decide +kernel
theorem dX12_right_19 : decode cX12_right 19 = .ok (.aload_n 0, 1) := by decide +kernel
theorem dX12_right_20 : decode cX12_right 20 = .ok (.iload_n 1, 1) := by decide +kernel
theorem dX12_right_21 : decode cX12_right 21 = .ok (.invokevirtual 258, 3) := by decide +kernel
theorem dX12_right_24 : decode cX12_right 24 = .ok (.ifCond .eq 7, 3) := by decide +kernel
theorem dX12_right_27 : decode cX12_right 27 = .ok (.iconst 1, 1) := by decide +kernel
theorem dX12_right_28 : decode cX12_right 28 = .ok (.goto 4, 3) := by decide +kernel
theorem dX12_right_31 : decode cX12_right 31 = .ok (.iconst 0, 1) := by decide +kernel
theorem dX12_right_32 : decode cX12_right 32 = .ok (.invokevirtual 87, 3) := by decide +kernel
theorem dX12_right_35 : decode cX12_right 35 = .ok (.ireturn, 1) := by decide +kernel
theorem dX12_toRight_0 : decode cX12_toRight 0 = .ok (.aload_n 0, 1) := by decide +kernel
theorem dX12_toRight_1 : decode cX12_toRight 1 = .ok (.iload_n 1, 1) := by decide +kernel
theorem dX12_toRight_2 : decode cX12_toRight 2 = .ok (.iconst 0, 1) := by decide +kernel
theorem dX12_toRight_3 : decode cX12_toRight 3 = .ok (.invokevirtual 249, 3) := by decide +kernel
theorem dX12_toRight_6 : decode cX12_toRight 6 = .ok (.istore_n 3, 1) := by decide +kernel
theorem dX12_toRight_7 : decode cX12_toRight 7 = .ok (.aload_n 0, 1) := by decide +kernel
theorem dX12_toRight_8 : decode cX12_toRight 8 = .ok (.iload_n 1, 1) := by decide +kernel
theorem dX12_toRight_9 : decode cX12_toRight 9 = .ok (.invokevirtual 255, 3) := by decide +kernel
theorem dX12_toRight_12 : decode cX12_toRight 12 = .ok (.iload_n 2, 1) := by decide +kernel
theorem dX12_toRight_13 : decode cX12_toRight 13 = .ok (.isub, 1) := by decide +kernel
theorem dX12_toRight_14 : decode cX12_toRight 14 = .ok (.iload_n 3, 1) := by decide +kernel
theorem dX12_toRight_15 : decode cX12_toRight 15 = .ok (.iadd, 1) := by decide +kernel
theorem dX12_toRight_16 : decode cX12_toRight 16 = .ok (.iload_n 3, 1) := by decide +kernel
theorem dX12_toRight_17 : decode cX12_toRight 17 = .ok (.irem, 1) := by decide +kernel
theorem dX12_toRight_18 : decode cX12_toRight 18 = .ok (.ireturn, 1) := by decide +kernel
theorem dX12_farFrom_0 : decode cX12_farFrom 0 = .ok (.aload_n 0, 1) := by decide +kernel
theorem dX12_farFrom_1 : decode cX12_farFrom 1 = .ok (.iload_n 1, 1) := by decide +kernel
theorem dX12_farFrom_2 : decode cX12_farFrom 2 = .ok (.iload_n 2, 1) := by decide +kernel
theorem dX12_farFrom_3 : decode cX12_farFrom 3 = .ok (.invokevirtual 264, 3) := by decide +kernel
theorem dX12_farFrom_6 : decode cX12_farFrom 6 = .ok (.istore_n 3, 1) := by decide +kernel
theorem dX12_farFrom_7 : decode cX12_farFrom 7 = .ok (.aload_n 0, 1) := by decide +kernel
theorem dX12_farFrom_8 : decode cX12_farFrom 8 = .ok (.iload_n 1, 1) := by decide +kernel
theorem dX12_farFrom_9 : decode cX12_farFrom 9 = .ok (.iconst 0, 1) := by decide +kernel
theorem dX12_farFrom_10 : decode cX12_farFrom 10 = .ok (.invokevirtual 249, 3) := by decide +kernel
theorem dX12_farFrom_13 : decode cX12_farFrom 13 = .ok (.iload_n 3, 1) := by decide +kernel
theorem dX12_farFrom_14 : decode cX12_farFrom 14 = .ok (.isub, 1) := by decide +kernel
theorem dX12_farFrom_15 : decode cX12_farFrom 15 = .ok (.istore 4, 2) := by decide +kernel
theorem dX12_farFrom_17 : decode cX12_farFrom 17 = .ok (.iload_n 3, 1) := by decide +kernel
theorem dX12_farFrom_18 : decode cX12_farFrom 18 = .ok (.iload 4, 2) := by decide +kernel
theorem dX12_farFrom_20 : decode cX12_farFrom 20 = .ok (.if_icmp .ge 7, 3) := by decide +kernel
theorem dX12_farFrom_23 : decode cX12_farFrom 23 = .ok (.iload_n 3, 1) := by decide +kernel
theorem dX12_farFrom_24 : decode cX12_farFrom 24 = .ok (.goto 5, 3) := by decide +kernel
theorem dX12_farFrom_27 : decode cX12_farFrom 27 = .ok (.iload 4, 2) := by decide +kernel
theorem dX12_farFrom_29 : decode cX12_farFrom 29 = .ok (.ireturn, 1) := by decide +kernel
theorem dX12_turned_0 : decode cX12_turned 0 = .ok (.aload_n 0, 1) := by decide +kernel
theorem dX12_turned_1 : decode cX12_turned 1 = .ok (.iload_n 1, 1) := by decide +kernel
theorem dX12_turned_2 : decode cX12_turned 2 = .ok (.iconst 3, 1) := by decide +kernel
theorem dX12_turned_3 : decode cX12_turned 3 = .ok (.invokevirtual 249, 3) := by decide +kernel
theorem dX12_turned_6 : decode cX12_turned 6 = .ok (.iload_n 2, 1) := by decide +kernel
theorem dX12_turned_7 : decode cX12_turned 7 = .ok (.iadd, 1) := by decide +kernel
theorem dX12_turned_8 : decode cX12_turned 8 = .ok (.aload_n 0, 1) := by decide +kernel
theorem dX12_turned_9 : decode cX12_turned 9 = .ok (.iload_n 1, 1) := by decide +kernel
theorem dX12_turned_10 : decode cX12_turned 10 = .ok (.iconst 0, 1) := by decide +kernel
theorem dX12_turned_11 : decode cX12_turned 11 = .ok (.invokevirtual 249, 3) := by decide +kernel
theorem dX12_turned_14 : decode cX12_turned 14 = .ok (.iadd, 1) := by decide +kernel
theorem dX12_turned_15 : decode cX12_turned 15 = .ok (.aload_n 0, 1) := by decide +kernel
theorem dX12_turned_16 : decode cX12_turned 16 = .ok (.iload_n 1, 1) := by decide +kernel
theorem dX12_turned_17 : decode cX12_turned 17 = .ok (.iconst 0, 1) := by decide +kernel
theorem dX12_turned_18 : decode cX12_turned 18 = .ok (.invokevirtual 249, 3) := by decide +kernel
theorem dX12_turned_21 : decode cX12_turned 21 = .ok (.irem, 1) := by decide +kernel
theorem dX12_turned_22 : decode cX12_turned 22 = .ok (.ireturn, 1) := by decide +kernel
theorem dX12_playBehind_0 : decode cX12_playBehind 0 = .ok (.aload_n 0, 1) := by decide +kernel
theorem dX12_playBehind_1 : decode cX12_playBehind 1 = .ok (.getfield 47, 3) := by decide +kernel
theorem dX12_playBehind_4 : decode cX12_playBehind 4 = .ok (.aload_n 0, 1) := by decide +kernel
theorem dX12_playBehind_5 : decode cX12_playBehind 5 = .ok (.iload_n 1, 1) := by decide +kernel
theorem dX12_playBehind_6 : decode cX12_playBehind 6 = .ok (.iconst 1, 1) := by decide +kernel
theorem dX12_playBehind_7 : decode cX12_playBehind 7 = .ok (.invokevirtual 267, 3) := by decide +kernel
theorem dX12_playBehind_10 : decode cX12_playBehind 10 = .ok (.iaload, 1) := by decide +kernel
theorem dX12_playBehind_11 : decode cX12_playBehind 11 = .ok (.istore_n 2, 1) := by decide +kernel
theorem dX12_playBehind_12 : decode cX12_playBehind 12 = .ok (.aload_n 0, 1) := by decide +kernel
theorem dX12_playBehind_13 : decode cX12_playBehind 13 = .ok (.iload_n 1, 1) := by decide +kernel
theorem dX12_playBehind_14 : decode cX12_playBehind 14 = .ok (.iconst 4, 1) := by decide +kernel
theorem dX12_playBehind_15 : decode cX12_playBehind 15 = .ok (.invokevirtual 267, 3) := by decide +kernel
theorem dX12_playBehind_18 : decode cX12_playBehind 18 = .ok (.aload_n 0, 1) := by decide +kernel
theorem dX12_playBehind_19 : decode cX12_playBehind 19 = .ok (.getfield 47, 3) := by decide +kernel
theorem dX12_playBehind_22 : decode cX12_playBehind 22 = .ok (.aload_n 0, 1) := by decide +kernel
theorem dX12_playBehind_23 : decode cX12_playBehind 23 = .ok (.iload_n 1, 1) := by decide +kernel
theorem dX12_playBehind_24 : decode cX12_playBehind 24 = .ok (.iconst 0, 1) := by decide +kernel
theorem dX12_playBehind_25 : decode cX12_playBehind 25 = .ok (.invokevirtual 267, 3) := by decide +kernel
theorem dX12_playBehind_28 : decode cX12_playBehind 28 = .ok (.iaload, 1) := by decide +kernel
theorem dX12_playBehind_29 : decode cX12_playBehind 29 = .ok (.iadd, 1) := by decide +kernel
theorem dX12_playBehind_30 : decode cX12_playBehind 30 = .ok (.aload_n 0, 1) := by decide +kernel
theorem dX12_playBehind_31 : decode cX12_playBehind 31 = .ok (.iload_n 1, 1) := by decide +kernel
theorem dX12_playBehind_32 : decode cX12_playBehind 32 = .ok (.iconst 2, 1) := by decide +kernel
theorem dX12_playBehind_33 : decode cX12_playBehind 33 = .ok (.invokevirtual 267, 3) := by decide +kernel
theorem dX12_playBehind_36 : decode cX12_playBehind 36 = .ok (.iconst 1, 1) := by decide +kernel
theorem dX12_playBehind_37 : decode cX12_playBehind 37 = .ok (.if_icmp .ne 8, 3) := by decide +kernel
theorem dX12_playBehind_40 : decode cX12_playBehind 40 = .ok (.iload_n 2, 1) := by decide +kernel
theorem dX12_playBehind_41 : decode cX12_playBehind 41 = .ok (.ineg, 1) := by decide +kernel
theorem dX12_playBehind_42 : decode cX12_playBehind 42 = .ok (.goto 4, 3) := by decide +kernel
theorem dX12_playBehind_45 : decode cX12_playBehind 45 = .ok (.iload_n 2, 1) := by decide +kernel
theorem dX12_playBehind_46 : decode cX12_playBehind 46 = .ok (.iadd, 1) := by decide +kernel
theorem dX12_playBehind_47 : decode cX12_playBehind 47 = .ok (.ireturn, 1) := by decide +kernel
theorem dX12_isOut_0 : decode cX12_isOut 0 = .ok (.aload_n 0, 1) := by decide +kernel
theorem dX12_isOut_1 : decode cX12_isOut 1 = .ok (.iload_n 1, 1) := by decide +kernel
theorem dX12_isOut_2 : decode cX12_isOut 2 = .ok (.invokevirtual 270, 3) := by decide +kernel
theorem dX12_isOut_5 : decode cX12_isOut 5 = .ok (.ifCond .lt 17, 3) := by decide +kernel
theorem dX12_isOut_8 : decode cX12_isOut 8 = .ok (.aload_n 0, 1) := by decide +kernel
theorem dX12_isOut_9 : decode cX12_isOut 9 = .ok (.iload_n 1, 1) := by decide +kernel
theorem dX12_isOut_10 : decode cX12_isOut 10 = .ok (.invokevirtual 270, 3) := by decide +kernel
theorem dX12_isOut_13 : decode cX12_isOut 13 = .ok (.aload_n 0, 1) := by decide +kernel
theorem dX12_isOut_14 : decode cX12_isOut 14 = .ok (.iload_n 1, 1) := by decide +kernel
theorem dX12_isOut_15 : decode cX12_isOut 15 = .ok (.iconst 3, 1) := by decide +kernel
theorem dX12_isOut_16 : decode cX12_isOut 16 = .ok (.invokevirtual 267, 3) := by decide +kernel
theorem dX12_isOut_19 : decode cX12_isOut 19 = .ok (.if_icmp .le 7, 3) := by decide +kernel
theorem dX12_isOut_22 : decode cX12_isOut 22 = .ok (.iconst 1, 1) := by decide +kernel
theorem dX12_isOut_23 : decode cX12_isOut 23 = .ok (.goto 4, 3) := by decide +kernel
theorem dX12_isOut_26 : decode cX12_isOut 26 = .ok (.iconst 0, 1) := by decide +kernel
theorem dX12_isOut_27 : decode cX12_isOut 27 = .ok (.ireturn, 1) := by decide +kernel
theorem dX12_isJoining_0 : decode cX12_isJoining 0 = .ok (.aload_n 0, 1) := by decide +kernel
theorem dX12_isJoining_1 : decode cX12_isJoining 1 = .ok (.getfield 7, 3) := by decide +kernel
theorem dX12_isJoining_4 : decode cX12_isJoining 4 = .ok (.sipush 2454, 3) := by decide +kernel
theorem dX12_isJoining_7 : decode cX12_isJoining 7 = .ok (.iaload, 1) := by decide +kernel
theorem dX12_isJoining_8 : decode cX12_isJoining 8 = .ok (.iload_n 1, 1) := by decide +kernel
theorem dX12_isJoining_9 : decode cX12_isJoining 9 = .ok (.ishr, 1) := by decide +kernel
theorem dX12_isJoining_10 : decode cX12_isJoining 10 = .ok (.iconst 1, 1) := by decide +kernel
theorem dX12_isJoining_11 : decode cX12_isJoining 11 = .ok (.iand, 1) := by decide +kernel
theorem dX12_isJoining_12 : decode cX12_isJoining 12 = .ok (.ifCond .ne 7, 3) := by decide +kernel
theorem dX12_isJoining_15 : decode cX12_isJoining 15 = .ok (.iconst 1, 1) := by decide +kernel
theorem dX12_isJoining_16 : decode cX12_isJoining 16 = .ok (.goto 4, 3) := by decide +kernel
theorem dX12_isJoining_19 : decode cX12_isJoining 19 = .ok (.iconst 0, 1) := by decide +kernel
theorem dX12_isJoining_20 : decode cX12_isJoining 20 = .ok (.ireturn, 1) := by decide +kernel
theorem dX12_dragsBy_0 : decode cX12_dragsBy 0 = .ok (.iconst 0, 1) := by decide +kernel
theorem dX12_dragsBy_1 : decode cX12_dragsBy 1 = .ok (.istore_n 3, 1) := by decide +kernel
theorem dX12_dragsBy_2 : decode cX12_dragsBy 2 = .ok (.iload_n 3, 1) := by decide +kernel
theorem dX12_dragsBy_3 : decode cX12_dragsBy 3 = .ok (.bipush 8, 2) := by decide +kernel
theorem dX12_dragsBy_5 : decode cX12_dragsBy 5 = .ok (.if_icmp .ge 16, 3) := by decide +kernel
theorem dX12_dragsBy_8 : decode cX12_dragsBy 8 = .ok (.aload_n 0, 1) := by decide +kernel
theorem dX12_dragsBy_9 : decode cX12_dragsBy 9 = .ok (.getfield 47, 3) := by decide +kernel
theorem dX12_dragsBy_12 : decode cX12_dragsBy 12 = .ok (.iload_n 3, 1) := by decide +kernel
theorem dX12_dragsBy_13 : decode cX12_dragsBy 13 = .ok (.iconst 0, 1) := by decide +kernel
theorem dX12_dragsBy_14 : decode cX12_dragsBy 14 = .ok (.iastore, 1) := by decide +kernel
theorem dX12_dragsBy_15 : decode cX12_dragsBy 15 = .ok (.iinc 3 1, 3) := by decide +kernel
theorem dX12_dragsBy_18 : decode cX12_dragsBy 18 = .ok (.goto (-16), 3) := by decide +kernel
theorem dX12_dragsBy_21 : decode cX12_dragsBy 21 = .ok (.aload_n 0, 1) := by decide +kernel
theorem dX12_dragsBy_22 : decode cX12_dragsBy 22 = .ok (.getfield 47, 3) := by decide +kernel
theorem dX12_dragsBy_25 : decode cX12_dragsBy 25 = .ok (.iload_n 1, 1) := by decide +kernel
theorem dX12_dragsBy_26 : decode cX12_dragsBy 26 = .ok (.iload_n 2, 1) := by decide +kernel
theorem dX12_dragsBy_27 : decode cX12_dragsBy 27 = .ok (.iastore, 1) := by decide +kernel
theorem dX12_dragsBy_28 : decode cX12_dragsBy 28 = .ok (.iconst 0, 1) := by decide +kernel
theorem dX12_dragsBy_29 : decode cX12_dragsBy 29 = .ok (.istore_n 3, 1) := by decide +kernel
theorem dX12_dragsBy_30 : decode cX12_dragsBy 30 = .ok (.iload_n 3, 1) := by decide +kernel
theorem dX12_dragsBy_31 : decode cX12_dragsBy 31 = .ok (.aload_n 0, 1) := by decide +kernel
theorem dX12_dragsBy_32 : decode cX12_dragsBy 32 = .ok (.getfield 7, 3) := by decide +kernel
theorem dX12_dragsBy_35 : decode cX12_dragsBy 35 = .ok (.iconst 2, 1) := by decide +kernel
theorem dX12_dragsBy_36 : decode cX12_dragsBy 36 = .ok (.iaload, 1) := by decide +kernel
theorem dX12_dragsBy_37 : decode cX12_dragsBy 37 = .ok (.if_icmp .ge 141, 3) := by decide +kernel
theorem dX12_dragsBy_40 : decode cX12_dragsBy 40 = .ok (.aload_n 0, 1) := by decide +kernel
theorem dX12_dragsBy_41 : decode cX12_dragsBy 41 = .ok (.iload_n 3, 1) := by decide +kernel
theorem dX12_dragsBy_42 : decode cX12_dragsBy 42 = .ok (.iconst 0, 1) := by decide +kernel
theorem dX12_dragsBy_43 : decode cX12_dragsBy 43 = .ok (.invokevirtual 267, 3) := by decide +kernel
theorem dX12_dragsBy_46 : decode cX12_dragsBy 46 = .ok (.istore 4, 2) := by decide +kernel
theorem dX12_dragsBy_48 : decode cX12_dragsBy 48 = .ok (.aload_n 0, 1) := by decide +kernel
theorem dX12_dragsBy_49 : decode cX12_dragsBy 49 = .ok (.iload_n 3, 1) := by decide +kernel
theorem dX12_dragsBy_50 : decode cX12_dragsBy 50 = .ok (.iconst 1, 1) := by decide +kernel
theorem dX12_dragsBy_51 : decode cX12_dragsBy 51 = .ok (.invokevirtual 267, 3) := by decide +kernel
theorem dX12_dragsBy_54 : decode cX12_dragsBy 54 = .ok (.istore 5, 2) := by decide +kernel
theorem dX12_dragsBy_56 : decode cX12_dragsBy 56 = .ok (.aload_n 0, 1) := by decide +kernel
theorem dX12_dragsBy_57 : decode cX12_dragsBy 57 = .ok (.iload_n 3, 1) := by decide +kernel
theorem dX12_dragsBy_58 : decode cX12_dragsBy 58 = .ok (.invokevirtual 273, 3) := by decide +kernel
theorem dX12_dragsBy_61 : decode cX12_dragsBy 61 = .ok (.ifCond .eq 44, 3) := by decide +kernel
theorem dX12_dragsBy_64 : decode cX12_dragsBy 64 = .ok (.aload_n 0, 1) := by decide +kernel
theorem dX12_dragsBy_65 : decode cX12_dragsBy 65 = .ok (.getfield 47, 3) := by decide +kernel
theorem dX12_dragsBy_68 : decode cX12_dragsBy 68 = .ok (.iload 4, 2) := by decide +kernel
theorem dX12_dragsBy_70 : decode cX12_dragsBy 70 = .ok (.iaload, 1) := by decide +kernel
theorem dX12_dragsBy_71 : decode cX12_dragsBy 71 = .ok (.ifCond .ne 7, 3) := by decide +kernel
theorem dX12_dragsBy_74 : decode cX12_dragsBy 74 = .ok (.iconst 1, 1) := by decide +kernel
theorem dX12_dragsBy_75 : decode cX12_dragsBy 75 = .ok (.goto 4, 3) := by decide +kernel
theorem dX12_dragsBy_78 : decode cX12_dragsBy 78 = .ok (.iconst 0, 1) := by decide +kernel
theorem dX12_dragsBy_79 : decode cX12_dragsBy 79 = .ok (.aload_n 0, 1) := by decide +kernel
theorem dX12_dragsBy_80 : decode cX12_dragsBy 80 = .ok (.getfield 47, 3) := by decide +kernel
theorem dX12_dragsBy_83 : decode cX12_dragsBy 83 = .ok (.iload 5, 2) := by decide +kernel
theorem dX12_dragsBy_85 : decode cX12_dragsBy 85 = .ok (.iaload, 1) := by decide +kernel
theorem dX12_dragsBy_86 : decode cX12_dragsBy 86 = .ok (.ifCond .ne 7, 3) := by decide +kernel
theorem dX12_dragsBy_89 : decode cX12_dragsBy 89 = .ok (.iconst 1, 1) := by decide +kernel
theorem dX12_dragsBy_90 : decode cX12_dragsBy 90 = .ok (.goto 4, 3) := by decide +kernel
theorem dX12_dragsBy_93 : decode cX12_dragsBy 93 = .ok (.iconst 0, 1) := by decide +kernel
theorem dX12_dragsBy_94 : decode cX12_dragsBy 94 = .ok (.if_icmp .eq 11, 3) := by decide +kernel
theorem dX12_dragsBy_97 : decode cX12_dragsBy 97 = .ok (.aload_n 0, 1) := by decide +kernel
theorem dX12_dragsBy_98 : decode cX12_dragsBy 98 = .ok (.iload_n 3, 1) := by decide +kernel
theorem dX12_dragsBy_99 : decode cX12_dragsBy 99 = .ok (.invokevirtual 276, 3) := by decide +kernel
theorem dX12_dragsBy_102 : decode cX12_dragsBy 102 = .ok (.ifCond .ne 9, 3) := by decide +kernel
theorem dX12_dragsBy_105 : decode cX12_dragsBy 105 = .ok (.iinc 3 1, 3) := by decide +kernel
theorem dX12_dragsBy_108 : decode cX12_dragsBy 108 = .ok (.goto (-78), 3) := by decide +kernel
theorem dX12_dragsBy_111 : decode cX12_dragsBy 111 = .ok (.aload_n 0, 1) := by decide +kernel
theorem dX12_dragsBy_112 : decode cX12_dragsBy 112 = .ok (.getfield 47, 3) := by decide +kernel
theorem dX12_dragsBy_115 : decode cX12_dragsBy 115 = .ok (.iload 4, 2) := by decide +kernel
theorem dX12_dragsBy_117 : decode cX12_dragsBy 117 = .ok (.iaload, 1) := by decide +kernel
theorem dX12_dragsBy_118 : decode cX12_dragsBy 118 = .ok (.aload_n 0, 1) := by decide +kernel
theorem dX12_dragsBy_119 : decode cX12_dragsBy 119 = .ok (.getfield 47, 3) := by decide +kernel
theorem dX12_dragsBy_122 : decode cX12_dragsBy 122 = .ok (.iload 5, 2) := by decide +kernel
theorem dX12_dragsBy_124 : decode cX12_dragsBy 124 = .ok (.iaload, 1) := by decide +kernel
theorem dX12_dragsBy_125 : decode cX12_dragsBy 125 = .ok (.iadd, 1) := by decide +kernel
theorem dX12_dragsBy_126 : decode cX12_dragsBy 126 = .ok (.istore 6, 2) := by decide +kernel
theorem dX12_dragsBy_128 : decode cX12_dragsBy 128 = .ok (.aload_n 0, 1) := by decide +kernel
theorem dX12_dragsBy_129 : decode cX12_dragsBy 129 = .ok (.iload_n 3, 1) := by decide +kernel
theorem dX12_dragsBy_130 : decode cX12_dragsBy 130 = .ok (.iconst 2, 1) := by decide +kernel
theorem dX12_dragsBy_131 : decode cX12_dragsBy 131 = .ok (.invokevirtual 267, 3) := by decide +kernel
theorem dX12_dragsBy_134 : decode cX12_dragsBy 134 = .ok (.ifCond .ne 8, 3) := by decide +kernel
theorem dX12_dragsBy_137 : decode cX12_dragsBy 137 = .ok (.iload 6, 2) := by decide +kernel
theorem dX12_dragsBy_139 : decode cX12_dragsBy 139 = .ok (.ineg, 1) := by decide +kernel
theorem dX12_dragsBy_140 : decode cX12_dragsBy 140 = .ok (.istore 6, 2) := by decide +kernel
theorem dX12_dragsBy_142 : decode cX12_dragsBy 142 = .ok (.aload_n 0, 1) := by decide +kernel
theorem dX12_dragsBy_143 : decode cX12_dragsBy 143 = .ok (.getfield 47, 3) := by decide +kernel
theorem dX12_dragsBy_146 : decode cX12_dragsBy 146 = .ok (.iload 4, 2) := by decide +kernel
theorem dX12_dragsBy_148 : decode cX12_dragsBy 148 = .ok (.iaload, 1) := by decide +kernel
theorem dX12_dragsBy_149 : decode cX12_dragsBy 149 = .ok (.ifCond .ne 15, 3) := by decide +kernel
theorem dX12_dragsBy_152 : decode cX12_dragsBy 152 = .ok (.aload_n 0, 1) := by decide +kernel
theorem dX12_dragsBy_153 : decode cX12_dragsBy 153 = .ok (.getfield 47, 3) := by decide +kernel
theorem dX12_dragsBy_156 : decode cX12_dragsBy 156 = .ok (.iload 4, 2) := by decide +kernel
theorem dX12_dragsBy_158 : decode cX12_dragsBy 158 = .ok (.iload 6, 2) := by decide +kernel
theorem dX12_dragsBy_160 : decode cX12_dragsBy 160 = .ok (.iastore, 1) := by decide +kernel
theorem dX12_dragsBy_161 : decode cX12_dragsBy 161 = .ok (.goto 12, 3) := by decide +kernel
theorem dX12_dragsBy_164 : decode cX12_dragsBy 164 = .ok (.aload_n 0, 1) := by decide +kernel
theorem dX12_dragsBy_165 : decode cX12_dragsBy 165 = .ok (.getfield 47, 3) := by decide +kernel
theorem dX12_dragsBy_168 : decode cX12_dragsBy 168 = .ok (.iload 5, 2) := by decide +kernel
theorem dX12_dragsBy_170 : decode cX12_dragsBy 170 = .ok (.iload 6, 2) := by decide +kernel
theorem dX12_dragsBy_172 : decode cX12_dragsBy 172 = .ok (.iastore, 1) := by decide +kernel
theorem dX12_dragsBy_173 : decode cX12_dragsBy 173 = .ok (.iconst 0, 1) := by decide +kernel
theorem dX12_dragsBy_174 : decode cX12_dragsBy 174 = .ok (.istore_n 3, 1) := by decide +kernel
theorem dX12_dragsBy_175 : decode cX12_dragsBy 175 = .ok (.goto (-145), 3) := by decide +kernel
theorem dX12_dragsBy_178 : decode cX12_dragsBy 178 = .ok (.iconst 0, 1) := by decide +kernel
theorem dX12_dragsBy_179 : decode cX12_dragsBy 179 = .ok (.istore 4, 2) := by decide +kernel
theorem dX12_dragsBy_181 : decode cX12_dragsBy 181 = .ok (.iload 4, 2) := by decide +kernel
theorem dX12_dragsBy_183 : decode cX12_dragsBy 183 = .ok (.aload_n 0, 1) := by decide +kernel
theorem dX12_dragsBy_184 : decode cX12_dragsBy 184 = .ok (.getfield 7, 3) := by decide +kernel
theorem dX12_dragsBy_187 : decode cX12_dragsBy 187 = .ok (.iconst 1, 1) := by decide +kernel
theorem dX12_dragsBy_188 : decode cX12_dragsBy 188 = .ok (.iaload, 1) := by decide +kernel
theorem dX12_dragsBy_189 : decode cX12_dragsBy 189 = .ok (.if_icmp .ge 38, 3) := by decide +kernel
theorem dX12_dragsBy_192 : decode cX12_dragsBy 192 = .ok (.aload_n 0, 1) := by decide +kernel
theorem dX12_dragsBy_193 : decode cX12_dragsBy 193 = .ok (.getfield 47, 3) := by decide +kernel
theorem dX12_dragsBy_196 : decode cX12_dragsBy 196 = .ok (.iload 4, 2) := by decide +kernel
theorem dX12_dragsBy_198 : decode cX12_dragsBy 198 = .ok (.iaload, 1) := by decide +kernel
theorem dX12_dragsBy_199 : decode cX12_dragsBy 199 = .ok (.ifCond .eq 22, 3) := by decide +kernel
theorem dX12_dragsBy_202 : decode cX12_dragsBy 202 = .ok (.aload_n 0, 1) := by decide +kernel
theorem dX12_dragsBy_203 : decode cX12_dragsBy 203 = .ok (.getfield 7, 3) := by decide +kernel
theorem dX12_dragsBy_206 : decode cX12_dragsBy 206 = .ok (.sipush 2455, 3) := by decide +kernel
theorem dX12_dragsBy_209 : decode cX12_dragsBy 209 = .ok (.iaload, 1) := by decide +kernel
theorem dX12_dragsBy_210 : decode cX12_dragsBy 210 = .ok (.iload 4, 2) := by decide +kernel
theorem dX12_dragsBy_212 : decode cX12_dragsBy 212 = .ok (.ishr, 1) := by decide +kernel
theorem dX12_dragsBy_213 : decode cX12_dragsBy 213 = .ok (.iconst 1, 1) := by decide +kernel
theorem dX12_dragsBy_214 : decode cX12_dragsBy 214 = .ok (.iand, 1) := by decide +kernel
theorem dX12_dragsBy_215 : decode cX12_dragsBy 215 = .ok (.iconst 1, 1) := by decide +kernel
theorem dX12_dragsBy_216 : decode cX12_dragsBy 216 = .ok (.if_icmp .ne 5, 3) := by decide +kernel
theorem dX12_dragsBy_219 : decode cX12_dragsBy 219 = .ok (.iconst 0, 1) := by decide +kernel
theorem dX12_dragsBy_220 : decode cX12_dragsBy 220 = .ok (.ireturn, 1) := by decide +kernel
theorem dX12_dragsBy_221 : decode cX12_dragsBy 221 = .ok (.iinc 4 1, 3) := by decide +kernel
theorem dX12_dragsBy_224 : decode cX12_dragsBy 224 = .ok (.goto (-43), 3) := by decide +kernel
theorem dX12_dragsBy_227 : decode cX12_dragsBy 227 = .ok (.iconst 0, 1) := by decide +kernel
theorem dX12_dragsBy_228 : decode cX12_dragsBy 228 = .ok (.istore 4, 2) := by decide +kernel
theorem dX12_dragsBy_230 : decode cX12_dragsBy 230 = .ok (.iload 4, 2) := by decide +kernel
theorem dX12_dragsBy_232 : decode cX12_dragsBy 232 = .ok (.aload_n 0, 1) := by decide +kernel
theorem dX12_dragsBy_233 : decode cX12_dragsBy 233 = .ok (.getfield 7, 3) := by decide +kernel
theorem dX12_dragsBy_236 : decode cX12_dragsBy 236 = .ok (.iconst 2, 1) := by decide +kernel
theorem dX12_dragsBy_237 : decode cX12_dragsBy 237 = .ok (.iaload, 1) := by decide +kernel
theorem dX12_dragsBy_238 : decode cX12_dragsBy 238 = .ok (.if_icmp .ge 29, 3) := by decide +kernel
theorem dX12_dragsBy_241 : decode cX12_dragsBy 241 = .ok (.aload_n 0, 1) := by decide +kernel
theorem dX12_dragsBy_242 : decode cX12_dragsBy 242 = .ok (.iload 4, 2) := by decide +kernel
theorem dX12_dragsBy_244 : decode cX12_dragsBy 244 = .ok (.invokevirtual 273, 3) := by decide +kernel
theorem dX12_dragsBy_247 : decode cX12_dragsBy 247 = .ok (.ifCond .eq 14, 3) := by decide +kernel
theorem dX12_dragsBy_250 : decode cX12_dragsBy 250 = .ok (.aload_n 0, 1) := by decide +kernel
theorem dX12_dragsBy_251 : decode cX12_dragsBy 251 = .ok (.iload 4, 2) := by decide +kernel
theorem dX12_dragsBy_253 : decode cX12_dragsBy 253 = .ok (.invokevirtual 276, 3) := by decide +kernel
theorem dX12_dragsBy_256 : decode cX12_dragsBy 256 = .ok (.ifCond .eq 5, 3) := by decide +kernel
theorem dX12_dragsBy_259 : decode cX12_dragsBy 259 = .ok (.iconst 0, 1) := by decide +kernel
theorem dX12_dragsBy_260 : decode cX12_dragsBy 260 = .ok (.ireturn, 1) := by decide +kernel
theorem dX12_dragsBy_261 : decode cX12_dragsBy 261 = .ok (.iinc 4 1, 3) := by decide +kernel
theorem dX12_dragsBy_264 : decode cX12_dragsBy 264 = .ok (.goto (-34), 3) := by decide +kernel
theorem dX12_dragsBy_267 : decode cX12_dragsBy 267 = .ok (.iconst 1, 1) := by decide +kernel
theorem dX12_dragsBy_268 : decode cX12_dragsBy 268 = .ok (.ireturn, 1) := by decide +kernel
theorem dX12_turnedSet_0 : decode cX12_turnedSet 0 = .ok (.iconst 0, 1) := by decide +kernel
theorem dX12_turnedSet_1 : decode cX12_turnedSet 1 = .ok (.istore_n 1, 1) := by decide +kernel
theorem dX12_turnedSet_2 : decode cX12_turnedSet 2 = .ok (.iconst 0, 1) := by decide +kernel
theorem dX12_turnedSet_3 : decode cX12_turnedSet 3 = .ok (.istore_n 2, 1) := by decide +kernel
theorem dX12_turnedSet_4 : decode cX12_turnedSet 4 = .ok (.iload_n 2, 1) := by decide +kernel
theorem dX12_turnedSet_5 : decode cX12_turnedSet 5 = .ok (.aload_n 0, 1) := by decide +kernel
theorem dX12_turnedSet_6 : decode cX12_turnedSet 6 = .ok (.getfield 7, 3) := by decide +kernel
theorem dX12_turnedSet_9 : decode cX12_turnedSet 9 = .ok (.iconst 1, 1) := by decide +kernel
theorem dX12_turnedSet_10 : decode cX12_turnedSet 10 = .ok (.iaload, 1) := by decide +kernel
theorem dX12_turnedSet_11 : decode cX12_turnedSet 11 = .ok (.if_icmp .ge 28, 3) := by decide +kernel
theorem dX12_turnedSet_14 : decode cX12_turnedSet 14 = .ok (.iload_n 1, 1) := by decide +kernel
theorem dX12_turnedSet_15 : decode cX12_turnedSet 15 = .ok (.aload_n 0, 1) := by decide +kernel
theorem dX12_turnedSet_16 : decode cX12_turnedSet 16 = .ok (.getfield 47, 3) := by decide +kernel
theorem dX12_turnedSet_19 : decode cX12_turnedSet 19 = .ok (.iload_n 2, 1) := by decide +kernel
theorem dX12_turnedSet_20 : decode cX12_turnedSet 20 = .ok (.iaload, 1) := by decide +kernel
theorem dX12_turnedSet_21 : decode cX12_turnedSet 21 = .ok (.ifCond .eq 9, 3) := by decide +kernel
theorem dX12_turnedSet_24 : decode cX12_turnedSet 24 = .ok (.iconst 1, 1) := by decide +kernel
theorem dX12_turnedSet_25 : decode cX12_turnedSet 25 = .ok (.iload_n 2, 1) := by decide +kernel
theorem dX12_turnedSet_26 : decode cX12_turnedSet 26 = .ok (.ishl, 1) := by decide +kernel
theorem dX12_turnedSet_27 : decode cX12_turnedSet 27 = .ok (.goto 4, 3) := by decide +kernel
theorem dX12_turnedSet_30 : decode cX12_turnedSet 30 = .ok (.iconst 0, 1) := by decide +kernel
theorem dX12_turnedSet_31 : decode cX12_turnedSet 31 = .ok (.ior, 1) := by decide +kernel
theorem dX12_turnedSet_32 : decode cX12_turnedSet 32 = .ok (.istore_n 1, 1) := by decide +kernel
theorem dX12_turnedSet_33 : decode cX12_turnedSet 33 = .ok (.iinc 2 1, 3) := by decide +kernel
theorem dX12_turnedSet_36 : decode cX12_turnedSet 36 = .ok (.goto (-32), 3) := by decide +kernel
theorem dX12_turnedSet_39 : decode cX12_turnedSet 39 = .ok (.iload_n 1, 1) := by decide +kernel
theorem dX12_turnedSet_40 : decode cX12_turnedSet 40 = .ok (.ireturn, 1) := by decide +kernel
theorem dX12_turnsAll_0 : decode cX12_turnsAll 0 = .ok (.iconst 0, 1) := by decide +kernel
theorem dX12_turnsAll_1 : decode cX12_turnsAll 1 = .ok (.istore_n 1, 1) := by decide +kernel
theorem dX12_turnsAll_2 : decode cX12_turnsAll 2 = .ok (.iload_n 1, 1) := by decide +kernel
theorem dX12_turnsAll_3 : decode cX12_turnsAll 3 = .ok (.aload_n 0, 1) := by decide +kernel
theorem dX12_turnsAll_4 : decode cX12_turnsAll 4 = .ok (.getfield 7, 3) := by decide +kernel
theorem dX12_turnsAll_7 : decode cX12_turnsAll 7 = .ok (.iconst 2, 1) := by decide +kernel
theorem dX12_turnsAll_8 : decode cX12_turnsAll 8 = .ok (.iaload, 1) := by decide +kernel
theorem dX12_turnsAll_9 : decode cX12_turnsAll 9 = .ok (.if_icmp .ge 36, 3) := by decide +kernel
theorem dX12_turnsAll_12 : decode cX12_turnsAll 12 = .ok (.aload_n 0, 1) := by decide +kernel
theorem dX12_turnsAll_13 : decode cX12_turnsAll 13 = .ok (.iload_n 1, 1) := by decide +kernel
theorem dX12_turnsAll_14 : decode cX12_turnsAll 14 = .ok (.invokevirtual 273, 3) := by decide +kernel
theorem dX12_turnsAll_17 : decode cX12_turnsAll 17 = .ok (.ifCond .eq 22, 3) := by decide +kernel
theorem dX12_turnsAll_20 : decode cX12_turnsAll 20 = .ok (.aload_n 0, 1) := by decide +kernel
theorem dX12_turnsAll_21 : decode cX12_turnsAll 21 = .ok (.getfield 7, 3) := by decide +kernel
theorem dX12_turnsAll_24 : decode cX12_turnsAll 24 = .ok (.sipush 2520, 3) := by decide +kernel
theorem dX12_turnsAll_27 : decode cX12_turnsAll 27 = .ok (.iconst 5, 1) := by decide +kernel
theorem dX12_turnsAll_28 : decode cX12_turnsAll 28 = .ok (.iload_n 1, 1) := by decide +kernel
theorem dX12_turnsAll_29 : decode cX12_turnsAll 29 = .ok (.imul, 1) := by decide +kernel
theorem dX12_turnsAll_30 : decode cX12_turnsAll 30 = .ok (.iadd, 1) := by decide +kernel
theorem dX12_turnsAll_31 : decode cX12_turnsAll 31 = .ok (.iconst 4, 1) := by decide +kernel
theorem dX12_turnsAll_32 : decode cX12_turnsAll 32 = .ok (.iadd, 1) := by decide +kernel
theorem dX12_turnsAll_33 : decode cX12_turnsAll 33 = .ok (.aload_n 0, 1) := by decide +kernel
theorem dX12_turnsAll_34 : decode cX12_turnsAll 34 = .ok (.iload_n 1, 1) := by decide +kernel
theorem dX12_turnsAll_35 : decode cX12_turnsAll 35 = .ok (.invokevirtual 270, 3) := by decide +kernel
theorem dX12_turnsAll_38 : decode cX12_turnsAll 38 = .ok (.iastore, 1) := by decide +kernel
theorem dX12_turnsAll_39 : decode cX12_turnsAll 39 = .ok (.iinc 1 1, 3) := by decide +kernel
theorem dX12_turnsAll_42 : decode cX12_turnsAll 42 = .ok (.goto (-40), 3) := by decide +kernel
theorem dX12_turnsAll_45 : decode cX12_turnsAll 45 = .ok (.iconst 0, 1) := by decide +kernel
theorem dX12_turnsAll_46 : decode cX12_turnsAll 46 = .ok (.istore_n 1, 1) := by decide +kernel
theorem dX12_turnsAll_47 : decode cX12_turnsAll 47 = .ok (.iload_n 1, 1) := by decide +kernel
theorem dX12_turnsAll_48 : decode cX12_turnsAll 48 = .ok (.aload_n 0, 1) := by decide +kernel
theorem dX12_turnsAll_49 : decode cX12_turnsAll 49 = .ok (.getfield 7, 3) := by decide +kernel
theorem dX12_turnsAll_52 : decode cX12_turnsAll 52 = .ok (.iconst 1, 1) := by decide +kernel
theorem dX12_turnsAll_53 : decode cX12_turnsAll 53 = .ok (.iaload, 1) := by decide +kernel
theorem dX12_turnsAll_54 : decode cX12_turnsAll 54 = .ok (.if_icmp .ge 127, 3) := by decide +kernel
theorem dX12_turnsAll_57 : decode cX12_turnsAll 57 = .ok (.aload_n 0, 1) := by decide +kernel
theorem dX12_turnsAll_58 : decode cX12_turnsAll 58 = .ok (.getfield 47, 3) := by decide +kernel
theorem dX12_turnsAll_61 : decode cX12_turnsAll 61 = .ok (.iload_n 1, 1) := by decide +kernel
theorem dX12_turnsAll_62 : decode cX12_turnsAll 62 = .ok (.iaload, 1) := by decide +kernel
theorem dX12_turnsAll_63 : decode cX12_turnsAll 63 = .ok (.ifCond .ne 6, 3) := by decide +kernel
theorem dX12_turnsAll_66 : decode cX12_turnsAll 66 = .ok (.goto 109, 3) := by decide +kernel
theorem dX12_turnsAll_69 : decode cX12_turnsAll 69 = .ok (.sipush 2470, 3) := by decide +kernel
theorem dX12_turnsAll_72 : decode cX12_turnsAll 72 = .ok (.bipush 6, 2) := by decide +kernel
theorem dX12_turnsAll_74 : decode cX12_turnsAll 74 = .ok (.iload_n 1, 1) := by decide +kernel
theorem dX12_turnsAll_75 : decode cX12_turnsAll 75 = .ok (.imul, 1) := by decide +kernel
theorem dX12_turnsAll_76 : decode cX12_turnsAll 76 = .ok (.iadd, 1) := by decide +kernel
theorem dX12_turnsAll_77 : decode cX12_turnsAll 77 = .ok (.istore_n 2, 1) := by decide +kernel
theorem dX12_turnsAll_78 : decode cX12_turnsAll 78 = .ok (.aload_n 0, 1) := by decide +kernel
theorem dX12_turnsAll_79 : decode cX12_turnsAll 79 = .ok (.getfield 7, 3) := by decide +kernel
theorem dX12_turnsAll_82 : decode cX12_turnsAll 82 = .ok (.iload_n 2, 1) := by decide +kernel
theorem dX12_turnsAll_83 : decode cX12_turnsAll 83 = .ok (.iconst 3, 1) := by decide +kernel
theorem dX12_turnsAll_84 : decode cX12_turnsAll 84 = .ok (.iadd, 1) := by decide +kernel
theorem dX12_turnsAll_85 : decode cX12_turnsAll 85 = .ok (.aload_n 0, 1) := by decide +kernel
theorem dX12_turnsAll_86 : decode cX12_turnsAll 86 = .ok (.iload_n 1, 1) := by decide +kernel
theorem dX12_turnsAll_87 : decode cX12_turnsAll 87 = .ok (.aload_n 0, 1) := by decide +kernel
theorem dX12_turnsAll_88 : decode cX12_turnsAll 88 = .ok (.getfield 47, 3) := by decide +kernel
theorem dX12_turnsAll_91 : decode cX12_turnsAll 91 = .ok (.iload_n 1, 1) := by decide +kernel
theorem dX12_turnsAll_92 : decode cX12_turnsAll 92 = .ok (.iaload, 1) := by decide +kernel
theorem dX12_turnsAll_93 : decode cX12_turnsAll 93 = .ok (.invokevirtual 279, 3) := by decide +kernel
theorem dX12_turnsAll_96 : decode cX12_turnsAll 96 = .ok (.iastore, 1) := by decide +kernel
theorem dX12_turnsAll_97 : decode cX12_turnsAll 97 = .ok (.aload_n 0, 1) := by decide +kernel
theorem dX12_turnsAll_98 : decode cX12_turnsAll 98 = .ok (.getfield 7, 3) := by decide +kernel
theorem dX12_turnsAll_101 : decode cX12_turnsAll 101 = .ok (.iload_n 2, 1) := by decide +kernel
theorem dX12_turnsAll_102 : decode cX12_turnsAll 102 = .ok (.iconst 4, 1) := by decide +kernel
theorem dX12_turnsAll_103 : decode cX12_turnsAll 103 = .ok (.iadd, 1) := by decide +kernel
theorem dX12_turnsAll_104 : decode cX12_turnsAll 104 = .ok (.dup2, 1) := by decide +kernel
theorem dX12_turnsAll_105 : decode cX12_turnsAll 105 = .ok (.iaload, 1) := by decide +kernel
theorem dX12_turnsAll_106 : decode cX12_turnsAll 106 = .ok (.iconst 1, 1) := by decide +kernel
theorem dX12_turnsAll_107 : decode cX12_turnsAll 107 = .ok (.iadd, 1) := by decide +kernel
theorem dX12_turnsAll_108 : decode cX12_turnsAll 108 = .ok (.iastore, 1) := by decide +kernel
theorem dX12_turnsAll_109 : decode cX12_turnsAll 109 = .ok (.aload_n 0, 1) := by decide +kernel
theorem dX12_turnsAll_110 : decode cX12_turnsAll 110 = .ok (.dup, 1) := by decide +kernel
theorem dX12_turnsAll_111 : decode cX12_turnsAll 111 = .ok (.getfield 282, 3) := by decide +kernel
theorem dX12_turnsAll_114 : decode cX12_turnsAll 114 = .ok (.iconst 1, 1) := by decide +kernel
theorem dX12_turnsAll_115 : decode cX12_turnsAll 115 = .ok (.iadd, 1) := by decide +kernel
theorem dX12_turnsAll_116 : decode cX12_turnsAll 116 = .ok (.putfield 282, 3) := by decide +kernel
theorem dX12_turnsAll_119 : decode cX12_turnsAll 119 = .ok (.aload_n 0, 1) := by decide +kernel
theorem dX12_turnsAll_120 : decode cX12_turnsAll 120 = .ok (.getfield 7, 3) := by decide +kernel
theorem dX12_turnsAll_123 : decode cX12_turnsAll 123 = .ok (.iload_n 2, 1) := by decide +kernel
theorem dX12_turnsAll_124 : decode cX12_turnsAll 124 = .ok (.iconst 3, 1) := by decide +kernel
theorem dX12_turnsAll_125 : decode cX12_turnsAll 125 = .ok (.iadd, 1) := by decide +kernel
theorem dX12_turnsAll_126 : decode cX12_turnsAll 126 = .ok (.iaload, 1) := by decide +kernel
theorem dX12_turnsAll_127 : decode cX12_turnsAll 127 = .ok (.ifCond .le 6, 3) := by decide +kernel
theorem dX12_turnsAll_130 : decode cX12_turnsAll 130 = .ok (.goto 45, 3) := by decide +kernel
theorem dX12_turnsAll_133 : decode cX12_turnsAll 133 = .ok (.aload_n 0, 1) := by decide +kernel
theorem dX12_turnsAll_134 : decode cX12_turnsAll 134 = .ok (.getfield 7, 3) := by decide +kernel
theorem dX12_turnsAll_137 : decode cX12_turnsAll 137 = .ok (.iload_n 2, 1) := by decide +kernel
theorem dX12_turnsAll_138 : decode cX12_turnsAll 138 = .ok (.iconst 5, 1) := by decide +kernel
theorem dX12_turnsAll_139 : decode cX12_turnsAll 139 = .ok (.iadd, 1) := by decide +kernel
theorem dX12_turnsAll_140 : decode cX12_turnsAll 140 = .ok (.dup2, 1) := by decide +kernel
theorem dX12_turnsAll_141 : decode cX12_turnsAll 141 = .ok (.iaload, 1) := by decide +kernel
theorem dX12_turnsAll_142 : decode cX12_turnsAll 142 = .ok (.iconst 1, 1) := by decide +kernel
theorem dX12_turnsAll_143 : decode cX12_turnsAll 143 = .ok (.iadd, 1) := by decide +kernel
theorem dX12_turnsAll_144 : decode cX12_turnsAll 144 = .ok (.iastore, 1) := by decide +kernel
theorem dX12_turnsAll_145 : decode cX12_turnsAll 145 = .ok (.aload_n 0, 1) := by decide +kernel
theorem dX12_turnsAll_146 : decode cX12_turnsAll 146 = .ok (.getfield 285, 3) := by decide +kernel
theorem dX12_turnsAll_149 : decode cX12_turnsAll 149 = .ok (.sipush 12800, 3) := by decide +kernel
theorem dX12_turnsAll_152 : decode cX12_turnsAll 152 = .ok (.if_icmp .ge 13, 3) := by decide +kernel
theorem dX12_turnsAll_155 : decode cX12_turnsAll 155 = .ok (.aload_n 0, 1) := by decide +kernel
theorem dX12_turnsAll_156 : decode cX12_turnsAll 156 = .ok (.getfield 50, 3) := by decide +kernel
theorem dX12_turnsAll_159 : decode cX12_turnsAll 159 = .ok (.aload_n 0, 1) := by decide +kernel
theorem dX12_turnsAll_160 : decode cX12_turnsAll 160 = .ok (.getfield 285, 3) := by decide +kernel
theorem dX12_turnsAll_163 : decode cX12_turnsAll 163 = .ok (.iload_n 1, 1) := by decide +kernel
theorem dX12_turnsAll_164 : decode cX12_turnsAll 164 = .ok (.iastore, 1) := by decide +kernel
theorem dX12_turnsAll_165 : decode cX12_turnsAll 165 = .ok (.aload_n 0, 1) := by decide +kernel
theorem dX12_turnsAll_166 : decode cX12_turnsAll 166 = .ok (.dup, 1) := by decide +kernel
theorem dX12_turnsAll_167 : decode cX12_turnsAll 167 = .ok (.getfield 285, 3) := by decide +kernel
theorem dX12_turnsAll_170 : decode cX12_turnsAll 170 = .ok (.iconst 1, 1) := by decide +kernel
theorem dX12_turnsAll_171 : decode cX12_turnsAll 171 = .ok (.iadd, 1) := by decide +kernel
theorem dX12_turnsAll_172 : decode cX12_turnsAll 172 = .ok (.putfield 285, 3) := by decide +kernel
theorem dX12_turnsAll_175 : decode cX12_turnsAll 175 = .ok (.iinc 1 1, 3) := by decide +kernel
theorem dX12_turnsAll_178 : decode cX12_turnsAll 178 = .ok (.goto (-131), 3) := by decide +kernel
theorem dX12_turnsAll_181 : decode cX12_turnsAll 181 = .ok (.return_, 1) := by decide +kernel
theorem dX12_isStronger_0 : decode cX12_isStronger 0 = .ok (.aload_n 0, 1) := by decide +kernel
theorem dX12_isStronger_1 : decode cX12_isStronger 1 = .ok (.getfield 7, 3) := by decide +kernel
theorem dX12_isStronger_4 : decode cX12_isStronger 4 = .ok (.sipush 2460, 3) := by decide +kernel
theorem dX12_isStronger_7 : decode cX12_isStronger 7 = .ok (.iconst 2, 1) := by decide +kernel
theorem dX12_isStronger_8 : decode cX12_isStronger 8 = .ok (.aload_n 0, 1) := by decide +kernel
theorem dX12_isStronger_9 : decode cX12_isStronger 9 = .ok (.iload_n 1, 1) := by decide +kernel
theorem dX12_isStronger_10 : decode cX12_isStronger 10 = .ok (.iconst 1, 1) := by decide +kernel
theorem dX12_isStronger_11 : decode cX12_isStronger 11 = .ok (.invokevirtual 249, 3) := by decide +kernel
theorem dX12_isStronger_14 : decode cX12_isStronger 14 = .ok (.imul, 1) := by decide +kernel
theorem dX12_isStronger_15 : decode cX12_isStronger 15 = .ok (.iadd, 1) := by decide +kernel
theorem dX12_isStronger_16 : decode cX12_isStronger 16 = .ok (.iconst 1, 1) := by decide +kernel
theorem dX12_isStronger_17 : decode cX12_isStronger 17 = .ok (.iadd, 1) := by decide +kernel
theorem dX12_isStronger_18 : decode cX12_isStronger 18 = .ok (.iaload, 1) := by decide +kernel
theorem dX12_isStronger_19 : decode cX12_isStronger 19 = .ok (.istore_n 2, 1) := by decide +kernel
theorem dX12_isStronger_20 : decode cX12_isStronger 20 = .ok (.iconst 0, 1) := by decide +kernel
theorem dX12_isStronger_21 : decode cX12_isStronger 21 = .ok (.istore_n 3, 1) := by decide +kernel
theorem dX12_isStronger_22 : decode cX12_isStronger 22 = .ok (.iload_n 3, 1) := by decide +kernel
theorem dX12_isStronger_23 : decode cX12_isStronger 23 = .ok (.aload_n 0, 1) := by decide +kernel
theorem dX12_isStronger_24 : decode cX12_isStronger 24 = .ok (.getfield 7, 3) := by decide +kernel
theorem dX12_isStronger_27 : decode cX12_isStronger 27 = .ok (.iconst 1, 1) := by decide +kernel
theorem dX12_isStronger_28 : decode cX12_isStronger 28 = .ok (.iaload, 1) := by decide +kernel
theorem dX12_isStronger_29 : decode cX12_isStronger 29 = .ok (.if_icmp .ge 127, 3) := by decide +kernel
theorem dX12_isStronger_32 : decode cX12_isStronger 32 = .ok (.aload_n 0, 1) := by decide +kernel
theorem dX12_isStronger_33 : decode cX12_isStronger 33 = .ok (.getfield 47, 3) := by decide +kernel
theorem dX12_isStronger_36 : decode cX12_isStronger 36 = .ok (.iload_n 3, 1) := by decide +kernel
theorem dX12_isStronger_37 : decode cX12_isStronger 37 = .ok (.iaload, 1) := by decide +kernel
theorem dX12_isStronger_38 : decode cX12_isStronger 38 = .ok (.ifCond .ne 6, 3) := by decide +kernel
theorem dX12_isStronger_41 : decode cX12_isStronger 41 = .ok (.goto 109, 3) := by decide +kernel
theorem dX12_isStronger_44 : decode cX12_isStronger 44 = .ok (.iload_n 2, 1) := by decide +kernel
theorem dX12_isStronger_45 : decode cX12_isStronger 45 = .ok (.aload_n 0, 1) := by decide +kernel
theorem dX12_isStronger_46 : decode cX12_isStronger 46 = .ok (.iload_n 3, 1) := by decide +kernel
theorem dX12_isStronger_47 : decode cX12_isStronger 47 = .ok (.iconst 2, 1) := by decide +kernel
theorem dX12_isStronger_48 : decode cX12_isStronger 48 = .ok (.invokevirtual 249, 3) := by decide +kernel
theorem dX12_isStronger_51 : decode cX12_isStronger 51 = .ok (.isub, 1) := by decide +kernel
theorem dX12_isStronger_52 : decode cX12_isStronger 52 = .ok (.istore_n 2, 1) := by decide +kernel
theorem dX12_isStronger_53 : decode cX12_isStronger 53 = .ok (.iload_n 3, 1) := by decide +kernel
theorem dX12_isStronger_54 : decode cX12_isStronger 54 = .ok (.iload_n 1, 1) := by decide +kernel
theorem dX12_isStronger_55 : decode cX12_isStronger 55 = .ok (.if_icmp .eq 95, 3) := by decide +kernel
theorem dX12_isStronger_58 : decode cX12_isStronger 58 = .ok (.aload_n 0, 1) := by decide +kernel
theorem dX12_isStronger_59 : decode cX12_isStronger 59 = .ok (.iload_n 3, 1) := by decide +kernel
theorem dX12_isStronger_60 : decode cX12_isStronger 60 = .ok (.invokevirtual 252, 3) := by decide +kernel
theorem dX12_isStronger_63 : decode cX12_isStronger 63 = .ok (.ifCond .eq 6, 3) := by decide +kernel
theorem dX12_isStronger_66 : decode cX12_isStronger 66 = .ok (.goto 84, 3) := by decide +kernel
theorem dX12_isStronger_69 : decode cX12_isStronger 69 = .ok (.aload_n 0, 1) := by decide +kernel
theorem dX12_isStronger_70 : decode cX12_isStronger 70 = .ok (.iload_n 3, 1) := by decide +kernel
theorem dX12_isStronger_71 : decode cX12_isStronger 71 = .ok (.aload_n 0, 1) := by decide +kernel
theorem dX12_isStronger_72 : decode cX12_isStronger 72 = .ok (.iload_n 3, 1) := by decide +kernel
theorem dX12_isStronger_73 : decode cX12_isStronger 73 = .ok (.iconst 3, 1) := by decide +kernel
theorem dX12_isStronger_74 : decode cX12_isStronger 74 = .ok (.invokevirtual 249, 3) := by decide +kernel
theorem dX12_isStronger_77 : decode cX12_isStronger 77 = .ok (.invokevirtual 288, 3) := by decide +kernel
theorem dX12_isStronger_80 : decode cX12_isStronger 80 = .ok (.istore 4, 2) := by decide +kernel
theorem dX12_isStronger_82 : decode cX12_isStronger 82 = .ok (.aload_n 0, 1) := by decide +kernel
theorem dX12_isStronger_83 : decode cX12_isStronger 83 = .ok (.iload_n 3, 1) := by decide +kernel
theorem dX12_isStronger_84 : decode cX12_isStronger 84 = .ok (.aload_n 0, 1) := by decide +kernel
theorem dX12_isStronger_85 : decode cX12_isStronger 85 = .ok (.iload_n 3, 1) := by decide +kernel
theorem dX12_isStronger_86 : decode cX12_isStronger 86 = .ok (.aload_n 0, 1) := by decide +kernel
theorem dX12_isStronger_87 : decode cX12_isStronger 87 = .ok (.getfield 47, 3) := by decide +kernel
theorem dX12_isStronger_90 : decode cX12_isStronger 90 = .ok (.iload_n 3, 1) := by decide +kernel
theorem dX12_isStronger_91 : decode cX12_isStronger 91 = .ok (.iaload, 1) := by decide +kernel
theorem dX12_isStronger_92 : decode cX12_isStronger 92 = .ok (.invokevirtual 279, 3) := by decide +kernel
theorem dX12_isStronger_95 : decode cX12_isStronger 95 = .ok (.invokevirtual 288, 3) := by decide +kernel
theorem dX12_isStronger_98 : decode cX12_isStronger 98 = .ok (.istore 5, 2) := by decide +kernel
theorem dX12_isStronger_100 : decode cX12_isStronger 100 = .ok (.aload_n 0, 1) := by decide +kernel
theorem dX12_isStronger_101 : decode cX12_isStronger 101 = .ok (.getfield 7, 3) := by decide +kernel
theorem dX12_isStronger_104 : decode cX12_isStronger 104 = .ok (.sipush 2460, 3) := by decide +kernel
theorem dX12_isStronger_107 : decode cX12_isStronger 107 = .ok (.iconst 2, 1) := by decide +kernel
theorem dX12_isStronger_108 : decode cX12_isStronger 108 = .ok (.aload_n 0, 1) := by decide +kernel
theorem dX12_isStronger_109 : decode cX12_isStronger 109 = .ok (.iload_n 3, 1) := by decide +kernel
theorem dX12_isStronger_110 : decode cX12_isStronger 110 = .ok (.iconst 1, 1) := by decide +kernel
theorem dX12_isStronger_111 : decode cX12_isStronger 111 = .ok (.invokevirtual 249, 3) := by decide +kernel
theorem dX12_isStronger_114 : decode cX12_isStronger 114 = .ok (.imul, 1) := by decide +kernel
theorem dX12_isStronger_115 : decode cX12_isStronger 115 = .ok (.iadd, 1) := by decide +kernel
theorem dX12_isStronger_116 : decode cX12_isStronger 116 = .ok (.iconst 1, 1) := by decide +kernel
theorem dX12_isStronger_117 : decode cX12_isStronger 117 = .ok (.iadd, 1) := by decide +kernel
theorem dX12_isStronger_118 : decode cX12_isStronger 118 = .ok (.iaload, 1) := by decide +kernel
theorem dX12_isStronger_119 : decode cX12_isStronger 119 = .ok (.istore 6, 2) := by decide +kernel
theorem dX12_isStronger_121 : decode cX12_isStronger 121 = .ok (.iload_n 2, 1) := by decide +kernel
theorem dX12_isStronger_122 : decode cX12_isStronger 122 = .ok (.iload 5, 2) := by decide +kernel
theorem dX12_isStronger_124 : decode cX12_isStronger 124 = .ok (.iload 4, 2) := by decide +kernel
theorem dX12_isStronger_126 : decode cX12_isStronger 126 = .ok (.if_icmp .ge 8, 3) := by decide +kernel
theorem dX12_isStronger_129 : decode cX12_isStronger 129 = .ok (.iload 6, 2) := by decide +kernel
theorem dX12_isStronger_131 : decode cX12_isStronger 131 = .ok (.goto 17, 3) := by decide +kernel
theorem dX12_isStronger_134 : decode cX12_isStronger 134 = .ok (.iload 5, 2) := by decide +kernel
theorem dX12_isStronger_136 : decode cX12_isStronger 136 = .ok (.iload 4, 2) := by decide +kernel
theorem dX12_isStronger_138 : decode cX12_isStronger 138 = .ok (.if_icmp .le 9, 3) := by decide +kernel
theorem dX12_isStronger_141 : decode cX12_isStronger 141 = .ok (.iload 6, 2) := by decide +kernel
theorem dX12_isStronger_143 : decode cX12_isStronger 143 = .ok (.ineg, 1) := by decide +kernel
theorem dX12_isStronger_144 : decode cX12_isStronger 144 = .ok (.goto 4, 3) := by decide +kernel
theorem dX12_isStronger_147 : decode cX12_isStronger 147 = .ok (.iconst 0, 1) := by decide +kernel
theorem dX12_isStronger_148 : decode cX12_isStronger 148 = .ok (.iadd, 1) := by decide +kernel
theorem dX12_isStronger_149 : decode cX12_isStronger 149 = .ok (.istore_n 2, 1) := by decide +kernel
theorem dX12_isStronger_150 : decode cX12_isStronger 150 = .ok (.iinc 3 1, 3) := by decide +kernel
theorem dX12_isStronger_153 : decode cX12_isStronger 153 = .ok (.goto (-131), 3) := by decide +kernel
theorem dX12_isStronger_156 : decode cX12_isStronger 156 = .ok (.iload_n 2, 1) := by decide +kernel
theorem dX12_isStronger_157 : decode cX12_isStronger 157 = .ok (.ifCond .le 7, 3) := by decide +kernel
theorem dX12_isStronger_160 : decode cX12_isStronger 160 = .ok (.iconst 1, 1) := by decide +kernel
theorem dX12_isStronger_161 : decode cX12_isStronger 161 = .ok (.goto 4, 3) := by decide +kernel
theorem dX12_isStronger_164 : decode cX12_isStronger 164 = .ok (.iconst 0, 1) := by decide +kernel
theorem dX12_isStronger_165 : decode cX12_isStronger 165 = .ok (.ireturn, 1) := by decide +kernel
theorem dX12_shorter_0 : decode cX12_shorter 0 = .ok (.aload_n 0, 1) := by decide +kernel
theorem dX12_shorter_1 : decode cX12_shorter 1 = .ok (.iload_n 1, 1) := by decide +kernel
theorem dX12_shorter_2 : decode cX12_shorter 2 = .ok (.aload_n 0, 1) := by decide +kernel
theorem dX12_shorter_3 : decode cX12_shorter 3 = .ok (.iload_n 1, 1) := by decide +kernel
theorem dX12_shorter_4 : decode cX12_shorter 4 = .ok (.iconst 3, 1) := by decide +kernel
theorem dX12_shorter_5 : decode cX12_shorter 5 = .ok (.invokevirtual 249, 3) := by decide +kernel
theorem dX12_shorter_8 : decode cX12_shorter 8 = .ok (.invokevirtual 264, 3) := by decide +kernel
theorem dX12_shorter_11 : decode cX12_shorter 11 = .ok (.istore_n 2, 1) := by decide +kernel
theorem dX12_shorter_12 : decode cX12_shorter 12 = .ok (.iload_n 2, 1) := by decide +kernel
theorem dX12_shorter_13 : decode cX12_shorter 13 = .ok (.aload_n 0, 1) := by decide +kernel
theorem dX12_shorter_14 : decode cX12_shorter 14 = .ok (.iload_n 1, 1) := by decide +kernel
theorem dX12_shorter_15 : decode cX12_shorter 15 = .ok (.iconst 0, 1) := by decide +kernel
theorem dX12_shorter_16 : decode cX12_shorter 16 = .ok (.invokevirtual 249, 3) := by decide +kernel
theorem dX12_shorter_19 : decode cX12_shorter 19 = .ok (.iload_n 2, 1) := by decide +kernel
theorem dX12_shorter_20 : decode cX12_shorter 20 = .ok (.isub, 1) := by decide +kernel
theorem dX12_shorter_21 : decode cX12_shorter 21 = .ok (.if_icmp .gt 7, 3) := by decide +kernel
theorem dX12_shorter_24 : decode cX12_shorter 24 = .ok (.iconst 1, 1) := by decide +kernel
theorem dX12_shorter_25 : decode cX12_shorter 25 = .ok (.goto 4, 3) := by decide +kernel
theorem dX12_shorter_28 : decode cX12_shorter 28 = .ok (.iconst (-1), 1) := by decide +kernel
theorem dX12_shorter_29 : decode cX12_shorter 29 = .ok (.ireturn, 1) := by decide +kernel
theorem dX12_quarterGoes_0 : decode cX12_quarterGoes 0 = .ok (.aload_n 0, 1) := by decide +kernel
theorem dX12_quarterGoes_1 : decode cX12_quarterGoes 1 = .ok (.iconst (-1), 1) := by decide +kernel
theorem dX12_quarterGoes_2 : decode cX12_quarterGoes 2 = .ok (.putfield 291, 3) := by decide +kernel
theorem dX12_quarterGoes_5 : decode cX12_quarterGoes 5 = .ok (.iconst 0, 1) := by decide +kernel
theorem dX12_quarterGoes_6 : decode cX12_quarterGoes 6 = .ok (.istore_n 1, 1) := by decide +kernel
theorem dX12_quarterGoes_7 : decode cX12_quarterGoes 7 = .ok (.iload_n 1, 1) := by decide +kernel
theorem dX12_quarterGoes_8 : decode cX12_quarterGoes 8 = .ok (.aload_n 0, 1) := by decide +kernel
theorem dX12_quarterGoes_9 : decode cX12_quarterGoes 9 = .ok (.getfield 7, 3) := by decide +kernel
theorem dX12_quarterGoes_12 : decode cX12_quarterGoes 12 = .ok (.iconst 1, 1) := by decide +kernel
theorem dX12_quarterGoes_13 : decode cX12_quarterGoes 13 = .ok (.iaload, 1) := by decide +kernel
theorem dX12_quarterGoes_14 : decode cX12_quarterGoes 14 = .ok (.if_icmp .ge 77, 3) := by decide +kernel
theorem dX12_quarterGoes_17 : decode cX12_quarterGoes 17 = .ok (.aload_n 0, 1) := by decide +kernel
theorem dX12_quarterGoes_18 : decode cX12_quarterGoes 18 = .ok (.getfield 7, 3) := by decide +kernel
theorem dX12_quarterGoes_21 : decode cX12_quarterGoes 21 = .ok (.sipush 2455, 3) := by decide +kernel
theorem dX12_quarterGoes_24 : decode cX12_quarterGoes 24 = .ok (.iaload, 1) := by decide +kernel
theorem dX12_quarterGoes_25 : decode cX12_quarterGoes 25 = .ok (.iload_n 1, 1) := by decide +kernel
theorem dX12_quarterGoes_26 : decode cX12_quarterGoes 26 = .ok (.ishr, 1) := by decide +kernel
theorem dX12_quarterGoes_27 : decode cX12_quarterGoes 27 = .ok (.iconst 1, 1) := by decide +kernel
theorem dX12_quarterGoes_28 : decode cX12_quarterGoes 28 = .ok (.iand, 1) := by decide +kernel
theorem dX12_quarterGoes_29 : decode cX12_quarterGoes 29 = .ok (.iconst 1, 1) := by decide +kernel
theorem dX12_quarterGoes_30 : decode cX12_quarterGoes 30 = .ok (.if_icmp .eq 55, 3) := by decide +kernel
theorem dX12_quarterGoes_33 : decode cX12_quarterGoes 33 = .ok (.aload_n 0, 1) := by decide +kernel
theorem dX12_quarterGoes_34 : decode cX12_quarterGoes 34 = .ok (.iload_n 1, 1) := by decide +kernel
theorem dX12_quarterGoes_35 : decode cX12_quarterGoes 35 = .ok (.invokevirtual 258, 3) := by decide +kernel
theorem dX12_quarterGoes_38 : decode cX12_quarterGoes 38 = .ok (.ifCond .eq 6, 3) := by decide +kernel
theorem dX12_quarterGoes_41 : decode cX12_quarterGoes 41 = .ok (.goto 44, 3) := by decide +kernel
theorem dX12_quarterGoes_44 : decode cX12_quarterGoes 44 = .ok (.aload_n 0, 1) := by decide +kernel
theorem dX12_quarterGoes_45 : decode cX12_quarterGoes 45 = .ok (.iload_n 1, 1) := by decide +kernel
theorem dX12_quarterGoes_46 : decode cX12_quarterGoes 46 = .ok (.aload_n 0, 1) := by decide +kernel
theorem dX12_quarterGoes_47 : decode cX12_quarterGoes 47 = .ok (.iload_n 1, 1) := by decide +kernel
theorem dX12_quarterGoes_48 : decode cX12_quarterGoes 48 = .ok (.invokevirtual 294, 3) := by decide +kernel
theorem dX12_quarterGoes_51 : decode cX12_quarterGoes 51 = .ok (.invokevirtual 297, 3) := by decide +kernel
theorem dX12_quarterGoes_54 : decode cX12_quarterGoes 54 = .ok (.ifCond .eq 31, 3) := by decide +kernel
theorem dX12_quarterGoes_57 : decode cX12_quarterGoes 57 = .ok (.aload_n 0, 1) := by decide +kernel
theorem dX12_quarterGoes_58 : decode cX12_quarterGoes 58 = .ok (.iload_n 1, 1) := by decide +kernel
theorem dX12_quarterGoes_59 : decode cX12_quarterGoes 59 = .ok (.invokevirtual 300, 3) := by decide +kernel
theorem dX12_quarterGoes_62 : decode cX12_quarterGoes 62 = .ok (.ifCond .ne 6, 3) := by decide +kernel
theorem dX12_quarterGoes_65 : decode cX12_quarterGoes 65 = .ok (.goto 20, 3) := by decide +kernel
theorem dX12_quarterGoes_68 : decode cX12_quarterGoes 68 = .ok (.aload_n 0, 1) := by decide +kernel
theorem dX12_quarterGoes_69 : decode cX12_quarterGoes 69 = .ok (.invokevirtual 303, 3) := by decide +kernel
theorem dX12_quarterGoes_72 : decode cX12_quarterGoes 72 = .ok (.aload_n 0, 1) := by decide +kernel
theorem dX12_quarterGoes_73 : decode cX12_quarterGoes 73 = .ok (.getfield 291, 3) := by decide +kernel
theorem dX12_quarterGoes_76 : decode cX12_quarterGoes 76 = .ok (.iconst (-1), 1) := by decide +kernel
theorem dX12_quarterGoes_77 : decode cX12_quarterGoes 77 = .ok (.if_icmp .ne 8, 3) := by decide +kernel
theorem dX12_quarterGoes_80 : decode cX12_quarterGoes 80 = .ok (.aload_n 0, 1) := by decide +kernel
theorem dX12_quarterGoes_81 : decode cX12_quarterGoes 81 = .ok (.iload_n 1, 1) := by decide +kernel
theorem dX12_quarterGoes_82 : decode cX12_quarterGoes 82 = .ok (.putfield 291, 3) := by decide +kernel
theorem dX12_quarterGoes_85 : decode cX12_quarterGoes 85 = .ok (.iinc 1 1, 3) := by decide +kernel
theorem dX12_quarterGoes_88 : decode cX12_quarterGoes 88 = .ok (.goto (-81), 3) := by decide +kernel
theorem dX12_quarterGoes_91 : decode cX12_quarterGoes 91 = .ok (.aload_n 0, 1) := by decide +kernel
theorem dX12_quarterGoes_92 : decode cX12_quarterGoes 92 = .ok (.getfield 7, 3) := by decide +kernel
theorem dX12_quarterGoes_95 : decode cX12_quarterGoes 95 = .ok (.sipush 2453, 3) := by decide +kernel
theorem dX12_quarterGoes_98 : decode cX12_quarterGoes 98 = .ok (.iaload, 1) := by decide +kernel
theorem dX12_quarterGoes_99 : decode cX12_quarterGoes 99 = .ok (.sipush 9999, 3) := by decide +kernel
theorem dX12_quarterGoes_102 : decode cX12_quarterGoes 102 = .ok (.if_icmp .ge 15, 3) := by decide +kernel
theorem dX12_quarterGoes_105 : decode cX12_quarterGoes 105 = .ok (.aload_n 0, 1) := by decide +kernel
theorem dX12_quarterGoes_106 : decode cX12_quarterGoes 106 = .ok (.getfield 7, 3) := by decide +kernel
theorem dX12_quarterGoes_109 : decode cX12_quarterGoes 109 = .ok (.sipush 2453, 3) := by decide +kernel
theorem dX12_quarterGoes_112 : decode cX12_quarterGoes 112 = .ok (.dup2, 1) := by decide +kernel
theorem dX12_quarterGoes_113 : decode cX12_quarterGoes 113 = .ok (.iaload, 1) := by decide +kernel
theorem dX12_quarterGoes_114 : decode cX12_quarterGoes 114 = .ok (.iconst 1, 1) := by decide +kernel
theorem dX12_quarterGoes_115 : decode cX12_quarterGoes 115 = .ok (.iadd, 1) := by decide +kernel
theorem dX12_quarterGoes_116 : decode cX12_quarterGoes 116 = .ok (.iastore, 1) := by decide +kernel
theorem dX12_quarterGoes_117 : decode cX12_quarterGoes 117 = .ok (.aload_n 0, 1) := by decide +kernel
theorem dX12_quarterGoes_118 : decode cX12_quarterGoes 118 = .ok (.getfield 291, 3) := by decide +kernel
theorem dX12_quarterGoes_121 : decode cX12_quarterGoes 121 = .ok (.iconst (-1), 1) := by decide +kernel
theorem dX12_quarterGoes_122 : decode cX12_quarterGoes 122 = .ok (.if_icmp .eq 7, 3) := by decide +kernel
theorem dX12_quarterGoes_125 : decode cX12_quarterGoes 125 = .ok (.iconst 1, 1) := by decide +kernel
theorem dX12_quarterGoes_126 : decode cX12_quarterGoes 126 = .ok (.goto 4, 3) := by decide +kernel
theorem dX12_quarterGoes_129 : decode cX12_quarterGoes 129 = .ok (.iconst 0, 1) := by decide +kernel
theorem dX12_quarterGoes_130 : decode cX12_quarterGoes 130 = .ok (.ireturn, 1) := by decide +kernel
theorem dX12_begins1_0 : decode cX12_begins1 0 = .ok (.aload_n 0, 1) := by decide +kernel
theorem dX12_begins1_1 : decode cX12_begins1 1 = .ok (.invokevirtual 261, 3) := by decide +kernel
theorem dX12_begins1_4 : decode cX12_begins1 4 = .ok (.aload_n 0, 1) := by decide +kernel
theorem dX12_begins1_5 : decode cX12_begins1 5 = .ok (.iconst 0, 1) := by decide +kernel
theorem dX12_begins1_6 : decode cX12_begins1 6 = .ok (.putfield 285, 3) := by decide +kernel
theorem dX12_begins1_9 : decode cX12_begins1 9 = .ok (.aload_n 0, 1) := by decide +kernel
theorem dX12_begins1_10 : decode cX12_begins1 10 = .ok (.iconst 0, 1) := by decide +kernel
theorem dX12_begins1_11 : decode cX12_begins1 11 = .ok (.putfield 282, 3) := by decide +kernel
theorem dX12_begins1_14 : decode cX12_begins1 14 = .ok (.return_, 1) := by decide +kernel
theorem dX12_goesBy_0 : decode cX12_goesBy 0 = .ok (.iconst 0, 1) := by decide +kernel
theorem dX12_goesBy_1 : decode cX12_goesBy 1 = .ok (.istore_n 2, 1) := by decide +kernel
theorem dX12_goesBy_2 : decode cX12_goesBy 2 = .ok (.iload_n 2, 1) := by decide +kernel
theorem dX12_goesBy_3 : decode cX12_goesBy 3 = .ok (.iload_n 1, 1) := by decide +kernel
theorem dX12_goesBy_4 : decode cX12_goesBy 4 = .ok (.if_icmp .ge 17, 3) := by decide +kernel
theorem dX12_goesBy_7 : decode cX12_goesBy 7 = .ok (.aload_n 0, 1) := by decide +kernel
theorem dX12_goesBy_8 : decode cX12_goesBy 8 = .ok (.aload_n 0, 1) := by decide +kernel
theorem dX12_goesBy_9 : decode cX12_goesBy 9 = .ok (.invokevirtual 306, 3) := by decide +kernel
theorem dX12_goesBy_12 : decode cX12_goesBy 12 = .ok (.putfield 309, 3) := by decide +kernel
theorem dX12_goesBy_15 : decode cX12_goesBy 15 = .ok (.iinc 2 1, 3) := by decide +kernel
theorem dX12_goesBy_18 : decode cX12_goesBy 18 = .ok (.goto (-16), 3) := by decide +kernel
theorem dX12_goesBy_21 : decode cX12_goesBy 21 = .ok (.return_, 1) := by decide +kernel
theorem dX12_isDirection_0 : decode cX12_isDirection 0 = .ok (.iload_n 0, 1) := by decide +kernel
theorem dX12_isDirection_1 : decode cX12_isDirection 1 = .ok (.ifCond .lt 13, 3) := by decide +kernel
theorem dX12_isDirection_4 : decode cX12_isDirection 4 = .ok (.iload_n 0, 1) := by decide +kernel
theorem dX12_isDirection_5 : decode cX12_isDirection 5 = .ok (.bipush 16, 2) := by decide +kernel
theorem dX12_isDirection_7 : decode cX12_isDirection 7 = .ok (.if_icmp .ge 7, 3) := by decide +kernel
theorem dX12_isDirection_10 : decode cX12_isDirection 10 = .ok (.iconst 1, 1) := by decide +kernel
theorem dX12_isDirection_11 : decode cX12_isDirection 11 = .ok (.goto 4, 3) := by decide +kernel
theorem dX12_isDirection_14 : decode cX12_isDirection 14 = .ok (.iconst 0, 1) := by decide +kernel
theorem dX12_isDirection_15 : decode cX12_isDirection 15 = .ok (.ireturn, 1) := by decide +kernel
theorem dX12_wind_0 : decode cX12_wind 0 = .ok (.aload_n 0, 1) := by decide +kernel
theorem dX12_wind_1 : decode cX12_wind 1 = .ok (.iload_n 1, 1) := by decide +kernel
theorem dX12_wind_2 : decode cX12_wind 2 = .ok (.invokevirtual 313, 3) := by decide +kernel
theorem dX12_wind_5 : decode cX12_wind 5 = .ok (.ifCond .eq 22, 3) := by decide +kernel
theorem dX12_wind_8 : decode cX12_wind 8 = .ok (.iload_n 2, 1) := by decide +kernel
theorem dX12_wind_9 : decode cX12_wind 9 = .ok (.invokestatic 316, 3) := by decide +kernel
theorem dX12_wind_12 : decode cX12_wind 12 = .ok (.ifCond .eq 15, 3) := by decide +kernel
theorem dX12_wind_15 : decode cX12_wind 15 = .ok (.iload_n 3, 1) := by decide +kernel
theorem dX12_wind_16 : decode cX12_wind 16 = .ok (.i2l, 1) := by decide +kernel
theorem dX12_wind_17 : decode cX12_wind 17 = .ok (.lconst 0, 1) := by decide +kernel
theorem dX12_wind_18 : decode cX12_wind 18 = .ok (.ldc2_w 319, 3) := by decide +kernel
theorem dX12_wind_21 : decode cX12_wind 21 = .ok (.invokestatic 321, 3) := by decide +kernel
theorem dX12_wind_24 : decode cX12_wind 24 = .ok (.ifCond .ne 9, 3) := by decide +kernel
theorem dX12_wind_27 : decode cX12_wind 27 = .ok (.aload_n 0, 1) := by decide +kernel
theorem dX12_wind_28 : decode cX12_wind 28 = .ok (.iconst 1, 1) := by decide +kernel
theorem dX12_wind_29 : decode cX12_wind 29 = .ok (.invokevirtual 90, 3) := by decide +kernel
theorem dX12_wind_32 : decode cX12_wind 32 = .ok (.ireturn, 1) := by decide +kernel
theorem dX12_wind_33 : decode cX12_wind 33 = .ok (.aload_n 0, 1) := by decide +kernel
theorem dX12_wind_34 : decode cX12_wind 34 = .ok (.getfield 7, 3) := by decide +kernel
theorem dX12_wind_37 : decode cX12_wind 37 = .ok (.bipush 10, 2) := by decide +kernel
theorem dX12_wind_39 : decode cX12_wind 39 = .ok (.iconst 2, 1) := by decide +kernel
theorem dX12_wind_40 : decode cX12_wind 40 = .ok (.iload_n 1, 1) := by decide +kernel
theorem dX12_wind_41 : decode cX12_wind 41 = .ok (.imul, 1) := by decide +kernel
theorem dX12_wind_42 : decode cX12_wind 42 = .ok (.iadd, 1) := by decide +kernel
theorem dX12_wind_43 : decode cX12_wind 43 = .ok (.iload_n 2, 1) := by decide +kernel
theorem dX12_wind_44 : decode cX12_wind 44 = .ok (.iastore, 1) := by decide +kernel
theorem dX12_wind_45 : decode cX12_wind 45 = .ok (.aload_n 0, 1) := by decide +kernel
theorem dX12_wind_46 : decode cX12_wind 46 = .ok (.getfield 7, 3) := by decide +kernel
theorem dX12_wind_49 : decode cX12_wind 49 = .ok (.bipush 10, 2) := by decide +kernel
theorem dX12_wind_51 : decode cX12_wind 51 = .ok (.iconst 2, 1) := by decide +kernel
theorem dX12_wind_52 : decode cX12_wind 52 = .ok (.iload_n 1, 1) := by decide +kernel
theorem dX12_wind_53 : decode cX12_wind 53 = .ok (.imul, 1) := by decide +kernel
theorem dX12_wind_54 : decode cX12_wind 54 = .ok (.iadd, 1) := by decide +kernel
theorem dX12_wind_55 : decode cX12_wind 55 = .ok (.iconst 1, 1) := by decide +kernel
theorem dX12_wind_56 : decode cX12_wind 56 = .ok (.iadd, 1) := by decide +kernel
theorem dX12_wind_57 : decode cX12_wind 57 = .ok (.iload_n 3, 1) := by decide +kernel
theorem dX12_wind_58 : decode cX12_wind 58 = .ok (.iastore, 1) := by decide +kernel
theorem dX12_wind_59 : decode cX12_wind 59 = .ok (.aload_n 0, 1) := by decide +kernel
theorem dX12_wind_60 : decode cX12_wind 60 = .ok (.iconst 0, 1) := by decide +kernel
theorem dX12_wind_61 : decode cX12_wind 61 = .ok (.invokevirtual 90, 3) := by decide +kernel
theorem dX12_wind_64 : decode cX12_wind 64 = .ok (.ireturn, 1) := by decide +kernel
theorem dX12_windAt_0 : decode cX12_windAt 0 = .ok (.aload_n 0, 1) := by decide +kernel
theorem dX12_windAt_1 : decode cX12_windAt 1 = .ok (.iload_n 1, 1) := by decide +kernel
theorem dX12_windAt_2 : decode cX12_windAt 2 = .ok (.invokevirtual 313, 3) := by decide +kernel
theorem dX12_windAt_5 : decode cX12_windAt 5 = .ok (.ifCond .eq 32, 3) := by decide +kernel
theorem dX12_windAt_8 : decode cX12_windAt 8 = .ok (.iload_n 2, 1) := by decide +kernel
theorem dX12_windAt_9 : decode cX12_windAt 9 = .ok (.ifCond .eq 8, 3) := by decide +kernel
theorem dX12_windAt_12 : decode cX12_windAt 12 = .ok (.iload_n 2, 1) := by decide +kernel
theorem dX12_windAt_13 : decode cX12_windAt 13 = .ok (.iconst 1, 1) := by decide +kernel
theorem dX12_windAt_14 : decode cX12_windAt 14 = .ok (.if_icmp .ne 23, 3) := by decide +kernel
theorem dX12_windAt_17 : decode cX12_windAt 17 = .ok (.aload_n 0, 1) := by decide +kernel
theorem dX12_windAt_18 : decode cX12_windAt 18 = .ok (.aload_n 0, 1) := by decide +kernel
theorem dX12_windAt_19 : decode cX12_windAt 19 = .ok (.getfield 7, 3) := by decide +kernel
theorem dX12_windAt_22 : decode cX12_windAt 22 = .ok (.bipush 10, 2) := by decide +kernel
theorem dX12_windAt_24 : decode cX12_windAt 24 = .ok (.iconst 2, 1) := by decide +kernel
theorem dX12_windAt_25 : decode cX12_windAt 25 = .ok (.iload_n 1, 1) := by decide +kernel
theorem dX12_windAt_26 : decode cX12_windAt 26 = .ok (.imul, 1) := by decide +kernel
theorem dX12_windAt_27 : decode cX12_windAt 27 = .ok (.iadd, 1) := by decide +kernel
theorem dX12_windAt_28 : decode cX12_windAt 28 = .ok (.iload_n 2, 1) := by decide +kernel
theorem dX12_windAt_29 : decode cX12_windAt 29 = .ok (.iadd, 1) := by decide +kernel
theorem dX12_windAt_30 : decode cX12_windAt 30 = .ok (.iaload, 1) := by decide +kernel
theorem dX12_windAt_31 : decode cX12_windAt 31 = .ok (.invokevirtual 87, 3) := by decide +kernel
theorem dX12_windAt_34 : decode cX12_windAt 34 = .ok (.goto 8, 3) := by decide +kernel
theorem dX12_windAt_37 : decode cX12_windAt 37 = .ok (.aload_n 0, 1) := by decide +kernel
theorem dX12_windAt_38 : decode cX12_windAt 38 = .ok (.iconst 1, 1) := by decide +kernel
theorem dX12_windAt_39 : decode cX12_windAt 39 = .ok (.invokevirtual 83, 3) := by decide +kernel
theorem dX12_windAt_42 : decode cX12_windAt 42 = .ok (.ireturn, 1) := by decide +kernel
theorem dX12_lift_0 : decode cX12_lift 0 = .ok (.aload_n 0, 1) := by decide +kernel
theorem dX12_lift_1 : decode cX12_lift 1 = .ok (.iload_n 1, 1) := by decide +kernel
theorem dX12_lift_2 : decode cX12_lift 2 = .ok (.invokevirtual 246, 3) := by decide +kernel
theorem dX12_lift_5 : decode cX12_lift 5 = .ok (.ifCond .ne 9, 3) := by decide +kernel
theorem dX12_lift_8 : decode cX12_lift 8 = .ok (.aload_n 0, 1) := by decide +kernel
theorem dX12_lift_9 : decode cX12_lift 9 = .ok (.iconst 1, 1) := by decide +kernel
theorem dX12_lift_10 : decode cX12_lift 10 = .ok (.invokevirtual 90, 3) := by decide +kernel
theorem dX12_lift_13 : decode cX12_lift 13 = .ok (.ireturn, 1) := by decide +kernel
theorem dX12_lift_14 : decode cX12_lift 14 = .ok (.aload_n 0, 1) := by decide +kernel
theorem dX12_lift_15 : decode cX12_lift 15 = .ok (.getfield 7, 3) := by decide +kernel
theorem dX12_lift_18 : decode cX12_lift 18 = .ok (.iconst 4, 1) := by decide +kernel
theorem dX12_lift_19 : decode cX12_lift 19 = .ok (.aload_n 0, 1) := by decide +kernel
theorem dX12_lift_20 : decode cX12_lift 20 = .ok (.getfield 7, 3) := by decide +kernel
theorem dX12_lift_23 : decode cX12_lift 23 = .ok (.iconst 4, 1) := by decide +kernel
theorem dX12_lift_24 : decode cX12_lift 24 = .ok (.iaload, 1) := by decide +kernel
theorem dX12_lift_25 : decode cX12_lift 25 = .ok (.iconst 1, 1) := by decide +kernel
theorem dX12_lift_26 : decode cX12_lift 26 = .ok (.iload_n 1, 1) := by decide +kernel
theorem dX12_lift_27 : decode cX12_lift 27 = .ok (.ishl, 1) := by decide +kernel
theorem dX12_lift_28 : decode cX12_lift 28 = .ok (.iconst (-1), 1) := by decide +kernel
theorem dX12_lift_29 : decode cX12_lift 29 = .ok (.ixor, 1) := by decide +kernel
theorem dX12_lift_30 : decode cX12_lift 30 = .ok (.iand, 1) := by decide +kernel
theorem dX12_lift_31 : decode cX12_lift 31 = .ok (.iload_n 2, 1) := by decide +kernel
theorem dX12_lift_32 : decode cX12_lift 32 = .ok (.ifCond .eq 9, 3) := by decide +kernel
theorem dX12_lift_35 : decode cX12_lift 35 = .ok (.iconst 1, 1) := by decide +kernel
theorem dX12_lift_36 : decode cX12_lift 36 = .ok (.iload_n 1, 1) := by decide +kernel
theorem dX12_lift_37 : decode cX12_lift 37 = .ok (.ishl, 1) := by decide +kernel
theorem dX12_lift_38 : decode cX12_lift 38 = .ok (.goto 4, 3) := by decide +kernel
theorem dX12_lift_41 : decode cX12_lift 41 = .ok (.iconst 0, 1) := by decide +kernel
theorem dX12_lift_42 : decode cX12_lift 42 = .ok (.ior, 1) := by decide +kernel
theorem dX12_lift_43 : decode cX12_lift 43 = .ok (.iastore, 1) := by decide +kernel
theorem dX12_lift_44 : decode cX12_lift 44 = .ok (.aload_n 0, 1) := by decide +kernel
theorem dX12_lift_45 : decode cX12_lift 45 = .ok (.iconst 0, 1) := by decide +kernel
theorem dX12_lift_46 : decode cX12_lift 46 = .ok (.invokevirtual 90, 3) := by decide +kernel
theorem dX12_lift_49 : decode cX12_lift 49 = .ok (.ireturn, 1) := by decide +kernel
theorem dX12_hold_0 : decode cX12_hold 0 = .ok (.aload_n 0, 1) := by decide +kernel
theorem dX12_hold_1 : decode cX12_hold 1 = .ok (.iload_n 1, 1) := by decide +kernel
theorem dX12_hold_2 : decode cX12_hold 2 = .ok (.invokevirtual 243, 3) := by decide +kernel
theorem dX12_hold_5 : decode cX12_hold 5 = .ok (.ifCond .ne 9, 3) := by decide +kernel
theorem dX12_hold_8 : decode cX12_hold 8 = .ok (.aload_n 0, 1) := by decide +kernel
theorem dX12_hold_9 : decode cX12_hold 9 = .ok (.iconst 1, 1) := by decide +kernel
theorem dX12_hold_10 : decode cX12_hold 10 = .ok (.invokevirtual 90, 3) := by decide +kernel
theorem dX12_hold_13 : decode cX12_hold 13 = .ok (.ireturn, 1) := by decide +kernel
theorem dX12_hold_14 : decode cX12_hold 14 = .ok (.aload_n 0, 1) := by decide +kernel
theorem dX12_hold_15 : decode cX12_hold 15 = .ok (.getfield 7, 3) := by decide +kernel
theorem dX12_hold_18 : decode cX12_hold 18 = .ok (.iconst 5, 1) := by decide +kernel
theorem dX12_hold_19 : decode cX12_hold 19 = .ok (.aload_n 0, 1) := by decide +kernel
theorem dX12_hold_20 : decode cX12_hold 20 = .ok (.getfield 7, 3) := by decide +kernel
theorem dX12_hold_23 : decode cX12_hold 23 = .ok (.iconst 5, 1) := by decide +kernel
theorem dX12_hold_24 : decode cX12_hold 24 = .ok (.iaload, 1) := by decide +kernel
theorem dX12_hold_25 : decode cX12_hold 25 = .ok (.iconst 1, 1) := by decide +kernel
theorem dX12_hold_26 : decode cX12_hold 26 = .ok (.iload_n 1, 1) := by decide +kernel
theorem dX12_hold_27 : decode cX12_hold 27 = .ok (.ishl, 1) := by decide +kernel
theorem dX12_hold_28 : decode cX12_hold 28 = .ok (.iconst (-1), 1) := by decide +kernel
theorem dX12_hold_29 : decode cX12_hold 29 = .ok (.ixor, 1) := by decide +kernel
theorem dX12_hold_30 : decode cX12_hold 30 = .ok (.iand, 1) := by decide +kernel
theorem dX12_hold_31 : decode cX12_hold 31 = .ok (.iload_n 2, 1) := by decide +kernel
theorem dX12_hold_32 : decode cX12_hold 32 = .ok (.ifCond .eq 9, 3) := by decide +kernel
theorem dX12_hold_35 : decode cX12_hold 35 = .ok (.iconst 1, 1) := by decide +kernel
theorem dX12_hold_36 : decode cX12_hold 36 = .ok (.iload_n 1, 1) := by decide +kernel
theorem dX12_hold_37 : decode cX12_hold 37 = .ok (.ishl, 1) := by decide +kernel
theorem dX12_hold_38 : decode cX12_hold 38 = .ok (.goto 4, 3) := by decide +kernel
theorem dX12_hold_41 : decode cX12_hold 41 = .ok (.iconst 0, 1) := by decide +kernel
theorem dX12_hold_42 : decode cX12_hold 42 = .ok (.ior, 1) := by decide +kernel
theorem dX12_hold_43 : decode cX12_hold 43 = .ok (.iastore, 1) := by decide +kernel
theorem dX12_hold_44 : decode cX12_hold 44 = .ok (.aload_n 0, 1) := by decide +kernel
theorem dX12_hold_45 : decode cX12_hold 45 = .ok (.iconst 0, 1) := by decide +kernel
theorem dX12_hold_46 : decode cX12_hold 46 = .ok (.invokevirtual 90, 3) := by decide +kernel
theorem dX12_hold_49 : decode cX12_hold 49 = .ok (.ireturn, 1) := by decide +kernel
theorem dX12_pass_0 : decode cX12_pass 0 = .ok (.iload_n 1, 1) := by decide +kernel
theorem dX12_pass_1 : decode cX12_pass 1 = .ok (.i2l, 1) := by decide +kernel
theorem dX12_pass_2 : decode cX12_pass 2 = .ok (.lconst 1, 1) := by decide +kernel
theorem dX12_pass_3 : decode cX12_pass 3 = .ok (.ldc2_w 319, 3) := by decide +kernel
theorem dX12_pass_6 : decode cX12_pass 6 = .ok (.invokestatic 321, 3) := by decide +kernel
theorem dX12_pass_9 : decode cX12_pass 9 = .ok (.ifCond .ne 9, 3) := by decide +kernel
theorem dX12_pass_12 : decode cX12_pass 12 = .ok (.aload_n 0, 1) := by decide +kernel
theorem dX12_pass_13 : decode cX12_pass 13 = .ok (.iconst 1, 1) := by decide +kernel
theorem dX12_pass_14 : decode cX12_pass 14 = .ok (.invokevirtual 83, 3) := by decide +kernel
theorem dX12_pass_17 : decode cX12_pass 17 = .ok (.ireturn, 1) := by decide +kernel
theorem dX12_pass_18 : decode cX12_pass 18 = .ok (.aload_n 0, 1) := by decide +kernel
theorem dX12_pass_19 : decode cX12_pass 19 = .ok (.getfield 7, 3) := by decide +kernel
theorem dX12_pass_22 : decode cX12_pass 22 = .ok (.iconst 3, 1) := by decide +kernel
theorem dX12_pass_23 : decode cX12_pass 23 = .ok (.iaload, 1) := by decide +kernel
theorem dX12_pass_24 : decode cX12_pass 24 = .ok (.iload_n 1, 1) := by decide +kernel
theorem dX12_pass_25 : decode cX12_pass 25 = .ok (.iadd, 1) := by decide +kernel
theorem dX12_pass_26 : decode cX12_pass 26 = .ok (.sipush 9999, 3) := by decide +kernel
theorem dX12_pass_29 : decode cX12_pass 29 = .ok (.if_icmp .le 9, 3) := by decide +kernel
theorem dX12_pass_32 : decode cX12_pass 32 = .ok (.aload_n 0, 1) := by decide +kernel
theorem dX12_pass_33 : decode cX12_pass 33 = .ok (.iconst 4, 1) := by decide +kernel
theorem dX12_pass_34 : decode cX12_pass 34 = .ok (.invokevirtual 83, 3) := by decide +kernel
theorem dX12_pass_37 : decode cX12_pass 37 = .ok (.ireturn, 1) := by decide +kernel
theorem dX12_pass_38 : decode cX12_pass 38 = .ok (.aload_n 0, 1) := by decide +kernel
theorem dX12_pass_39 : decode cX12_pass 39 = .ok (.invokevirtual 325, 3) := by decide +kernel
theorem dX12_pass_42 : decode cX12_pass 42 = .ok (.aload_n 0, 1) := by decide +kernel
theorem dX12_pass_43 : decode cX12_pass 43 = .ok (.iload_n 1, 1) := by decide +kernel
theorem dX12_pass_44 : decode cX12_pass 44 = .ok (.invokevirtual 328, 3) := by decide +kernel
theorem dX12_pass_47 : decode cX12_pass 47 = .ok (.aload_n 0, 1) := by decide +kernel
theorem dX12_pass_48 : decode cX12_pass 48 = .ok (.invokevirtual 331, 3) := by decide +kernel
theorem dX12_pass_51 : decode cX12_pass 51 = .ok (.aload_n 0, 1) := by decide +kernel
theorem dX12_pass_52 : decode cX12_pass 52 = .ok (.aload_n 0, 1) := by decide +kernel
theorem dX12_pass_53 : decode cX12_pass 53 = .ok (.getfield 7, 3) := by decide +kernel
theorem dX12_pass_56 : decode cX12_pass 56 = .ok (.iconst 3, 1) := by decide +kernel
theorem dX12_pass_57 : decode cX12_pass 57 = .ok (.iaload, 1) := by decide +kernel
theorem dX12_pass_58 : decode cX12_pass 58 = .ok (.invokevirtual 87, 3) := by decide +kernel
theorem dX12_pass_61 : decode cX12_pass 61 = .ok (.ireturn, 1) := by decide +kernel
theorem dX12_turnsBy_0 : decode cX12_turnsBy 0 = .ok (.iload_n 2, 1) := by decide +kernel
theorem dX12_turnsBy_1 : decode cX12_turnsBy 1 = .ok (.ifCond .ge 8, 3) := by decide +kernel
theorem dX12_turnsBy_4 : decode cX12_turnsBy 4 = .ok (.iload_n 2, 1) := by decide +kernel
theorem dX12_turnsBy_5 : decode cX12_turnsBy 5 = .ok (.ineg, 1) := by decide +kernel
theorem dX12_turnsBy_6 : decode cX12_turnsBy 6 = .ok (.goto 4, 3) := by decide +kernel
theorem dX12_turnsBy_9 : decode cX12_turnsBy 9 = .ok (.iload_n 2, 1) := by decide +kernel
theorem dX12_turnsBy_10 : decode cX12_turnsBy 10 = .ok (.istore_n 3, 1) := by decide +kernel
theorem dX12_turnsBy_11 : decode cX12_turnsBy 11 = .ok (.iconst 0, 1) := by decide +kernel
theorem dX12_turnsBy_12 : decode cX12_turnsBy 12 = .ok (.istore 4, 2) := by decide +kernel
theorem dX12_turnsBy_14 : decode cX12_turnsBy 14 = .ok (.iload 4, 2) := by decide +kernel
theorem dX12_turnsBy_16 : decode cX12_turnsBy 16 = .ok (.iload_n 3, 1) := by decide +kernel
theorem dX12_turnsBy_17 : decode cX12_turnsBy 17 = .ok (.if_icmp .ge 33, 3) := by decide +kernel
theorem dX12_turnsBy_20 : decode cX12_turnsBy 20 = .ok (.aload_n 0, 1) := by decide +kernel
theorem dX12_turnsBy_21 : decode cX12_turnsBy 21 = .ok (.iload_n 1, 1) := by decide +kernel
theorem dX12_turnsBy_22 : decode cX12_turnsBy 22 = .ok (.iload_n 2, 1) := by decide +kernel
theorem dX12_turnsBy_23 : decode cX12_turnsBy 23 = .ok (.ifCond .ge 7, 3) := by decide +kernel
theorem dX12_turnsBy_26 : decode cX12_turnsBy 26 = .ok (.iconst (-1), 1) := by decide +kernel
theorem dX12_turnsBy_27 : decode cX12_turnsBy 27 = .ok (.goto 4, 3) := by decide +kernel
theorem dX12_turnsBy_30 : decode cX12_turnsBy 30 = .ok (.iconst 1, 1) := by decide +kernel
theorem dX12_turnsBy_31 : decode cX12_turnsBy 31 = .ok (.invokevirtual 297, 3) := by decide +kernel
theorem dX12_turnsBy_34 : decode cX12_turnsBy 34 = .ok (.ifCond .ne 6, 3) := by decide +kernel
theorem dX12_turnsBy_37 : decode cX12_turnsBy 37 = .ok (.iload 4, 2) := by decide +kernel
theorem dX12_turnsBy_39 : decode cX12_turnsBy 39 = .ok (.ireturn, 1) := by decide +kernel
theorem dX12_turnsBy_40 : decode cX12_turnsBy 40 = .ok (.aload_n 0, 1) := by decide +kernel
theorem dX12_turnsBy_41 : decode cX12_turnsBy 41 = .ok (.invokevirtual 303, 3) := by decide +kernel
theorem dX12_turnsBy_44 : decode cX12_turnsBy 44 = .ok (.iinc 4 1, 3) := by decide +kernel
theorem dX12_turnsBy_47 : decode cX12_turnsBy 47 = .ok (.goto (-33), 3) := by decide +kernel
theorem dX12_turnsBy_50 : decode cX12_turnsBy 50 = .ok (.iload_n 3, 1) := by decide +kernel
theorem dX12_turnsBy_51 : decode cX12_turnsBy 51 = .ok (.ireturn, 1) := by decide +kernel
theorem dX12_turn_0 : decode cX12_turn 0 = .ok (.aload_n 0, 1) := by decide +kernel
theorem dX12_turn_1 : decode cX12_turn 1 = .ok (.iload_n 1, 1) := by decide +kernel
theorem dX12_turn_2 : decode cX12_turn 2 = .ok (.invokevirtual 243, 3) := by decide +kernel
theorem dX12_turn_5 : decode cX12_turn 5 = .ok (.ifCond .eq 21, 3) := by decide +kernel
theorem dX12_turn_8 : decode cX12_turn 8 = .ok (.iload_n 2, 1) := by decide +kernel
theorem dX12_turn_9 : decode cX12_turn 9 = .ok (.ifCond .eq 17, 3) := by decide +kernel
theorem dX12_turn_12 : decode cX12_turn 12 = .ok (.iload_n 2, 1) := by decide +kernel
theorem dX12_turn_13 : decode cX12_turn 13 = .ok (.i2l, 1) := by decide +kernel
theorem dX12_turn_14 : decode cX12_turn 14 = .ok (.ldc2_w 334, 3) := by decide +kernel
theorem dX12_turn_17 : decode cX12_turn 17 = .ok (.ldc2_w 319, 3) := by decide +kernel
theorem dX12_turn_20 : decode cX12_turn 20 = .ok (.invokestatic 321, 3) := by decide +kernel
theorem dX12_turn_23 : decode cX12_turn 23 = .ok (.ifCond .ne 9, 3) := by decide +kernel
theorem dX12_turn_26 : decode cX12_turn 26 = .ok (.aload_n 0, 1) := by decide +kernel
theorem dX12_turn_27 : decode cX12_turn 27 = .ok (.iconst 1, 1) := by decide +kernel
theorem dX12_turn_28 : decode cX12_turn 28 = .ok (.invokevirtual 83, 3) := by decide +kernel
theorem dX12_turn_31 : decode cX12_turn 31 = .ok (.ireturn, 1) := by decide +kernel
theorem dX12_turn_32 : decode cX12_turn 32 = .ok (.aload_n 0, 1) := by decide +kernel
theorem dX12_turn_33 : decode cX12_turn 33 = .ok (.invokevirtual 325, 3) := by decide +kernel
theorem dX12_turn_36 : decode cX12_turn 36 = .ok (.aload_n 0, 1) := by decide +kernel
theorem dX12_turn_37 : decode cX12_turn 37 = .ok (.iload_n 1, 1) := by decide +kernel
theorem dX12_turn_38 : decode cX12_turn 38 = .ok (.iload_n 2, 1) := by decide +kernel
theorem dX12_turn_39 : decode cX12_turn 39 = .ok (.invokevirtual 336, 3) := by decide +kernel
theorem dX12_turn_42 : decode cX12_turn 42 = .ok (.istore_n 3, 1) := by decide +kernel
theorem dX12_turn_43 : decode cX12_turn 43 = .ok (.aload_n 0, 1) := by decide +kernel
theorem dX12_turn_44 : decode cX12_turn 44 = .ok (.invokevirtual 331, 3) := by decide +kernel
theorem dX12_turn_47 : decode cX12_turn 47 = .ok (.aload_n 0, 1) := by decide +kernel
theorem dX12_turn_48 : decode cX12_turn 48 = .ok (.iload_n 3, 1) := by decide +kernel
theorem dX12_turn_49 : decode cX12_turn 49 = .ok (.invokevirtual 87, 3) := by decide +kernel
theorem dX12_turn_52 : decode cX12_turn 52 = .ok (.ireturn, 1) := by decide +kernel
theorem dX12_drags_0 : decode cX12_drags 0 = .ok (.aload_n 0, 1) := by decide +kernel
theorem dX12_drags_1 : decode cX12_drags 1 = .ok (.iload_n 1, 1) := by decide +kernel
theorem dX12_drags_2 : decode cX12_drags 2 = .ok (.invokevirtual 243, 3) := by decide +kernel
theorem dX12_drags_5 : decode cX12_drags 5 = .ok (.ifCond .eq 13, 3) := by decide +kernel
theorem dX12_drags_8 : decode cX12_drags 8 = .ok (.iload_n 2, 1) := by decide +kernel
theorem dX12_drags_9 : decode cX12_drags 9 = .ok (.iconst 1, 1) := by decide +kernel
theorem dX12_drags_10 : decode cX12_drags 10 = .ok (.if_icmp .eq 14, 3) := by decide +kernel
theorem dX12_drags_13 : decode cX12_drags 13 = .ok (.iload_n 2, 1) := by decide +kernel
theorem dX12_drags_14 : decode cX12_drags 14 = .ok (.iconst (-1), 1) := by decide +kernel
theorem dX12_drags_15 : decode cX12_drags 15 = .ok (.if_icmp .eq 9, 3) := by decide +kernel
theorem dX12_drags_18 : decode cX12_drags 18 = .ok (.aload_n 0, 1) := by decide +kernel
theorem dX12_drags_19 : decode cX12_drags 19 = .ok (.iconst 1, 1) := by decide +kernel
theorem dX12_drags_20 : decode cX12_drags 20 = .ok (.invokevirtual 83, 3) := by decide +kernel
theorem dX12_drags_23 : decode cX12_drags 23 = .ok (.ireturn, 1) := by decide +kernel
theorem dX12_drags_24 : decode cX12_drags 24 = .ok (.aload_n 0, 1) := by decide +kernel
theorem dX12_drags_25 : decode cX12_drags 25 = .ok (.invokevirtual 261, 3) := by decide +kernel
theorem dX12_drags_28 : decode cX12_drags 28 = .ok (.aload_n 0, 1) := by decide +kernel
theorem dX12_drags_29 : decode cX12_drags 29 = .ok (.iload_n 1, 1) := by decide +kernel
theorem dX12_drags_30 : decode cX12_drags 30 = .ok (.iload_n 2, 1) := by decide +kernel
theorem dX12_drags_31 : decode cX12_drags 31 = .ok (.invokevirtual 297, 3) := by decide +kernel
theorem dX12_drags_34 : decode cX12_drags 34 = .ok (.ifCond .eq 14, 3) := by decide +kernel
theorem dX12_drags_37 : decode cX12_drags 37 = .ok (.aload_n 0, 1) := by decide +kernel
theorem dX12_drags_38 : decode cX12_drags 38 = .ok (.aload_n 0, 1) := by decide +kernel
theorem dX12_drags_39 : decode cX12_drags 39 = .ok (.invokevirtual 339, 3) := by decide +kernel
theorem dX12_drags_42 : decode cX12_drags 42 = .ok (.invokevirtual 87, 3) := by decide +kernel
theorem dX12_drags_45 : decode cX12_drags 45 = .ok (.goto 9, 3) := by decide +kernel
theorem dX12_drags_48 : decode cX12_drags 48 = .ok (.aload_n 0, 1) := by decide +kernel
theorem dX12_drags_49 : decode cX12_drags 49 = .ok (.bipush 7, 2) := by decide +kernel
theorem dX12_drags_51 : decode cX12_drags 51 = .ok (.invokevirtual 83, 3) := by decide +kernel
theorem dX12_drags_54 : decode cX12_drags 54 = .ok (.ireturn, 1) := by decide +kernel
theorem dX12_otherOf_0 : decode cX12_otherOf 0 = .ok (.aload_n 0, 1) := by decide +kernel
theorem dX12_otherOf_1 : decode cX12_otherOf 1 = .ok (.getfield 7, 3) := by decide +kernel
theorem dX12_otherOf_4 : decode cX12_otherOf 4 = .ok (.bipush 70, 2) := by decide +kernel
theorem dX12_otherOf_6 : decode cX12_otherOf 6 = .ok (.iconst 5, 1) := by decide +kernel
theorem dX12_otherOf_7 : decode cX12_otherOf 7 = .ok (.iload_n 1, 1) := by decide +kernel
theorem dX12_otherOf_8 : decode cX12_otherOf 8 = .ok (.imul, 1) := by decide +kernel
theorem dX12_otherOf_9 : decode cX12_otherOf 9 = .ok (.iadd, 1) := by decide +kernel
theorem dX12_otherOf_10 : decode cX12_otherOf 10 = .ok (.iconst 0, 1) := by decide +kernel
theorem dX12_otherOf_11 : decode cX12_otherOf 11 = .ok (.iadd, 1) := by decide +kernel
theorem dX12_otherOf_12 : decode cX12_otherOf 12 = .ok (.iaload, 1) := by decide +kernel
theorem dX12_otherOf_13 : decode cX12_otherOf 13 = .ok (.istore_n 3, 1) := by decide +kernel
theorem dX12_otherOf_14 : decode cX12_otherOf 14 = .ok (.aload_n 0, 1) := by decide +kernel
theorem dX12_otherOf_15 : decode cX12_otherOf 15 = .ok (.getfield 7, 3) := by decide +kernel
theorem dX12_otherOf_18 : decode cX12_otherOf 18 = .ok (.bipush 70, 2) := by decide +kernel
theorem dX12_otherOf_20 : decode cX12_otherOf 20 = .ok (.iconst 5, 1) := by decide +kernel
theorem dX12_otherOf_21 : decode cX12_otherOf 21 = .ok (.iload_n 1, 1) := by decide +kernel
theorem dX12_otherOf_22 : decode cX12_otherOf 22 = .ok (.imul, 1) := by decide +kernel
theorem dX12_otherOf_23 : decode cX12_otherOf 23 = .ok (.iadd, 1) := by decide +kernel
theorem dX12_otherOf_24 : decode cX12_otherOf 24 = .ok (.iconst 1, 1) := by decide +kernel
theorem dX12_otherOf_25 : decode cX12_otherOf 25 = .ok (.iadd, 1) := by decide +kernel
theorem dX12_otherOf_26 : decode cX12_otherOf 26 = .ok (.iaload, 1) := by decide +kernel
theorem dX12_otherOf_27 : decode cX12_otherOf 27 = .ok (.istore 4, 2) := by decide +kernel
theorem dX12_otherOf_29 : decode cX12_otherOf 29 = .ok (.aload_n 0, 1) := by decide +kernel
theorem dX12_otherOf_30 : decode cX12_otherOf 30 = .ok (.getfield 7, 3) := by decide +kernel
theorem dX12_otherOf_33 : decode cX12_otherOf 33 = .ok (.iconst 4, 1) := by decide +kernel
theorem dX12_otherOf_34 : decode cX12_otherOf 34 = .ok (.iaload, 1) := by decide +kernel
theorem dX12_otherOf_35 : decode cX12_otherOf 35 = .ok (.iload_n 1, 1) := by decide +kernel
theorem dX12_otherOf_36 : decode cX12_otherOf 36 = .ok (.ishr, 1) := by decide +kernel
theorem dX12_otherOf_37 : decode cX12_otherOf 37 = .ok (.iconst 1, 1) := by decide +kernel
theorem dX12_otherOf_38 : decode cX12_otherOf 38 = .ok (.iand, 1) := by decide +kernel
theorem dX12_otherOf_39 : decode cX12_otherOf 39 = .ok (.iconst 1, 1) := by decide +kernel
theorem dX12_otherOf_40 : decode cX12_otherOf 40 = .ok (.if_icmp .ne 7, 3) := by decide +kernel
theorem dX12_otherOf_43 : decode cX12_otherOf 43 = .ok (.iconst (-1), 1) := by decide +kernel
theorem dX12_otherOf_44 : decode cX12_otherOf 44 = .ok (.goto 24, 3) := by decide +kernel
theorem dX12_otherOf_47 : decode cX12_otherOf 47 = .ok (.iload_n 3, 1) := by decide +kernel
theorem dX12_otherOf_48 : decode cX12_otherOf 48 = .ok (.iload_n 2, 1) := by decide +kernel
theorem dX12_otherOf_49 : decode cX12_otherOf 49 = .ok (.if_icmp .ne 8, 3) := by decide +kernel
theorem dX12_otherOf_52 : decode cX12_otherOf 52 = .ok (.iload 4, 2) := by decide +kernel
theorem dX12_otherOf_54 : decode cX12_otherOf 54 = .ok (.goto 14, 3) := by decide +kernel
theorem dX12_otherOf_57 : decode cX12_otherOf 57 = .ok (.iload 4, 2) := by decide +kernel
theorem dX12_otherOf_59 : decode cX12_otherOf 59 = .ok (.iload_n 2, 1) := by decide +kernel
theorem dX12_otherOf_60 : decode cX12_otherOf 60 = .ok (.if_icmp .ne 7, 3) := by decide +kernel
theorem dX12_otherOf_63 : decode cX12_otherOf 63 = .ok (.iload_n 3, 1) := by decide +kernel
theorem dX12_otherOf_64 : decode cX12_otherOf 64 = .ok (.goto 4, 3) := by decide +kernel
theorem dX12_otherOf_67 : decode cX12_otherOf 67 = .ok (.iconst (-1), 1) := by decide +kernel
theorem dX12_otherOf_68 : decode cX12_otherOf 68 = .ok (.ireturn, 1) := by decide +kernel
theorem dX12_joinedWith_0 : decode cX12_joinedWith 0 = .ok (.iconst 1, 1) := by decide +kernel
theorem dX12_joinedWith_1 : decode cX12_joinedWith 1 = .ok (.iload_n 1, 1) := by decide +kernel
theorem dX12_joinedWith_2 : decode cX12_joinedWith 2 = .ok (.ishl, 1) := by decide +kernel
theorem dX12_joinedWith_3 : decode cX12_joinedWith 3 = .ok (.istore_n 2, 1) := by decide +kernel
theorem dX12_joinedWith_4 : decode cX12_joinedWith 4 = .ok (.aload_n 0, 1) := by decide +kernel
theorem dX12_joinedWith_5 : decode cX12_joinedWith 5 = .ok (.getfield 53, 3) := by decide +kernel
theorem dX12_joinedWith_8 : decode cX12_joinedWith 8 = .ok (.iconst 0, 1) := by decide +kernel
theorem dX12_joinedWith_9 : decode cX12_joinedWith 9 = .ok (.iload_n 1, 1) := by decide +kernel
theorem dX12_joinedWith_10 : decode cX12_joinedWith 10 = .ok (.iastore, 1) := by decide +kernel
theorem dX12_joinedWith_11 : decode cX12_joinedWith 11 = .ok (.aload_n 0, 1) := by decide +kernel
theorem dX12_joinedWith_12 : decode cX12_joinedWith 12 = .ok (.iconst 1, 1) := by decide +kernel
theorem dX12_joinedWith_13 : decode cX12_joinedWith 13 = .ok (.putfield 342, 3) := by decide +kernel
theorem dX12_joinedWith_16 : decode cX12_joinedWith 16 = .ok (.aload_n 0, 1) := by decide +kernel
theorem dX12_joinedWith_17 : decode cX12_joinedWith 17 = .ok (.getfield 56, 3) := by decide +kernel
theorem dX12_joinedWith_20 : decode cX12_joinedWith 20 = .ok (.iload_n 1, 1) := by decide +kernel
theorem dX12_joinedWith_21 : decode cX12_joinedWith 21 = .ok (.iconst 1, 1) := by decide +kernel
theorem dX12_joinedWith_22 : decode cX12_joinedWith 22 = .ok (.iastore, 1) := by decide +kernel
theorem dX12_joinedWith_23 : decode cX12_joinedWith 23 = .ok (.iconst 0, 1) := by decide +kernel
theorem dX12_joinedWith_24 : decode cX12_joinedWith 24 = .ok (.istore_n 3, 1) := by decide +kernel
theorem dX12_joinedWith_25 : decode cX12_joinedWith 25 = .ok (.iload_n 3, 1) := by decide +kernel
theorem dX12_joinedWith_26 : decode cX12_joinedWith 26 = .ok (.aload_n 0, 1) := by decide +kernel
theorem dX12_joinedWith_27 : decode cX12_joinedWith 27 = .ok (.getfield 342, 3) := by decide +kernel
theorem dX12_joinedWith_30 : decode cX12_joinedWith 30 = .ok (.if_icmp .ge 141, 3) := by decide +kernel
theorem dX12_joinedWith_33 : decode cX12_joinedWith 33 = .ok (.iconst 0, 1) := by decide +kernel
theorem dX12_joinedWith_34 : decode cX12_joinedWith 34 = .ok (.istore 4, 2) := by decide +kernel
theorem dX12_joinedWith_36 : decode cX12_joinedWith 36 = .ok (.iload 4, 2) := by decide +kernel
theorem dX12_joinedWith_38 : decode cX12_joinedWith 38 = .ok (.aload_n 0, 1) := by decide +kernel
theorem dX12_joinedWith_39 : decode cX12_joinedWith 39 = .ok (.getfield 7, 3) := by decide +kernel
theorem dX12_joinedWith_42 : decode cX12_joinedWith 42 = .ok (.iconst 2, 1) := by decide +kernel
theorem dX12_joinedWith_43 : decode cX12_joinedWith 43 = .ok (.iaload, 1) := by decide +kernel
theorem dX12_joinedWith_44 : decode cX12_joinedWith 44 = .ok (.if_icmp .ge 121, 3) := by decide +kernel
theorem dX12_joinedWith_47 : decode cX12_joinedWith 47 = .ok (.aload_n 0, 1) := by decide +kernel
theorem dX12_joinedWith_48 : decode cX12_joinedWith 48 = .ok (.iload 4, 2) := by decide +kernel
theorem dX12_joinedWith_50 : decode cX12_joinedWith 50 = .ok (.aload_n 0, 1) := by decide +kernel
theorem dX12_joinedWith_51 : decode cX12_joinedWith 51 = .ok (.getfield 53, 3) := by decide +kernel
theorem dX12_joinedWith_54 : decode cX12_joinedWith 54 = .ok (.iload_n 3, 1) := by decide +kernel
theorem dX12_joinedWith_55 : decode cX12_joinedWith 55 = .ok (.iaload, 1) := by decide +kernel
theorem dX12_joinedWith_56 : decode cX12_joinedWith 56 = .ok (.invokevirtual 345, 3) := by decide +kernel
theorem dX12_joinedWith_59 : decode cX12_joinedWith 59 = .ok (.istore 5, 2) := by decide +kernel
theorem dX12_joinedWith_61 : decode cX12_joinedWith 61 = .ok (.iload 5, 2) := by decide +kernel
theorem dX12_joinedWith_63 : decode cX12_joinedWith 63 = .ok (.iconst (-1), 1) := by decide +kernel
theorem dX12_joinedWith_64 : decode cX12_joinedWith 64 = .ok (.if_icmp .eq 95, 3) := by decide +kernel
theorem dX12_joinedWith_67 : decode cX12_joinedWith 67 = .ok (.iload_n 2, 1) := by decide +kernel
theorem dX12_joinedWith_68 : decode cX12_joinedWith 68 = .ok (.iload 5, 2) := by decide +kernel
theorem dX12_joinedWith_70 : decode cX12_joinedWith 70 = .ok (.ishr, 1) := by decide +kernel
theorem dX12_joinedWith_71 : decode cX12_joinedWith 71 = .ok (.iconst 1, 1) := by decide +kernel
theorem dX12_joinedWith_72 : decode cX12_joinedWith 72 = .ok (.iand, 1) := by decide +kernel
theorem dX12_joinedWith_73 : decode cX12_joinedWith 73 = .ok (.iconst 1, 1) := by decide +kernel
theorem dX12_joinedWith_74 : decode cX12_joinedWith 74 = .ok (.if_icmp .ne 6, 3) := by decide +kernel
theorem dX12_joinedWith_77 : decode cX12_joinedWith 77 = .ok (.goto 82, 3) := by decide +kernel
theorem dX12_joinedWith_80 : decode cX12_joinedWith 80 = .ok (.iload_n 2, 1) := by decide +kernel
theorem dX12_joinedWith_81 : decode cX12_joinedWith 81 = .ok (.iconst 1, 1) := by decide +kernel
theorem dX12_joinedWith_82 : decode cX12_joinedWith 82 = .ok (.iload 5, 2) := by decide +kernel
theorem dX12_joinedWith_84 : decode cX12_joinedWith 84 = .ok (.ishl, 1) := by decide +kernel
theorem dX12_joinedWith_85 : decode cX12_joinedWith 85 = .ok (.ior, 1) := by decide +kernel
theorem dX12_joinedWith_86 : decode cX12_joinedWith 86 = .ok (.istore_n 2, 1) := by decide +kernel
theorem dX12_joinedWith_87 : decode cX12_joinedWith 87 = .ok (.aload_n 0, 1) := by decide +kernel
theorem dX12_joinedWith_88 : decode cX12_joinedWith 88 = .ok (.getfield 56, 3) := by decide +kernel
theorem dX12_joinedWith_91 : decode cX12_joinedWith 91 = .ok (.iload 5, 2) := by decide +kernel
theorem dX12_joinedWith_93 : decode cX12_joinedWith 93 = .ok (.aload_n 0, 1) := by decide +kernel
theorem dX12_joinedWith_94 : decode cX12_joinedWith 94 = .ok (.getfield 7, 3) := by decide +kernel
theorem dX12_joinedWith_97 : decode cX12_joinedWith 97 = .ok (.bipush 70, 2) := by decide +kernel
theorem dX12_joinedWith_99 : decode cX12_joinedWith 99 = .ok (.iconst 5, 1) := by decide +kernel
theorem dX12_joinedWith_100 : decode cX12_joinedWith 100 = .ok (.iload 4, 2) := by decide +kernel
theorem dX12_joinedWith_102 : decode cX12_joinedWith 102 = .ok (.imul, 1) := by decide +kernel
theorem dX12_joinedWith_103 : decode cX12_joinedWith 103 = .ok (.iadd, 1) := by decide +kernel
theorem dX12_joinedWith_104 : decode cX12_joinedWith 104 = .ok (.iconst 2, 1) := by decide +kernel
theorem dX12_joinedWith_105 : decode cX12_joinedWith 105 = .ok (.iadd, 1) := by decide +kernel
theorem dX12_joinedWith_106 : decode cX12_joinedWith 106 = .ok (.iaload, 1) := by decide +kernel
theorem dX12_joinedWith_107 : decode cX12_joinedWith 107 = .ok (.iconst 1, 1) := by decide +kernel
theorem dX12_joinedWith_108 : decode cX12_joinedWith 108 = .ok (.if_icmp .ne 17, 3) := by decide +kernel
theorem dX12_joinedWith_111 : decode cX12_joinedWith 111 = .ok (.aload_n 0, 1) := by decide +kernel
theorem dX12_joinedWith_112 : decode cX12_joinedWith 112 = .ok (.getfield 56, 3) := by decide +kernel
theorem dX12_joinedWith_115 : decode cX12_joinedWith 115 = .ok (.aload_n 0, 1) := by decide +kernel
theorem dX12_joinedWith_116 : decode cX12_joinedWith 116 = .ok (.getfield 53, 3) := by decide +kernel
theorem dX12_joinedWith_119 : decode cX12_joinedWith 119 = .ok (.iload_n 3, 1) := by decide +kernel
theorem dX12_joinedWith_120 : decode cX12_joinedWith 120 = .ok (.iaload, 1) := by decide +kernel
theorem dX12_joinedWith_121 : decode cX12_joinedWith 121 = .ok (.iaload, 1) := by decide +kernel
theorem dX12_joinedWith_122 : decode cX12_joinedWith 122 = .ok (.goto 15, 3) := by decide +kernel
theorem dX12_joinedWith_125 : decode cX12_joinedWith 125 = .ok (.aload_n 0, 1) := by decide +kernel
theorem dX12_joinedWith_126 : decode cX12_joinedWith 126 = .ok (.getfield 56, 3) := by decide +kernel
theorem dX12_joinedWith_129 : decode cX12_joinedWith 129 = .ok (.aload_n 0, 1) := by decide +kernel
theorem dX12_joinedWith_130 : decode cX12_joinedWith 130 = .ok (.getfield 53, 3) := by decide +kernel
theorem dX12_joinedWith_133 : decode cX12_joinedWith 133 = .ok (.iload_n 3, 1) := by decide +kernel
theorem dX12_joinedWith_134 : decode cX12_joinedWith 134 = .ok (.iaload, 1) := by decide +kernel
theorem dX12_joinedWith_135 : decode cX12_joinedWith 135 = .ok (.iaload, 1) := by decide +kernel
theorem dX12_joinedWith_136 : decode cX12_joinedWith 136 = .ok (.ineg, 1) := by decide +kernel
theorem dX12_joinedWith_137 : decode cX12_joinedWith 137 = .ok (.iastore, 1) := by decide +kernel
theorem dX12_joinedWith_138 : decode cX12_joinedWith 138 = .ok (.aload_n 0, 1) := by decide +kernel
theorem dX12_joinedWith_139 : decode cX12_joinedWith 139 = .ok (.getfield 53, 3) := by decide +kernel
theorem dX12_joinedWith_142 : decode cX12_joinedWith 142 = .ok (.aload_n 0, 1) := by decide +kernel
theorem dX12_joinedWith_143 : decode cX12_joinedWith 143 = .ok (.getfield 342, 3) := by decide +kernel
theorem dX12_joinedWith_146 : decode cX12_joinedWith 146 = .ok (.iload 5, 2) := by decide +kernel
theorem dX12_joinedWith_148 : decode cX12_joinedWith 148 = .ok (.iastore, 1) := by decide +kernel
theorem dX12_joinedWith_149 : decode cX12_joinedWith 149 = .ok (.aload_n 0, 1) := by decide +kernel
theorem dX12_joinedWith_150 : decode cX12_joinedWith 150 = .ok (.dup, 1) := by decide +kernel
theorem dX12_joinedWith_151 : decode cX12_joinedWith 151 = .ok (.getfield 342, 3) := by decide +kernel
theorem dX12_joinedWith_154 : decode cX12_joinedWith 154 = .ok (.iconst 1, 1) := by decide +kernel
theorem dX12_joinedWith_155 : decode cX12_joinedWith 155 = .ok (.iadd, 1) := by decide +kernel
theorem dX12_joinedWith_156 : decode cX12_joinedWith 156 = .ok (.putfield 342, 3) := by decide +kernel
theorem dX12_joinedWith_159 : decode cX12_joinedWith 159 = .ok (.iinc 4 1, 3) := by decide +kernel
theorem dX12_joinedWith_162 : decode cX12_joinedWith 162 = .ok (.goto (-126), 3) := by decide +kernel
theorem dX12_joinedWith_165 : decode cX12_joinedWith 165 = .ok (.iinc 3 1, 3) := by decide +kernel
theorem dX12_joinedWith_168 : decode cX12_joinedWith 168 = .ok (.goto (-143), 3) := by decide +kernel
theorem dX12_joinedWith_171 : decode cX12_joinedWith 171 = .ok (.iload_n 2, 1) := by decide +kernel
theorem dX12_joinedWith_172 : decode cX12_joinedWith 172 = .ok (.ireturn, 1) := by decide +kernel
theorem dX12_joined_0 : decode cX12_joined 0 = .ok (.aload_n 0, 1) := by decide +kernel
theorem dX12_joined_1 : decode cX12_joined 1 = .ok (.iload_n 1, 1) := by decide +kernel
theorem dX12_joined_2 : decode cX12_joined 2 = .ok (.invokevirtual 243, 3) := by decide +kernel
theorem dX12_joined_5 : decode cX12_joined 5 = .ok (.ifCond .eq 15, 3) := by decide +kernel
theorem dX12_joined_8 : decode cX12_joined 8 = .ok (.aload_n 0, 1) := by decide +kernel
theorem dX12_joined_9 : decode cX12_joined 9 = .ok (.aload_n 0, 1) := by decide +kernel
theorem dX12_joined_10 : decode cX12_joined 10 = .ok (.iload_n 1, 1) := by decide +kernel
theorem dX12_joined_11 : decode cX12_joined 11 = .ok (.invokevirtual 348, 3) := by decide +kernel
theorem dX12_joined_14 : decode cX12_joined 14 = .ok (.invokevirtual 87, 3) := by decide +kernel
theorem dX12_joined_17 : decode cX12_joined 17 = .ok (.goto 8, 3) := by decide +kernel
theorem dX12_joined_20 : decode cX12_joined 20 = .ok (.aload_n 0, 1) := by decide +kernel
theorem dX12_joined_21 : decode cX12_joined 21 = .ok (.iconst 1, 1) := by decide +kernel
theorem dX12_joined_22 : decode cX12_joined 22 = .ok (.invokevirtual 83, 3) := by decide +kernel
theorem dX12_joined_25 : decode cX12_joined 25 = .ok (.ireturn, 1) := by decide +kernel
theorem dX12_ratio_0 : decode cX12_ratio 0 = .ok (.aload_n 0, 1) := by decide +kernel
theorem dX12_ratio_1 : decode cX12_ratio 1 = .ok (.iload_n 1, 1) := by decide +kernel
theorem dX12_ratio_2 : decode cX12_ratio 2 = .ok (.invokevirtual 243, 3) := by decide +kernel
theorem dX12_ratio_5 : decode cX12_ratio 5 = .ok (.ifCond .eq 11, 3) := by decide +kernel
theorem dX12_ratio_8 : decode cX12_ratio 8 = .ok (.aload_n 0, 1) := by decide +kernel
theorem dX12_ratio_9 : decode cX12_ratio 9 = .ok (.iload_n 2, 1) := by decide +kernel
theorem dX12_ratio_10 : decode cX12_ratio 10 = .ok (.invokevirtual 243, 3) := by decide +kernel
theorem dX12_ratio_13 : decode cX12_ratio 13 = .ok (.ifCond .ne 9, 3) := by decide +kernel
theorem dX12_ratio_16 : decode cX12_ratio 16 = .ok (.aload_n 0, 1) := by decide +kernel
theorem dX12_ratio_17 : decode cX12_ratio 17 = .ok (.iconst 1, 1) := by decide +kernel
theorem dX12_ratio_18 : decode cX12_ratio 18 = .ok (.invokevirtual 90, 3) := by decide +kernel
theorem dX12_ratio_21 : decode cX12_ratio 21 = .ok (.ireturn, 1) := by decide +kernel
theorem dX12_ratio_22 : decode cX12_ratio 22 = .ok (.aload_n 0, 1) := by decide +kernel
theorem dX12_ratio_23 : decode cX12_ratio 23 = .ok (.iload_n 1, 1) := by decide +kernel
theorem dX12_ratio_24 : decode cX12_ratio 24 = .ok (.invokevirtual 348, 3) := by decide +kernel
theorem dX12_ratio_27 : decode cX12_ratio 27 = .ok (.iload_n 2, 1) := by decide +kernel
theorem dX12_ratio_28 : decode cX12_ratio 28 = .ok (.ishr, 1) := by decide +kernel
theorem dX12_ratio_29 : decode cX12_ratio 29 = .ok (.iconst 1, 1) := by decide +kernel
theorem dX12_ratio_30 : decode cX12_ratio 30 = .ok (.iand, 1) := by decide +kernel
theorem dX12_ratio_31 : decode cX12_ratio 31 = .ok (.ifCond .ne 10, 3) := by decide +kernel
theorem dX12_ratio_34 : decode cX12_ratio 34 = .ok (.aload_n 0, 1) := by decide +kernel
theorem dX12_ratio_35 : decode cX12_ratio 35 = .ok (.bipush 7, 2) := by decide +kernel
theorem dX12_ratio_37 : decode cX12_ratio 37 = .ok (.invokevirtual 90, 3) := by decide +kernel
theorem dX12_ratio_40 : decode cX12_ratio 40 = .ok (.ireturn, 1) := by decide +kernel
theorem dX12_ratio_41 : decode cX12_ratio 41 = .ok (.aload_n 0, 1) := by decide +kernel
theorem dX12_ratio_42 : decode cX12_ratio 42 = .ok (.aload_n 0, 1) := by decide +kernel
theorem dX12_ratio_43 : decode cX12_ratio 43 = .ok (.getfield 56, 3) := by decide +kernel
theorem dX12_ratio_46 : decode cX12_ratio 46 = .ok (.iload_n 2, 1) := by decide +kernel
theorem dX12_ratio_47 : decode cX12_ratio 47 = .ok (.iaload, 1) := by decide +kernel
theorem dX12_ratio_48 : decode cX12_ratio 48 = .ok (.i2l, 1) := by decide +kernel
theorem dX12_ratio_49 : decode cX12_ratio 49 = .ok (.aload_n 0, 1) := by decide +kernel
theorem dX12_ratio_50 : decode cX12_ratio 50 = .ok (.getfield 7, 3) := by decide +kernel
theorem dX12_ratio_53 : decode cX12_ratio 53 = .ok (.bipush 20, 2) := by decide +kernel
theorem dX12_ratio_55 : decode cX12_ratio 55 = .ok (.bipush 6, 2) := by decide +kernel
theorem dX12_ratio_57 : decode cX12_ratio 57 = .ok (.iload_n 1, 1) := by decide +kernel
theorem dX12_ratio_58 : decode cX12_ratio 58 = .ok (.imul, 1) := by decide +kernel
theorem dX12_ratio_59 : decode cX12_ratio 59 = .ok (.iadd, 1) := by decide +kernel
theorem dX12_ratio_60 : decode cX12_ratio 60 = .ok (.iaload, 1) := by decide +kernel
theorem dX12_ratio_61 : decode cX12_ratio 61 = .ok (.i2l, 1) := by decide +kernel
theorem dX12_ratio_62 : decode cX12_ratio 62 = .ok (.lmul, 1) := by decide +kernel
theorem dX12_ratio_63 : decode cX12_ratio 63 = .ok (.aload_n 0, 1) := by decide +kernel
theorem dX12_ratio_64 : decode cX12_ratio 64 = .ok (.getfield 7, 3) := by decide +kernel
theorem dX12_ratio_67 : decode cX12_ratio 67 = .ok (.bipush 20, 2) := by decide +kernel
theorem dX12_ratio_69 : decode cX12_ratio 69 = .ok (.bipush 6, 2) := by decide +kernel
theorem dX12_ratio_71 : decode cX12_ratio 71 = .ok (.iload_n 2, 1) := by decide +kernel
theorem dX12_ratio_72 : decode cX12_ratio 72 = .ok (.imul, 1) := by decide +kernel
theorem dX12_ratio_73 : decode cX12_ratio 73 = .ok (.iadd, 1) := by decide +kernel
theorem dX12_ratio_74 : decode cX12_ratio 74 = .ok (.iaload, 1) := by decide +kernel
theorem dX12_ratio_75 : decode cX12_ratio 75 = .ok (.i2l, 1) := by decide +kernel
theorem dX12_ratio_76 : decode cX12_ratio 76 = .ok (.invokevirtual 351, 3) := by decide +kernel
theorem dX12_ratio_79 : decode cX12_ratio 79 = .ok (.ireturn, 1) := by decide +kernel
theorem dX12_locked_0 : decode cX12_locked 0 = .ok (.iconst 0, 1) := by decide +kernel
theorem dX12_locked_1 : decode cX12_locked 1 = .ok (.istore_n 1, 1) := by decide +kernel
theorem dX12_locked_2 : decode cX12_locked 2 = .ok (.iconst 0, 1) := by decide +kernel
theorem dX12_locked_3 : decode cX12_locked 3 = .ok (.istore_n 2, 1) := by decide +kernel
theorem dX12_locked_4 : decode cX12_locked 4 = .ok (.iload_n 2, 1) := by decide +kernel
theorem dX12_locked_5 : decode cX12_locked 5 = .ok (.aload_n 0, 1) := by decide +kernel
theorem dX12_locked_6 : decode cX12_locked 6 = .ok (.getfield 7, 3) := by decide +kernel
theorem dX12_locked_9 : decode cX12_locked 9 = .ok (.iconst 1, 1) := by decide +kernel
theorem dX12_locked_10 : decode cX12_locked 10 = .ok (.iaload, 1) := by decide +kernel
theorem dX12_locked_11 : decode cX12_locked 11 = .ok (.if_icmp .ge 152, 3) := by decide +kernel
theorem dX12_locked_14 : decode cX12_locked 14 = .ok (.aload_n 0, 1) := by decide +kernel
theorem dX12_locked_15 : decode cX12_locked 15 = .ok (.iload_n 2, 1) := by decide +kernel
theorem dX12_locked_16 : decode cX12_locked 16 = .ok (.invokevirtual 348, 3) := by decide +kernel
theorem dX12_locked_19 : decode cX12_locked 19 = .ok (.istore_n 3, 1) := by decide +kernel
theorem dX12_locked_20 : decode cX12_locked 20 = .ok (.iconst 0, 1) := by decide +kernel
theorem dX12_locked_21 : decode cX12_locked 21 = .ok (.istore 4, 2) := by decide +kernel
theorem dX12_locked_23 : decode cX12_locked 23 = .ok (.iload 4, 2) := by decide +kernel
theorem dX12_locked_25 : decode cX12_locked 25 = .ok (.aload_n 0, 1) := by decide +kernel
theorem dX12_locked_26 : decode cX12_locked 26 = .ok (.getfield 7, 3) := by decide +kernel
theorem dX12_locked_29 : decode cX12_locked 29 = .ok (.iconst 2, 1) := by decide +kernel
theorem dX12_locked_30 : decode cX12_locked 30 = .ok (.iaload, 1) := by decide +kernel
theorem dX12_locked_31 : decode cX12_locked 31 = .ok (.if_icmp .ge 126, 3) := by decide +kernel
theorem dX12_locked_34 : decode cX12_locked 34 = .ok (.aload_n 0, 1) := by decide +kernel
theorem dX12_locked_35 : decode cX12_locked 35 = .ok (.getfield 7, 3) := by decide +kernel
theorem dX12_locked_38 : decode cX12_locked 38 = .ok (.bipush 70, 2) := by decide +kernel
theorem dX12_locked_40 : decode cX12_locked 40 = .ok (.iconst 5, 1) := by decide +kernel
theorem dX12_locked_41 : decode cX12_locked 41 = .ok (.iload 4, 2) := by decide +kernel
theorem dX12_locked_43 : decode cX12_locked 43 = .ok (.imul, 1) := by decide +kernel
theorem dX12_locked_44 : decode cX12_locked 44 = .ok (.iadd, 1) := by decide +kernel
theorem dX12_locked_45 : decode cX12_locked 45 = .ok (.iconst 0, 1) := by decide +kernel
theorem dX12_locked_46 : decode cX12_locked 46 = .ok (.iadd, 1) := by decide +kernel
theorem dX12_locked_47 : decode cX12_locked 47 = .ok (.iaload, 1) := by decide +kernel
theorem dX12_locked_48 : decode cX12_locked 48 = .ok (.istore 5, 2) := by decide +kernel
theorem dX12_locked_50 : decode cX12_locked 50 = .ok (.aload_n 0, 1) := by decide +kernel
theorem dX12_locked_51 : decode cX12_locked 51 = .ok (.getfield 7, 3) := by decide +kernel
theorem dX12_locked_54 : decode cX12_locked 54 = .ok (.bipush 70, 2) := by decide +kernel
theorem dX12_locked_56 : decode cX12_locked 56 = .ok (.iconst 5, 1) := by decide +kernel
theorem dX12_locked_57 : decode cX12_locked 57 = .ok (.iload 4, 2) := by decide +kernel
theorem dX12_locked_59 : decode cX12_locked 59 = .ok (.imul, 1) := by decide +kernel
theorem dX12_locked_60 : decode cX12_locked 60 = .ok (.iadd, 1) := by decide +kernel
theorem dX12_locked_61 : decode cX12_locked 61 = .ok (.iconst 1, 1) := by decide +kernel
theorem dX12_locked_62 : decode cX12_locked 62 = .ok (.iadd, 1) := by decide +kernel
theorem dX12_locked_63 : decode cX12_locked 63 = .ok (.iaload, 1) := by decide +kernel
theorem dX12_locked_64 : decode cX12_locked 64 = .ok (.istore 6, 2) := by decide +kernel
theorem dX12_locked_66 : decode cX12_locked 66 = .ok (.aload_n 0, 1) := by decide +kernel
theorem dX12_locked_67 : decode cX12_locked 67 = .ok (.getfield 7, 3) := by decide +kernel
theorem dX12_locked_70 : decode cX12_locked 70 = .ok (.iconst 4, 1) := by decide +kernel
theorem dX12_locked_71 : decode cX12_locked 71 = .ok (.iaload, 1) := by decide +kernel
theorem dX12_locked_72 : decode cX12_locked 72 = .ok (.iload 4, 2) := by decide +kernel
theorem dX12_locked_74 : decode cX12_locked 74 = .ok (.ishr, 1) := by decide +kernel
theorem dX12_locked_75 : decode cX12_locked 75 = .ok (.iconst 1, 1) := by decide +kernel
theorem dX12_locked_76 : decode cX12_locked 76 = .ok (.iand, 1) := by decide +kernel
theorem dX12_locked_77 : decode cX12_locked 77 = .ok (.iconst 1, 1) := by decide +kernel
theorem dX12_locked_78 : decode cX12_locked 78 = .ok (.if_icmp .eq 73, 3) := by decide +kernel
theorem dX12_locked_81 : decode cX12_locked 81 = .ok (.iload_n 3, 1) := by decide +kernel
theorem dX12_locked_82 : decode cX12_locked 82 = .ok (.iload 5, 2) := by decide +kernel
theorem dX12_locked_84 : decode cX12_locked 84 = .ok (.ishr, 1) := by decide +kernel
theorem dX12_locked_85 : decode cX12_locked 85 = .ok (.iconst 1, 1) := by decide +kernel
theorem dX12_locked_86 : decode cX12_locked 86 = .ok (.iand, 1) := by decide +kernel
theorem dX12_locked_87 : decode cX12_locked 87 = .ok (.ifCond .ne 6, 3) := by decide +kernel
theorem dX12_locked_90 : decode cX12_locked 90 = .ok (.goto 61, 3) := by decide +kernel
theorem dX12_locked_93 : decode cX12_locked 93 = .ok (.aload_n 0, 1) := by decide +kernel
theorem dX12_locked_94 : decode cX12_locked 94 = .ok (.getfield 56, 3) := by decide +kernel
theorem dX12_locked_97 : decode cX12_locked 97 = .ok (.iload 5, 2) := by decide +kernel
theorem dX12_locked_99 : decode cX12_locked 99 = .ok (.iaload, 1) := by decide +kernel
theorem dX12_locked_100 : decode cX12_locked 100 = .ok (.aload_n 0, 1) := by decide +kernel
theorem dX12_locked_101 : decode cX12_locked 101 = .ok (.getfield 56, 3) := by decide +kernel
theorem dX12_locked_104 : decode cX12_locked 104 = .ok (.iload 6, 2) := by decide +kernel
theorem dX12_locked_106 : decode cX12_locked 106 = .ok (.iaload, 1) := by decide +kernel
theorem dX12_locked_107 : decode cX12_locked 107 = .ok (.if_icmp .ne 7, 3) := by decide +kernel
theorem dX12_locked_110 : decode cX12_locked 110 = .ok (.iconst 1, 1) := by decide +kernel
theorem dX12_locked_111 : decode cX12_locked 111 = .ok (.goto 4, 3) := by decide +kernel
theorem dX12_locked_114 : decode cX12_locked 114 = .ok (.iconst 0, 1) := by decide +kernel
theorem dX12_locked_115 : decode cX12_locked 115 = .ok (.istore 7, 2) := by decide +kernel
theorem dX12_locked_117 : decode cX12_locked 117 = .ok (.iload 7, 2) := by decide +kernel
theorem dX12_locked_119 : decode cX12_locked 119 = .ok (.aload_n 0, 1) := by decide +kernel
theorem dX12_locked_120 : decode cX12_locked 120 = .ok (.getfield 7, 3) := by decide +kernel
theorem dX12_locked_123 : decode cX12_locked 123 = .ok (.bipush 70, 2) := by decide +kernel
theorem dX12_locked_125 : decode cX12_locked 125 = .ok (.iconst 5, 1) := by decide +kernel
theorem dX12_locked_126 : decode cX12_locked 126 = .ok (.iload 4, 2) := by decide +kernel
theorem dX12_locked_128 : decode cX12_locked 128 = .ok (.imul, 1) := by decide +kernel
theorem dX12_locked_129 : decode cX12_locked 129 = .ok (.iadd, 1) := by decide +kernel
theorem dX12_locked_130 : decode cX12_locked 130 = .ok (.iconst 2, 1) := by decide +kernel
theorem dX12_locked_131 : decode cX12_locked 131 = .ok (.iadd, 1) := by decide +kernel
theorem dX12_locked_132 : decode cX12_locked 132 = .ok (.iaload, 1) := by decide +kernel
theorem dX12_locked_133 : decode cX12_locked 133 = .ok (.iconst 1, 1) := by decide +kernel
theorem dX12_locked_134 : decode cX12_locked 134 = .ok (.if_icmp .ne 7, 3) := by decide +kernel
theorem dX12_locked_137 : decode cX12_locked 137 = .ok (.iconst 1, 1) := by decide +kernel
theorem dX12_locked_138 : decode cX12_locked 138 = .ok (.goto 4, 3) := by decide +kernel
theorem dX12_locked_141 : decode cX12_locked 141 = .ok (.iconst 0, 1) := by decide +kernel
theorem dX12_locked_142 : decode cX12_locked 142 = .ok (.if_icmp .eq 9, 3) := by decide +kernel
theorem dX12_locked_145 : decode cX12_locked 145 = .ok (.iload_n 1, 1) := by decide +kernel
theorem dX12_locked_146 : decode cX12_locked 146 = .ok (.iconst 1, 1) := by decide +kernel
theorem dX12_locked_147 : decode cX12_locked 147 = .ok (.iload_n 2, 1) := by decide +kernel
theorem dX12_locked_148 : decode cX12_locked 148 = .ok (.ishl, 1) := by decide +kernel
theorem dX12_locked_149 : decode cX12_locked 149 = .ok (.ior, 1) := by decide +kernel
theorem dX12_locked_150 : decode cX12_locked 150 = .ok (.istore_n 1, 1) := by decide +kernel
theorem dX12_locked_151 : decode cX12_locked 151 = .ok (.iinc 4 1, 3) := by decide +kernel
theorem dX12_locked_154 : decode cX12_locked 154 = .ok (.goto (-131), 3) := by decide +kernel
theorem dX12_locked_157 : decode cX12_locked 157 = .ok (.iinc 2 1, 3) := by decide +kernel
theorem dX12_locked_160 : decode cX12_locked 160 = .ok (.goto (-156), 3) := by decide +kernel
theorem dX12_locked_163 : decode cX12_locked 163 = .ok (.aload_n 0, 1) := by decide +kernel
theorem dX12_locked_164 : decode cX12_locked 164 = .ok (.iload_n 1, 1) := by decide +kernel
theorem dX12_locked_165 : decode cX12_locked 165 = .ok (.invokevirtual 87, 3) := by decide +kernel
theorem dX12_locked_168 : decode cX12_locked 168 = .ok (.ireturn, 1) := by decide +kernel
theorem dX12_common_0 : decode cX12_common 0 = .ok (.iload_n 1, 1) := by decide +kernel
theorem dX12_common_1 : decode cX12_common 1 = .ok (.ifCond .le 15, 3) := by decide +kernel
theorem dX12_common_4 : decode cX12_common 4 = .ok (.iload_n 1, 1) := by decide +kernel
theorem dX12_common_5 : decode cX12_common 5 = .ok (.iconst 1, 1) := by decide +kernel
theorem dX12_common_6 : decode cX12_common 6 = .ok (.aload_n 0, 1) := by decide +kernel
theorem dX12_common_7 : decode cX12_common 7 = .ok (.getfield 7, 3) := by decide +kernel
theorem dX12_common_10 : decode cX12_common 10 = .ok (.iconst 1, 1) := by decide +kernel
theorem dX12_common_11 : decode cX12_common 11 = .ok (.iaload, 1) := by decide +kernel
theorem dX12_common_12 : decode cX12_common 12 = .ok (.ishl, 1) := by decide +kernel
theorem dX12_common_13 : decode cX12_common 13 = .ok (.if_icmp .lt 10, 3) := by decide +kernel
theorem dX12_common_16 : decode cX12_common 16 = .ok (.aload_n 0, 1) := by decide +kernel
theorem dX12_common_17 : decode cX12_common 17 = .ok (.iconst 1, 1) := by decide +kernel
theorem dX12_common_18 : decode cX12_common 18 = .ok (.invokevirtual 83, 3) := by decide +kernel
theorem dX12_common_21 : decode cX12_common 21 = .ok (.i2l, 1) := by decide +kernel
theorem dX12_common_22 : decode cX12_common 22 = .ok (.lreturn, 1) := by decide +kernel
theorem dX12_common_23 : decode cX12_common 23 = .ok (.lconst 1, 1) := by decide +kernel
theorem dX12_common_24 : decode cX12_common 24 = .ok (.lstore_n 2, 1) := by decide +kernel
theorem dX12_common_25 : decode cX12_common 25 = .ok (.iconst 0, 1) := by decide +kernel
theorem dX12_common_26 : decode cX12_common 26 = .ok (.istore 4, 2) := by decide +kernel
theorem dX12_common_28 : decode cX12_common 28 = .ok (.iload 4, 2) := by decide +kernel
theorem dX12_common_30 : decode cX12_common 30 = .ok (.aload_n 0, 1) := by decide +kernel
theorem dX12_common_31 : decode cX12_common 31 = .ok (.getfield 7, 3) := by decide +kernel
theorem dX12_common_34 : decode cX12_common 34 = .ok (.iconst 1, 1) := by decide +kernel
theorem dX12_common_35 : decode cX12_common 35 = .ok (.iaload, 1) := by decide +kernel
theorem dX12_common_36 : decode cX12_common 36 = .ok (.if_icmp .ge 85, 3) := by decide +kernel
theorem dX12_common_39 : decode cX12_common 39 = .ok (.iload_n 1, 1) := by decide +kernel
theorem dX12_common_40 : decode cX12_common 40 = .ok (.iload 4, 2) := by decide +kernel
theorem dX12_common_42 : decode cX12_common 42 = .ok (.ishr, 1) := by decide +kernel
theorem dX12_common_43 : decode cX12_common 43 = .ok (.iconst 1, 1) := by decide +kernel
theorem dX12_common_44 : decode cX12_common 44 = .ok (.iand, 1) := by decide +kernel
theorem dX12_common_45 : decode cX12_common 45 = .ok (.ifCond .ne 6, 3) := by decide +kernel
theorem dX12_common_48 : decode cX12_common 48 = .ok (.goto 67, 3) := by decide +kernel
theorem dX12_common_51 : decode cX12_common 51 = .ok (.lload_n 2, 1) := by decide +kernel
theorem dX12_common_52 : decode cX12_common 52 = .ok (.lstore 5, 2) := by decide +kernel
theorem dX12_common_54 : decode cX12_common 54 = .ok (.aload_n 0, 1) := by decide +kernel
theorem dX12_common_55 : decode cX12_common 55 = .ok (.getfield 7, 3) := by decide +kernel
theorem dX12_common_58 : decode cX12_common 58 = .ok (.bipush 20, 2) := by decide +kernel
theorem dX12_common_60 : decode cX12_common 60 = .ok (.bipush 6, 2) := by decide +kernel
theorem dX12_common_62 : decode cX12_common 62 = .ok (.iload 4, 2) := by decide +kernel
theorem dX12_common_64 : decode cX12_common 64 = .ok (.imul, 1) := by decide +kernel
theorem dX12_common_65 : decode cX12_common 65 = .ok (.iadd, 1) := by decide +kernel
theorem dX12_common_66 : decode cX12_common 66 = .ok (.iaload, 1) := by decide +kernel
theorem dX12_common_67 : decode cX12_common 67 = .ok (.i2l, 1) := by decide +kernel
theorem dX12_common_68 : decode cX12_common 68 = .ok (.lstore 7, 2) := by decide +kernel
theorem dX12_common_70 : decode cX12_common 70 = .ok (.lload 7, 2) := by decide +kernel
theorem dX12_common_72 : decode cX12_common 72 = .ok (.lconst 0, 1) := by decide +kernel
theorem dX12_common_73 : decode cX12_common 73 = .ok (.lcmp, 1) := by decide +kernel
theorem dX12_common_74 : decode cX12_common 74 = .ok (.ifCond .eq 21, 3) := by decide +kernel
theorem dX12_common_77 : decode cX12_common 77 = .ok (.lload 5, 2) := by decide +kernel
theorem dX12_common_79 : decode cX12_common 79 = .ok (.lload 7, 2) := by decide +kernel
theorem dX12_common_81 : decode cX12_common 81 = .ok (.lrem, 1) := by decide +kernel
theorem dX12_common_82 : decode cX12_common 82 = .ok (.lstore 9, 2) := by decide +kernel
theorem dX12_common_84 : decode cX12_common 84 = .ok (.lload 7, 2) := by decide +kernel
theorem dX12_common_86 : decode cX12_common 86 = .ok (.lstore 5, 2) := by decide +kernel
theorem dX12_common_88 : decode cX12_common 88 = .ok (.lload 9, 2) := by decide +kernel
theorem dX12_common_90 : decode cX12_common 90 = .ok (.lstore 7, 2) := by decide +kernel
theorem dX12_common_92 : decode cX12_common 92 = .ok (.goto (-22), 3) := by decide +kernel
theorem dX12_common_95 : decode cX12_common 95 = .ok (.lload_n 2, 1) := by decide +kernel
theorem dX12_common_96 : decode cX12_common 96 = .ok (.lload 5, 2) := by decide +kernel
theorem dX12_common_98 : decode cX12_common 98 = .ok (.ldiv, 1) := by decide +kernel
theorem dX12_common_99 : decode cX12_common 99 = .ok (.aload_n 0, 1) := by decide +kernel
theorem dX12_common_100 : decode cX12_common 100 = .ok (.getfield 7, 3) := by decide +kernel
theorem dX12_common_103 : decode cX12_common 103 = .ok (.bipush 20, 2) := by decide +kernel
theorem dX12_common_105 : decode cX12_common 105 = .ok (.bipush 6, 2) := by decide +kernel
theorem dX12_common_107 : decode cX12_common 107 = .ok (.iload 4, 2) := by decide +kernel
theorem dX12_common_109 : decode cX12_common 109 = .ok (.imul, 1) := by decide +kernel
theorem dX12_common_110 : decode cX12_common 110 = .ok (.iadd, 1) := by decide +kernel
theorem dX12_common_111 : decode cX12_common 111 = .ok (.iaload, 1) := by decide +kernel
theorem dX12_common_112 : decode cX12_common 112 = .ok (.i2l, 1) := by decide +kernel
theorem dX12_common_113 : decode cX12_common 113 = .ok (.lmul, 1) := by decide +kernel
theorem dX12_common_114 : decode cX12_common 114 = .ok (.lstore_n 2, 1) := by decide +kernel
theorem dX12_common_115 : decode cX12_common 115 = .ok (.iinc 4 1, 3) := by decide +kernel
theorem dX12_common_118 : decode cX12_common 118 = .ok (.goto (-90), 3) := by decide +kernel
theorem dX12_common_121 : decode cX12_common 121 = .ok (.aload_n 0, 1) := by decide +kernel
theorem dX12_common_122 : decode cX12_common 122 = .ok (.iconst 0, 1) := by decide +kernel
theorem dX12_common_123 : decode cX12_common 123 = .ok (.putfield 77, 3) := by decide +kernel
theorem dX12_common_126 : decode cX12_common 126 = .ok (.lload_n 2, 1) := by decide +kernel
theorem dX12_common_127 : decode cX12_common 127 = .ok (.lreturn, 1) := by decide +kernel
theorem dX12_sway_0 : decode cX12_sway 0 = .ok (.aload_n 0, 1) := by decide +kernel
theorem dX12_sway_1 : decode cX12_sway 1 = .ok (.iload_n 1, 1) := by decide +kernel
theorem dX12_sway_2 : decode cX12_sway 2 = .ok (.invokevirtual 243, 3) := by decide +kernel
theorem dX12_sway_5 : decode cX12_sway 5 = .ok (.ifCond .eq 11, 3) := by decide +kernel
theorem dX12_sway_8 : decode cX12_sway 8 = .ok (.aload_n 0, 1) := by decide +kernel
theorem dX12_sway_9 : decode cX12_sway 9 = .ok (.iload_n 2, 1) := by decide +kernel
theorem dX12_sway_10 : decode cX12_sway 10 = .ok (.invokevirtual 243, 3) := by decide +kernel
theorem dX12_sway_13 : decode cX12_sway 13 = .ok (.ifCond .ne 9, 3) := by decide +kernel
theorem dX12_sway_16 : decode cX12_sway 16 = .ok (.aload_n 0, 1) := by decide +kernel
theorem dX12_sway_17 : decode cX12_sway 17 = .ok (.iconst 1, 1) := by decide +kernel
theorem dX12_sway_18 : decode cX12_sway 18 = .ok (.invokevirtual 83, 3) := by decide +kernel
theorem dX12_sway_21 : decode cX12_sway 21 = .ok (.ireturn, 1) := by decide +kernel
theorem dX12_sway_22 : decode cX12_sway 22 = .ok (.iconst 0, 1) := by decide +kernel
theorem dX12_sway_23 : decode cX12_sway 23 = .ok (.istore_n 3, 1) := by decide +kernel
theorem dX12_sway_24 : decode cX12_sway 24 = .ok (.iload_n 3, 1) := by decide +kernel
theorem dX12_sway_25 : decode cX12_sway 25 = .ok (.bipush 8, 2) := by decide +kernel
theorem dX12_sway_27 : decode cX12_sway 27 = .ok (.if_icmp .ge 27, 3) := by decide +kernel
theorem dX12_sway_30 : decode cX12_sway 30 = .ok (.aload_n 0, 1) := by decide +kernel
theorem dX12_sway_31 : decode cX12_sway 31 = .ok (.getfield 59, 3) := by decide +kernel
theorem dX12_sway_34 : decode cX12_sway 34 = .ok (.iload_n 3, 1) := by decide +kernel
theorem dX12_sway_35 : decode cX12_sway 35 = .ok (.iload_n 3, 1) := by decide +kernel
theorem dX12_sway_36 : decode cX12_sway 36 = .ok (.iload_n 1, 1) := by decide +kernel
theorem dX12_sway_37 : decode cX12_sway 37 = .ok (.if_icmp .ne 7, 3) := by decide +kernel
theorem dX12_sway_40 : decode cX12_sway 40 = .ok (.iconst 0, 1) := by decide +kernel
theorem dX12_sway_41 : decode cX12_sway 41 = .ok (.goto 6, 3) := by decide +kernel
theorem dX12_sway_44 : decode cX12_sway 44 = .ok (.sipush 1000, 3) := by decide +kernel
theorem dX12_sway_47 : decode cX12_sway 47 = .ok (.iastore, 1) := by decide +kernel
theorem dX12_sway_48 : decode cX12_sway 48 = .ok (.iinc 3 1, 3) := by decide +kernel
theorem dX12_sway_51 : decode cX12_sway 51 = .ok (.goto (-27), 3) := by decide +kernel
theorem dX12_sway_54 : decode cX12_sway 54 = .ok (.iconst 0, 1) := by decide +kernel
theorem dX12_sway_55 : decode cX12_sway 55 = .ok (.istore_n 3, 1) := by decide +kernel
theorem dX12_sway_56 : decode cX12_sway 56 = .ok (.iload_n 3, 1) := by decide +kernel
theorem dX12_sway_57 : decode cX12_sway 57 = .ok (.bipush 8, 2) := by decide +kernel
theorem dX12_sway_59 : decode cX12_sway 59 = .ok (.if_icmp .ge 169, 3) := by decide +kernel
theorem dX12_sway_62 : decode cX12_sway 62 = .ok (.iconst 0, 1) := by decide +kernel
theorem dX12_sway_63 : decode cX12_sway 63 = .ok (.istore 4, 2) := by decide +kernel
theorem dX12_sway_65 : decode cX12_sway 65 = .ok (.iload 4, 2) := by decide +kernel
theorem dX12_sway_67 : decode cX12_sway 67 = .ok (.aload_n 0, 1) := by decide +kernel
theorem dX12_sway_68 : decode cX12_sway 68 = .ok (.getfield 7, 3) := by decide +kernel
theorem dX12_sway_71 : decode cX12_sway 71 = .ok (.iconst 2, 1) := by decide +kernel
theorem dX12_sway_72 : decode cX12_sway 72 = .ok (.iaload, 1) := by decide +kernel
theorem dX12_sway_73 : decode cX12_sway 73 = .ok (.if_icmp .ge 149, 3) := by decide +kernel
theorem dX12_sway_76 : decode cX12_sway 76 = .ok (.aload_n 0, 1) := by decide +kernel
theorem dX12_sway_77 : decode cX12_sway 77 = .ok (.getfield 7, 3) := by decide +kernel
theorem dX12_sway_80 : decode cX12_sway 80 = .ok (.iconst 4, 1) := by decide +kernel
theorem dX12_sway_81 : decode cX12_sway 81 = .ok (.iaload, 1) := by decide +kernel
theorem dX12_sway_82 : decode cX12_sway 82 = .ok (.iload 4, 2) := by decide +kernel
theorem dX12_sway_84 : decode cX12_sway 84 = .ok (.ishr, 1) := by decide +kernel
theorem dX12_sway_85 : decode cX12_sway 85 = .ok (.iconst 1, 1) := by decide +kernel
theorem dX12_sway_86 : decode cX12_sway 86 = .ok (.iand, 1) := by decide +kernel
theorem dX12_sway_87 : decode cX12_sway 87 = .ok (.iconst 1, 1) := by decide +kernel
theorem dX12_sway_88 : decode cX12_sway 88 = .ok (.if_icmp .ne 6, 3) := by decide +kernel
theorem dX12_sway_91 : decode cX12_sway 91 = .ok (.goto 125, 3) := by decide +kernel
theorem dX12_sway_94 : decode cX12_sway 94 = .ok (.aload_n 0, 1) := by decide +kernel
theorem dX12_sway_95 : decode cX12_sway 95 = .ok (.getfield 7, 3) := by decide +kernel
theorem dX12_sway_98 : decode cX12_sway 98 = .ok (.bipush 70, 2) := by decide +kernel
theorem dX12_sway_100 : decode cX12_sway 100 = .ok (.iconst 5, 1) := by decide +kernel
theorem dX12_sway_101 : decode cX12_sway 101 = .ok (.iload 4, 2) := by decide +kernel
theorem dX12_sway_103 : decode cX12_sway 103 = .ok (.imul, 1) := by decide +kernel
theorem dX12_sway_104 : decode cX12_sway 104 = .ok (.iadd, 1) := by decide +kernel
theorem dX12_sway_105 : decode cX12_sway 105 = .ok (.iconst 0, 1) := by decide +kernel
theorem dX12_sway_106 : decode cX12_sway 106 = .ok (.iadd, 1) := by decide +kernel
theorem dX12_sway_107 : decode cX12_sway 107 = .ok (.iaload, 1) := by decide +kernel
theorem dX12_sway_108 : decode cX12_sway 108 = .ok (.istore 5, 2) := by decide +kernel
theorem dX12_sway_110 : decode cX12_sway 110 = .ok (.aload_n 0, 1) := by decide +kernel
theorem dX12_sway_111 : decode cX12_sway 111 = .ok (.getfield 7, 3) := by decide +kernel
theorem dX12_sway_114 : decode cX12_sway 114 = .ok (.bipush 70, 2) := by decide +kernel
theorem dX12_sway_116 : decode cX12_sway 116 = .ok (.iconst 5, 1) := by decide +kernel
theorem dX12_sway_117 : decode cX12_sway 117 = .ok (.iload 4, 2) := by decide +kernel
theorem dX12_sway_119 : decode cX12_sway 119 = .ok (.imul, 1) := by decide +kernel
theorem dX12_sway_120 : decode cX12_sway 120 = .ok (.iadd, 1) := by decide +kernel
theorem dX12_sway_121 : decode cX12_sway 121 = .ok (.iconst 1, 1) := by decide +kernel
theorem dX12_sway_122 : decode cX12_sway 122 = .ok (.iadd, 1) := by decide +kernel
theorem dX12_sway_123 : decode cX12_sway 123 = .ok (.iaload, 1) := by decide +kernel
theorem dX12_sway_124 : decode cX12_sway 124 = .ok (.istore 6, 2) := by decide +kernel
theorem dX12_sway_126 : decode cX12_sway 126 = .ok (.aload_n 0, 1) := by decide +kernel
theorem dX12_sway_127 : decode cX12_sway 127 = .ok (.getfield 7, 3) := by decide +kernel
theorem dX12_sway_130 : decode cX12_sway 130 = .ok (.bipush 70, 2) := by decide +kernel
theorem dX12_sway_132 : decode cX12_sway 132 = .ok (.iconst 5, 1) := by decide +kernel
theorem dX12_sway_133 : decode cX12_sway 133 = .ok (.iload 4, 2) := by decide +kernel
theorem dX12_sway_135 : decode cX12_sway 135 = .ok (.imul, 1) := by decide +kernel
theorem dX12_sway_136 : decode cX12_sway 136 = .ok (.iadd, 1) := by decide +kernel
theorem dX12_sway_137 : decode cX12_sway 137 = .ok (.iconst 3, 1) := by decide +kernel
theorem dX12_sway_138 : decode cX12_sway 138 = .ok (.iadd, 1) := by decide +kernel
theorem dX12_sway_139 : decode cX12_sway 139 = .ok (.iaload, 1) := by decide +kernel
theorem dX12_sway_140 : decode cX12_sway 140 = .ok (.istore 7, 2) := by decide +kernel
theorem dX12_sway_142 : decode cX12_sway 142 = .ok (.aload_n 0, 1) := by decide +kernel
theorem dX12_sway_143 : decode cX12_sway 143 = .ok (.getfield 59, 3) := by decide +kernel
theorem dX12_sway_146 : decode cX12_sway 146 = .ok (.iload 5, 2) := by decide +kernel
theorem dX12_sway_148 : decode cX12_sway 148 = .ok (.iaload, 1) := by decide +kernel
theorem dX12_sway_149 : decode cX12_sway 149 = .ok (.iload 7, 2) := by decide +kernel
theorem dX12_sway_151 : decode cX12_sway 151 = .ok (.iadd, 1) := by decide +kernel
theorem dX12_sway_152 : decode cX12_sway 152 = .ok (.aload_n 0, 1) := by decide +kernel
theorem dX12_sway_153 : decode cX12_sway 153 = .ok (.getfield 59, 3) := by decide +kernel
theorem dX12_sway_156 : decode cX12_sway 156 = .ok (.iload 6, 2) := by decide +kernel
theorem dX12_sway_158 : decode cX12_sway 158 = .ok (.iaload, 1) := by decide +kernel
theorem dX12_sway_159 : decode cX12_sway 159 = .ok (.if_icmp .ge 20, 3) := by decide +kernel
theorem dX12_sway_162 : decode cX12_sway 162 = .ok (.aload_n 0, 1) := by decide +kernel
theorem dX12_sway_163 : decode cX12_sway 163 = .ok (.getfield 59, 3) := by decide +kernel
theorem dX12_sway_166 : decode cX12_sway 166 = .ok (.iload 6, 2) := by decide +kernel
theorem dX12_sway_168 : decode cX12_sway 168 = .ok (.aload_n 0, 1) := by decide +kernel
theorem dX12_sway_169 : decode cX12_sway 169 = .ok (.getfield 59, 3) := by decide +kernel
theorem dX12_sway_172 : decode cX12_sway 172 = .ok (.iload 5, 2) := by decide +kernel
theorem dX12_sway_174 : decode cX12_sway 174 = .ok (.iaload, 1) := by decide +kernel
theorem dX12_sway_175 : decode cX12_sway 175 = .ok (.iload 7, 2) := by decide +kernel
theorem dX12_sway_177 : decode cX12_sway 177 = .ok (.iadd, 1) := by decide +kernel
theorem dX12_sway_178 : decode cX12_sway 178 = .ok (.iastore, 1) := by decide +kernel
theorem dX12_sway_179 : decode cX12_sway 179 = .ok (.aload_n 0, 1) := by decide +kernel
theorem dX12_sway_180 : decode cX12_sway 180 = .ok (.getfield 59, 3) := by decide +kernel
theorem dX12_sway_183 : decode cX12_sway 183 = .ok (.iload 6, 2) := by decide +kernel
theorem dX12_sway_185 : decode cX12_sway 185 = .ok (.iaload, 1) := by decide +kernel
theorem dX12_sway_186 : decode cX12_sway 186 = .ok (.iload 7, 2) := by decide +kernel
theorem dX12_sway_188 : decode cX12_sway 188 = .ok (.iadd, 1) := by decide +kernel
theorem dX12_sway_189 : decode cX12_sway 189 = .ok (.aload_n 0, 1) := by decide +kernel
theorem dX12_sway_190 : decode cX12_sway 190 = .ok (.getfield 59, 3) := by decide +kernel
theorem dX12_sway_193 : decode cX12_sway 193 = .ok (.iload 5, 2) := by decide +kernel
theorem dX12_sway_195 : decode cX12_sway 195 = .ok (.iaload, 1) := by decide +kernel
theorem dX12_sway_196 : decode cX12_sway 196 = .ok (.if_icmp .ge 20, 3) := by decide +kernel
theorem dX12_sway_199 : decode cX12_sway 199 = .ok (.aload_n 0, 1) := by decide +kernel
theorem dX12_sway_200 : decode cX12_sway 200 = .ok (.getfield 59, 3) := by decide +kernel
theorem dX12_sway_203 : decode cX12_sway 203 = .ok (.iload 5, 2) := by decide +kernel
theorem dX12_sway_205 : decode cX12_sway 205 = .ok (.aload_n 0, 1) := by decide +kernel
theorem dX12_sway_206 : decode cX12_sway 206 = .ok (.getfield 59, 3) := by decide +kernel
theorem dX12_sway_209 : decode cX12_sway 209 = .ok (.iload 6, 2) := by decide +kernel
theorem dX12_sway_211 : decode cX12_sway 211 = .ok (.iaload, 1) := by decide +kernel
theorem dX12_sway_212 : decode cX12_sway 212 = .ok (.iload 7, 2) := by decide +kernel
theorem dX12_sway_214 : decode cX12_sway 214 = .ok (.iadd, 1) := by decide +kernel
theorem dX12_sway_215 : decode cX12_sway 215 = .ok (.iastore, 1) := by decide +kernel
theorem dX12_sway_216 : decode cX12_sway 216 = .ok (.iinc 4 1, 3) := by decide +kernel
theorem dX12_sway_219 : decode cX12_sway 219 = .ok (.goto (-154), 3) := by decide +kernel
theorem dX12_sway_222 : decode cX12_sway 222 = .ok (.iinc 3 1, 3) := by decide +kernel
theorem dX12_sway_225 : decode cX12_sway 225 = .ok (.goto (-169), 3) := by decide +kernel
theorem dX12_sway_228 : decode cX12_sway 228 = .ok (.aload_n 0, 1) := by decide +kernel
theorem dX12_sway_229 : decode cX12_sway 229 = .ok (.getfield 59, 3) := by decide +kernel
theorem dX12_sway_232 : decode cX12_sway 232 = .ok (.iload_n 2, 1) := by decide +kernel
theorem dX12_sway_233 : decode cX12_sway 233 = .ok (.iaload, 1) := by decide +kernel
theorem dX12_sway_234 : decode cX12_sway 234 = .ok (.sipush 1000, 3) := by decide +kernel
theorem dX12_sway_237 : decode cX12_sway 237 = .ok (.if_icmp .ge 16, 3) := by decide +kernel
theorem dX12_sway_240 : decode cX12_sway 240 = .ok (.aload_n 0, 1) := by decide +kernel
theorem dX12_sway_241 : decode cX12_sway 241 = .ok (.aload_n 0, 1) := by decide +kernel
theorem dX12_sway_242 : decode cX12_sway 242 = .ok (.getfield 59, 3) := by decide +kernel
theorem dX12_sway_245 : decode cX12_sway 245 = .ok (.iload_n 2, 1) := by decide +kernel
theorem dX12_sway_246 : decode cX12_sway 246 = .ok (.iaload, 1) := by decide +kernel
theorem dX12_sway_247 : decode cX12_sway 247 = .ok (.invokevirtual 87, 3) := by decide +kernel
theorem dX12_sway_250 : decode cX12_sway 250 = .ok (.goto 9, 3) := by decide +kernel
theorem dX12_sway_253 : decode cX12_sway 253 = .ok (.aload_n 0, 1) := by decide +kernel
theorem dX12_sway_254 : decode cX12_sway 254 = .ok (.bipush 7, 2) := by decide +kernel
theorem dX12_sway_256 : decode cX12_sway 256 = .ok (.invokevirtual 83, 3) := by decide +kernel
theorem dX12_sway_259 : decode cX12_sway 259 = .ok (.ireturn, 1) := by decide +kernel
theorem dX12_points_0 : decode cX12_points 0 = .ok (.aload_n 0, 1) := by decide +kernel
theorem dX12_points_1 : decode cX12_points 1 = .ok (.iload_n 1, 1) := by decide +kernel
theorem dX12_points_2 : decode cX12_points 2 = .ok (.invokevirtual 243, 3) := by decide +kernel
theorem dX12_points_5 : decode cX12_points 5 = .ok (.ifCond .eq 10, 3) := by decide +kernel
theorem dX12_points_8 : decode cX12_points 8 = .ok (.iload_n 2, 1) := by decide +kernel
theorem dX12_points_9 : decode cX12_points 9 = .ok (.invokestatic 355, 3) := by decide +kernel
theorem dX12_points_12 : decode cX12_points 12 = .ok (.ifCond .ne 9, 3) := by decide +kernel
theorem dX12_points_15 : decode cX12_points 15 = .ok (.aload_n 0, 1) := by decide +kernel
theorem dX12_points_16 : decode cX12_points 16 = .ok (.iconst 1, 1) := by decide +kernel
theorem dX12_points_17 : decode cX12_points 17 = .ok (.invokevirtual 83, 3) := by decide +kernel
theorem dX12_points_20 : decode cX12_points 20 = .ok (.ireturn, 1) := by decide +kernel
theorem dX12_points_21 : decode cX12_points 21 = .ok (.aload_n 0, 1) := by decide +kernel
theorem dX12_points_22 : decode cX12_points 22 = .ok (.invokevirtual 325, 3) := by decide +kernel
theorem dX12_points_25 : decode cX12_points 25 = .ok (.aload_n 0, 1) := by decide +kernel
theorem dX12_points_26 : decode cX12_points 26 = .ok (.iload_n 2, 1) := by decide +kernel
theorem dX12_points_27 : decode cX12_points 27 = .ok (.invokevirtual 328, 3) := by decide +kernel
theorem dX12_points_30 : decode cX12_points 30 = .ok (.aload_n 0, 1) := by decide +kernel
theorem dX12_points_31 : decode cX12_points 31 = .ok (.aload_n 0, 1) := by decide +kernel
theorem dX12_points_32 : decode cX12_points 32 = .ok (.iload_n 1, 1) := by decide +kernel
theorem dX12_points_33 : decode cX12_points 33 = .ok (.iconst 3, 1) := by decide +kernel
theorem dX12_points_34 : decode cX12_points 34 = .ok (.invokevirtual 249, 3) := by decide +kernel
theorem dX12_points_37 : decode cX12_points 37 = .ok (.invokevirtual 87, 3) := by decide +kernel
theorem dX12_points_40 : decode cX12_points 40 = .ok (.ireturn, 1) := by decide +kernel
theorem dX12_rights_0 : decode cX12_rights 0 = .ok (.iload_n 1, 1) := by decide +kernel
theorem dX12_rights_1 : decode cX12_rights 1 = .ok (.invokestatic 355, 3) := by decide +kernel
theorem dX12_rights_4 : decode cX12_rights 4 = .ok (.ifCond .ne 9, 3) := by decide +kernel
theorem dX12_rights_7 : decode cX12_rights 7 = .ok (.aload_n 0, 1) := by decide +kernel
theorem dX12_rights_8 : decode cX12_rights 8 = .ok (.iconst 1, 1) := by decide +kernel
theorem dX12_rights_9 : decode cX12_rights 9 = .ok (.invokevirtual 83, 3) := by decide +kernel
theorem dX12_rights_12 : decode cX12_rights 12 = .ok (.ireturn, 1) := by decide +kernel
theorem dX12_rights_13 : decode cX12_rights 13 = .ok (.aload_n 0, 1) := by decide +kernel
theorem dX12_rights_14 : decode cX12_rights 14 = .ok (.invokevirtual 325, 3) := by decide +kernel
theorem dX12_rights_17 : decode cX12_rights 17 = .ok (.aload_n 0, 1) := by decide +kernel
theorem dX12_rights_18 : decode cX12_rights 18 = .ok (.iload_n 1, 1) := by decide +kernel
theorem dX12_rights_19 : decode cX12_rights 19 = .ok (.invokevirtual 328, 3) := by decide +kernel
theorem dX12_rights_22 : decode cX12_rights 22 = .ok (.aload_n 0, 1) := by decide +kernel
theorem dX12_rights_23 : decode cX12_rights 23 = .ok (.aload_n 0, 1) := by decide +kernel
theorem dX12_rights_24 : decode cX12_rights 24 = .ok (.invokevirtual 358, 3) := by decide +kernel
theorem dX12_rights_27 : decode cX12_rights 27 = .ok (.invokevirtual 87, 3) := by decide +kernel
theorem dX12_rights_30 : decode cX12_rights 30 = .ok (.ireturn, 1) := by decide +kernel
theorem dX12_isAgain_0 : decode cX12_isAgain 0 = .ok (.iconst 0, 1) := by decide +kernel
theorem dX12_isAgain_1 : decode cX12_isAgain 1 = .ok (.istore_n 3, 1) := by decide +kernel
theorem dX12_isAgain_2 : decode cX12_isAgain 2 = .ok (.iload_n 3, 1) := by decide +kernel
theorem dX12_isAgain_3 : decode cX12_isAgain 3 = .ok (.bipush 18, 2) := by decide +kernel
theorem dX12_isAgain_5 : decode cX12_isAgain 5 = .ok (.if_icmp .ge 36, 3) := by decide +kernel
theorem dX12_isAgain_8 : decode cX12_isAgain 8 = .ok (.aload_n 0, 1) := by decide +kernel
theorem dX12_isAgain_9 : decode cX12_isAgain 9 = .ok (.getfield 62, 3) := by decide +kernel
theorem dX12_isAgain_12 : decode cX12_isAgain 12 = .ok (.bipush 18, 2) := by decide +kernel
theorem dX12_isAgain_14 : decode cX12_isAgain 14 = .ok (.iload_n 1, 1) := by decide +kernel
theorem dX12_isAgain_15 : decode cX12_isAgain 15 = .ok (.imul, 1) := by decide +kernel
theorem dX12_isAgain_16 : decode cX12_isAgain 16 = .ok (.iload_n 3, 1) := by decide +kernel
theorem dX12_isAgain_17 : decode cX12_isAgain 17 = .ok (.iadd, 1) := by decide +kernel
theorem dX12_isAgain_18 : decode cX12_isAgain 18 = .ok (.iaload, 1) := by decide +kernel
theorem dX12_isAgain_19 : decode cX12_isAgain 19 = .ok (.aload_n 0, 1) := by decide +kernel
theorem dX12_isAgain_20 : decode cX12_isAgain 20 = .ok (.getfield 62, 3) := by decide +kernel
theorem dX12_isAgain_23 : decode cX12_isAgain 23 = .ok (.bipush 18, 2) := by decide +kernel
theorem dX12_isAgain_25 : decode cX12_isAgain 25 = .ok (.iload_n 2, 1) := by decide +kernel
theorem dX12_isAgain_26 : decode cX12_isAgain 26 = .ok (.imul, 1) := by decide +kernel
theorem dX12_isAgain_27 : decode cX12_isAgain 27 = .ok (.iload_n 3, 1) := by decide +kernel
theorem dX12_isAgain_28 : decode cX12_isAgain 28 = .ok (.iadd, 1) := by decide +kernel
theorem dX12_isAgain_29 : decode cX12_isAgain 29 = .ok (.iaload, 1) := by decide +kernel
theorem dX12_isAgain_30 : decode cX12_isAgain 30 = .ok (.if_icmp .eq 5, 3) := by decide +kernel
theorem dX12_isAgain_33 : decode cX12_isAgain 33 = .ok (.iconst 0, 1) := by decide +kernel
theorem dX12_isAgain_34 : decode cX12_isAgain 34 = .ok (.ireturn, 1) := by decide +kernel
theorem dX12_isAgain_35 : decode cX12_isAgain 35 = .ok (.iinc 3 1, 3) := by decide +kernel
theorem dX12_isAgain_38 : decode cX12_isAgain 38 = .ok (.goto (-36), 3) := by decide +kernel
theorem dX12_isAgain_41 : decode cX12_isAgain 41 = .ok (.iconst 1, 1) := by decide +kernel
theorem dX12_isAgain_42 : decode cX12_isAgain 42 = .ok (.ireturn, 1) := by decide +kernel
theorem dX12_again_0 : decode cX12_again 0 = .ok (.iload_n 1, 1) := by decide +kernel
theorem dX12_again_1 : decode cX12_again 1 = .ok (.ifCond .lt 8, 3) := by decide +kernel
theorem dX12_again_4 : decode cX12_again 4 = .ok (.iload_n 1, 1) := by decide +kernel
theorem dX12_again_5 : decode cX12_again 5 = .ok (.iconst 1, 1) := by decide +kernel
theorem dX12_again_6 : decode cX12_again 6 = .ok (.if_icmp .le 9, 3) := by decide +kernel
theorem dX12_again_9 : decode cX12_again 9 = .ok (.aload_n 0, 1) := by decide +kernel
theorem dX12_again_10 : decode cX12_again 10 = .ok (.iconst 1, 1) := by decide +kernel
theorem dX12_again_11 : decode cX12_again 11 = .ok (.invokevirtual 83, 3) := by decide +kernel
theorem dX12_again_14 : decode cX12_again 14 = .ok (.ireturn, 1) := by decide +kernel
theorem dX12_again_15 : decode cX12_again 15 = .ok (.aload_n 0, 1) := by decide +kernel
theorem dX12_again_16 : decode cX12_again 16 = .ok (.invokevirtual 325, 3) := by decide +kernel
theorem dX12_again_19 : decode cX12_again 19 = .ok (.iconst 0, 1) := by decide +kernel
theorem dX12_again_20 : decode cX12_again 20 = .ok (.istore_n 2, 1) := by decide +kernel
theorem dX12_again_21 : decode cX12_again 21 = .ok (.iload_n 2, 1) := by decide +kernel
theorem dX12_again_22 : decode cX12_again 22 = .ok (.sipush 400, 3) := by decide +kernel
theorem dX12_again_25 : decode cX12_again 25 = .ok (.if_icmp .gt 82, 3) := by decide +kernel
theorem dX12_again_28 : decode cX12_again 28 = .ok (.iconst 0, 1) := by decide +kernel
theorem dX12_again_29 : decode cX12_again 29 = .ok (.istore_n 3, 1) := by decide +kernel
theorem dX12_again_30 : decode cX12_again 30 = .ok (.iload_n 3, 1) := by decide +kernel
theorem dX12_again_31 : decode cX12_again 31 = .ok (.bipush 8, 2) := by decide +kernel
theorem dX12_again_33 : decode cX12_again 33 = .ok (.if_icmp .ge 26, 3) := by decide +kernel
theorem dX12_again_36 : decode cX12_again 36 = .ok (.aload_n 0, 1) := by decide +kernel
theorem dX12_again_37 : decode cX12_again 37 = .ok (.getfield 62, 3) := by decide +kernel
theorem dX12_again_40 : decode cX12_again 40 = .ok (.bipush 18, 2) := by decide +kernel
theorem dX12_again_42 : decode cX12_again 42 = .ok (.iload_n 2, 1) := by decide +kernel
theorem dX12_again_43 : decode cX12_again 43 = .ok (.imul, 1) := by decide +kernel
theorem dX12_again_44 : decode cX12_again 44 = .ok (.iload_n 3, 1) := by decide +kernel
theorem dX12_again_45 : decode cX12_again 45 = .ok (.iadd, 1) := by decide +kernel
theorem dX12_again_46 : decode cX12_again 46 = .ok (.aload_n 0, 1) := by decide +kernel
theorem dX12_again_47 : decode cX12_again 47 = .ok (.iload_n 3, 1) := by decide +kernel
theorem dX12_again_48 : decode cX12_again 48 = .ok (.iconst 3, 1) := by decide +kernel
theorem dX12_again_49 : decode cX12_again 49 = .ok (.invokevirtual 249, 3) := by decide +kernel
theorem dX12_again_52 : decode cX12_again 52 = .ok (.iastore, 1) := by decide +kernel
theorem dX12_again_53 : decode cX12_again 53 = .ok (.iinc 3 1, 3) := by decide +kernel
theorem dX12_again_56 : decode cX12_again 56 = .ok (.goto (-26), 3) := by decide +kernel
theorem dX12_again_59 : decode cX12_again 59 = .ok (.iconst 0, 1) := by decide +kernel
theorem dX12_again_60 : decode cX12_again 60 = .ok (.istore_n 3, 1) := by decide +kernel
theorem dX12_again_61 : decode cX12_again 61 = .ok (.iload_n 3, 1) := by decide +kernel
theorem dX12_again_62 : decode cX12_again 62 = .ok (.bipush 10, 2) := by decide +kernel
theorem dX12_again_64 : decode cX12_again 64 = .ok (.if_icmp .ge 29, 3) := by decide +kernel
theorem dX12_again_67 : decode cX12_again 67 = .ok (.aload_n 0, 1) := by decide +kernel
theorem dX12_again_68 : decode cX12_again 68 = .ok (.getfield 62, 3) := by decide +kernel
theorem dX12_again_71 : decode cX12_again 71 = .ok (.bipush 18, 2) := by decide +kernel
theorem dX12_again_73 : decode cX12_again 73 = .ok (.iload_n 2, 1) := by decide +kernel
theorem dX12_again_74 : decode cX12_again 74 = .ok (.imul, 1) := by decide +kernel
theorem dX12_again_75 : decode cX12_again 75 = .ok (.bipush 8, 2) := by decide +kernel
theorem dX12_again_77 : decode cX12_again 77 = .ok (.iadd, 1) := by decide +kernel
theorem dX12_again_78 : decode cX12_again 78 = .ok (.iload_n 3, 1) := by decide +kernel
theorem dX12_again_79 : decode cX12_again 79 = .ok (.iadd, 1) := by decide +kernel
theorem dX12_again_80 : decode cX12_again 80 = .ok (.aload_n 0, 1) := by decide +kernel
theorem dX12_again_81 : decode cX12_again 81 = .ok (.iload_n 3, 1) := by decide +kernel
theorem dX12_again_82 : decode cX12_again 82 = .ok (.iconst 4, 1) := by decide +kernel
theorem dX12_again_83 : decode cX12_again 83 = .ok (.invokevirtual 267, 3) := by decide +kernel
theorem dX12_again_86 : decode cX12_again 86 = .ok (.iastore, 1) := by decide +kernel
theorem dX12_again_87 : decode cX12_again 87 = .ok (.iinc 3 1, 3) := by decide +kernel
theorem dX12_again_90 : decode cX12_again 90 = .ok (.goto (-29), 3) := by decide +kernel
theorem dX12_again_93 : decode cX12_again 93 = .ok (.aload_n 0, 1) := by decide +kernel
theorem dX12_again_94 : decode cX12_again 94 = .ok (.aload_n 0, 1) := by decide +kernel
theorem dX12_again_95 : decode cX12_again 95 = .ok (.invokevirtual 306, 3) := by decide +kernel
theorem dX12_again_98 : decode cX12_again 98 = .ok (.putfield 309, 3) := by decide +kernel
theorem dX12_again_101 : decode cX12_again 101 = .ok (.iinc 2 1, 3) := by decide +kernel
theorem dX12_again_104 : decode cX12_again 104 = .ok (.goto (-83), 3) := by decide +kernel
theorem dX12_again_107 : decode cX12_again 107 = .ok (.iconst 0, 1) := by decide +kernel
theorem dX12_again_108 : decode cX12_again 108 = .ok (.istore_n 2, 1) := by decide +kernel
theorem dX12_again_109 : decode cX12_again 109 = .ok (.iload_n 2, 1) := by decide +kernel
theorem dX12_again_110 : decode cX12_again 110 = .ok (.sipush 400, 3) := by decide +kernel
theorem dX12_again_113 : decode cX12_again 113 = .ok (.if_icmp .ge 51, 3) := by decide +kernel
theorem dX12_again_116 : decode cX12_again 116 = .ok (.iload_n 2, 1) := by decide +kernel
theorem dX12_again_117 : decode cX12_again 117 = .ok (.iconst 1, 1) := by decide +kernel
theorem dX12_again_118 : decode cX12_again 118 = .ok (.iadd, 1) := by decide +kernel
theorem dX12_again_119 : decode cX12_again 119 = .ok (.istore_n 3, 1) := by decide +kernel
theorem dX12_again_120 : decode cX12_again 120 = .ok (.iload_n 3, 1) := by decide +kernel
theorem dX12_again_121 : decode cX12_again 121 = .ok (.sipush 400, 3) := by decide +kernel
theorem dX12_again_124 : decode cX12_again 124 = .ok (.if_icmp .gt 34, 3) := by decide +kernel
theorem dX12_again_127 : decode cX12_again 127 = .ok (.aload_n 0, 1) := by decide +kernel
theorem dX12_again_128 : decode cX12_again 128 = .ok (.iload_n 2, 1) := by decide +kernel
theorem dX12_again_129 : decode cX12_again 129 = .ok (.iload_n 3, 1) := by decide +kernel
theorem dX12_again_130 : decode cX12_again 130 = .ok (.invokevirtual 361, 3) := by decide +kernel
theorem dX12_again_133 : decode cX12_again 133 = .ok (.ifCond .eq 19, 3) := by decide +kernel
theorem dX12_again_136 : decode cX12_again 136 = .ok (.aload_n 0, 1) := by decide +kernel
theorem dX12_again_137 : decode cX12_again 137 = .ok (.iload_n 1, 1) := by decide +kernel
theorem dX12_again_138 : decode cX12_again 138 = .ok (.ifCond .ne 7, 3) := by decide +kernel
theorem dX12_again_141 : decode cX12_again 141 = .ok (.iload_n 2, 1) := by decide +kernel
theorem dX12_again_142 : decode cX12_again 142 = .ok (.goto 6, 3) := by decide +kernel
theorem dX12_again_145 : decode cX12_again 145 = .ok (.iload_n 3, 1) := by decide +kernel
theorem dX12_again_146 : decode cX12_again 146 = .ok (.iload_n 2, 1) := by decide +kernel
theorem dX12_again_147 : decode cX12_again 147 = .ok (.isub, 1) := by decide +kernel
theorem dX12_again_148 : decode cX12_again 148 = .ok (.invokevirtual 87, 3) := by decide +kernel
theorem dX12_again_151 : decode cX12_again 151 = .ok (.ireturn, 1) := by decide +kernel
theorem dX12_again_152 : decode cX12_again 152 = .ok (.iinc 3 1, 3) := by decide +kernel
theorem dX12_again_155 : decode cX12_again 155 = .ok (.goto (-35), 3) := by decide +kernel
theorem dX12_again_158 : decode cX12_again 158 = .ok (.iinc 2 1, 3) := by decide +kernel
theorem dX12_again_161 : decode cX12_again 161 = .ok (.goto (-52), 3) := by decide +kernel
theorem dX12_again_164 : decode cX12_again 164 = .ok (.aload_n 0, 1) := by decide +kernel
theorem dX12_again_165 : decode cX12_again 165 = .ok (.bipush 6, 2) := by decide +kernel
theorem dX12_again_167 : decode cX12_again 167 = .ok (.invokevirtual 83, 3) := by decide +kernel
theorem dX12_again_170 : decode cX12_again 170 = .ok (.ireturn, 1) := by decide +kernel
theorem dX12_strikes_0 : decode cX12_strikes 0 = .ok (.aload_n 0, 1) := by decide +kernel
theorem dX12_strikes_1 : decode cX12_strikes 1 = .ok (.iload_n 1, 1) := by decide +kernel
theorem dX12_strikes_2 : decode cX12_strikes 2 = .ok (.invokevirtual 243, 3) := by decide +kernel
theorem dX12_strikes_5 : decode cX12_strikes 5 = .ok (.ifCond .eq 10, 3) := by decide +kernel
theorem dX12_strikes_8 : decode cX12_strikes 8 = .ok (.iload_n 2, 1) := by decide +kernel
theorem dX12_strikes_9 : decode cX12_strikes 9 = .ok (.invokestatic 364, 3) := by decide +kernel
theorem dX12_strikes_12 : decode cX12_strikes 12 = .ok (.ifCond .ne 9, 3) := by decide +kernel
theorem dX12_strikes_15 : decode cX12_strikes 15 = .ok (.aload_n 0, 1) := by decide +kernel
theorem dX12_strikes_16 : decode cX12_strikes 16 = .ok (.iconst 1, 1) := by decide +kernel
theorem dX12_strikes_17 : decode cX12_strikes 17 = .ok (.invokevirtual 83, 3) := by decide +kernel
theorem dX12_strikes_20 : decode cX12_strikes 20 = .ok (.ireturn, 1) := by decide +kernel
theorem dX12_strikes_21 : decode cX12_strikes 21 = .ok (.aload_n 0, 1) := by decide +kernel
theorem dX12_strikes_22 : decode cX12_strikes 22 = .ok (.invokevirtual 325, 3) := by decide +kernel
theorem dX12_strikes_25 : decode cX12_strikes 25 = .ok (.aload_n 0, 1) := by decide +kernel
theorem dX12_strikes_26 : decode cX12_strikes 26 = .ok (.iload_n 1, 1) := by decide +kernel
theorem dX12_strikes_27 : decode cX12_strikes 27 = .ok (.iconst 5, 1) := by decide +kernel
theorem dX12_strikes_28 : decode cX12_strikes 28 = .ok (.invokevirtual 249, 3) := by decide +kernel
theorem dX12_strikes_31 : decode cX12_strikes 31 = .ok (.istore_n 3, 1) := by decide +kernel
theorem dX12_strikes_32 : decode cX12_strikes 32 = .ok (.aload_n 0, 1) := by decide +kernel
theorem dX12_strikes_33 : decode cX12_strikes 33 = .ok (.iload_n 2, 1) := by decide +kernel
theorem dX12_strikes_34 : decode cX12_strikes 34 = .ok (.invokevirtual 328, 3) := by decide +kernel
theorem dX12_strikes_37 : decode cX12_strikes 37 = .ok (.aload_n 0, 1) := by decide +kernel
theorem dX12_strikes_38 : decode cX12_strikes 38 = .ok (.aload_n 0, 1) := by decide +kernel
theorem dX12_strikes_39 : decode cX12_strikes 39 = .ok (.iload_n 1, 1) := by decide +kernel
theorem dX12_strikes_40 : decode cX12_strikes 40 = .ok (.iconst 5, 1) := by decide +kernel
theorem dX12_strikes_41 : decode cX12_strikes 41 = .ok (.invokevirtual 249, 3) := by decide +kernel
theorem dX12_strikes_44 : decode cX12_strikes 44 = .ok (.iload_n 3, 1) := by decide +kernel
theorem dX12_strikes_45 : decode cX12_strikes 45 = .ok (.isub, 1) := by decide +kernel
theorem dX12_strikes_46 : decode cX12_strikes 46 = .ok (.invokevirtual 87, 3) := by decide +kernel
theorem dX12_strikes_49 : decode cX12_strikes 49 = .ok (.ireturn, 1) := by decide +kernel
theorem dX12_bell_0 : decode cX12_bell 0 = .ok (.iload_n 1, 1) := by decide +kernel
theorem dX12_bell_1 : decode cX12_bell 1 = .ok (.ifCond .lt 10, 3) := by decide +kernel
theorem dX12_bell_4 : decode cX12_bell 4 = .ok (.iload_n 2, 1) := by decide +kernel
theorem dX12_bell_5 : decode cX12_bell 5 = .ok (.invokestatic 364, 3) := by decide +kernel
theorem dX12_bell_8 : decode cX12_bell 8 = .ok (.ifCond .ne 9, 3) := by decide +kernel
theorem dX12_bell_11 : decode cX12_bell 11 = .ok (.aload_n 0, 1) := by decide +kernel
theorem dX12_bell_12 : decode cX12_bell 12 = .ok (.iconst 1, 1) := by decide +kernel
theorem dX12_bell_13 : decode cX12_bell 13 = .ok (.invokevirtual 83, 3) := by decide +kernel
theorem dX12_bell_16 : decode cX12_bell 16 = .ok (.ireturn, 1) := by decide +kernel
theorem dX12_bell_17 : decode cX12_bell 17 = .ok (.aload_n 0, 1) := by decide +kernel
theorem dX12_bell_18 : decode cX12_bell 18 = .ok (.invokevirtual 325, 3) := by decide +kernel
theorem dX12_bell_21 : decode cX12_bell 21 = .ok (.aload_n 0, 1) := by decide +kernel
theorem dX12_bell_22 : decode cX12_bell 22 = .ok (.iload_n 2, 1) := by decide +kernel
theorem dX12_bell_23 : decode cX12_bell 23 = .ok (.invokevirtual 328, 3) := by decide +kernel
theorem dX12_bell_26 : decode cX12_bell 26 = .ok (.iload_n 1, 1) := by decide +kernel
theorem dX12_bell_27 : decode cX12_bell 27 = .ok (.aload_n 0, 1) := by decide +kernel
theorem dX12_bell_28 : decode cX12_bell 28 = .ok (.getfield 285, 3) := by decide +kernel
theorem dX12_bell_31 : decode cX12_bell 31 = .ok (.if_icmp .lt 12, 3) := by decide +kernel
theorem dX12_bell_34 : decode cX12_bell 34 = .ok (.aload_n 0, 1) := by decide +kernel
theorem dX12_bell_35 : decode cX12_bell 35 = .ok (.bipush 6, 2) := by decide +kernel
theorem dX12_bell_37 : decode cX12_bell 37 = .ok (.invokevirtual 83, 3) := by decide +kernel
theorem dX12_bell_40 : decode cX12_bell 40 = .ok (.goto 13, 3) := by decide +kernel
theorem dX12_bell_43 : decode cX12_bell 43 = .ok (.aload_n 0, 1) := by decide +kernel
theorem dX12_bell_44 : decode cX12_bell 44 = .ok (.aload_n 0, 1) := by decide +kernel
theorem dX12_bell_45 : decode cX12_bell 45 = .ok (.getfield 50, 3) := by decide +kernel
theorem dX12_bell_48 : decode cX12_bell 48 = .ok (.iload_n 1, 1) := by decide +kernel
theorem dX12_bell_49 : decode cX12_bell 49 = .ok (.iaload, 1) := by decide +kernel
theorem dX12_bell_50 : decode cX12_bell 50 = .ok (.invokevirtual 87, 3) := by decide +kernel
theorem dX12_bell_53 : decode cX12_bell 53 = .ok (.ireturn, 1) := by decide +kernel
theorem dX12_wrongOf_0 : decode cX12_wrongOf 0 = .ok (.iconst 0, 1) := by decide +kernel
theorem dX12_wrongOf_1 : decode cX12_wrongOf 1 = .ok (.istore_n 3, 1) := by decide +kernel
theorem dX12_wrongOf_2 : decode cX12_wrongOf 2 = .ok (.iconst 0, 1) := by decide +kernel
theorem dX12_wrongOf_3 : decode cX12_wrongOf 3 = .ok (.istore 4, 2) := by decide +kernel
theorem dX12_wrongOf_5 : decode cX12_wrongOf 5 = .ok (.iload 4, 2) := by decide +kernel
theorem dX12_wrongOf_7 : decode cX12_wrongOf 7 = .ok (.iload_n 2, 1) := by decide +kernel
theorem dX12_wrongOf_8 : decode cX12_wrongOf 8 = .ok (.if_icmp .ge 57, 3) := by decide +kernel
theorem dX12_wrongOf_11 : decode cX12_wrongOf 11 = .ok (.aload_n 0, 1) := by decide +kernel
theorem dX12_wrongOf_12 : decode cX12_wrongOf 12 = .ok (.aload_n 0, 1) := by decide +kernel
theorem dX12_wrongOf_13 : decode cX12_wrongOf 13 = .ok (.invokevirtual 306, 3) := by decide +kernel
theorem dX12_wrongOf_16 : decode cX12_wrongOf 16 = .ok (.putfield 309, 3) := by decide +kernel
theorem dX12_wrongOf_19 : decode cX12_wrongOf 19 = .ok (.aload_n 0, 1) := by decide +kernel
theorem dX12_wrongOf_20 : decode cX12_wrongOf 20 = .ok (.invokevirtual 358, 3) := by decide +kernel
theorem dX12_wrongOf_23 : decode cX12_wrongOf 23 = .ok (.istore 5, 2) := by decide +kernel
theorem dX12_wrongOf_25 : decode cX12_wrongOf 25 = .ok (.iconst 0, 1) := by decide +kernel
theorem dX12_wrongOf_26 : decode cX12_wrongOf 26 = .ok (.istore 6, 2) := by decide +kernel
theorem dX12_wrongOf_28 : decode cX12_wrongOf 28 = .ok (.iload 6, 2) := by decide +kernel
theorem dX12_wrongOf_30 : decode cX12_wrongOf 30 = .ok (.aload_n 0, 1) := by decide +kernel
theorem dX12_wrongOf_31 : decode cX12_wrongOf 31 = .ok (.getfield 7, 3) := by decide +kernel
theorem dX12_wrongOf_34 : decode cX12_wrongOf 34 = .ok (.iconst 1, 1) := by decide +kernel
theorem dX12_wrongOf_35 : decode cX12_wrongOf 35 = .ok (.iaload, 1) := by decide +kernel
theorem dX12_wrongOf_36 : decode cX12_wrongOf 36 = .ok (.if_icmp .ge 23, 3) := by decide +kernel
theorem dX12_wrongOf_39 : decode cX12_wrongOf 39 = .ok (.iload_n 3, 1) := by decide +kernel
theorem dX12_wrongOf_40 : decode cX12_wrongOf 40 = .ok (.iload_n 1, 1) := by decide +kernel
theorem dX12_wrongOf_41 : decode cX12_wrongOf 41 = .ok (.iload 5, 2) := by decide +kernel
theorem dX12_wrongOf_43 : decode cX12_wrongOf 43 = .ok (.iconst (-1), 1) := by decide +kernel
theorem dX12_wrongOf_44 : decode cX12_wrongOf 44 = .ok (.ixor, 1) := by decide +kernel
theorem dX12_wrongOf_45 : decode cX12_wrongOf 45 = .ok (.iand, 1) := by decide +kernel
theorem dX12_wrongOf_46 : decode cX12_wrongOf 46 = .ok (.iload 6, 2) := by decide +kernel
theorem dX12_wrongOf_48 : decode cX12_wrongOf 48 = .ok (.ishr, 1) := by decide +kernel
theorem dX12_wrongOf_49 : decode cX12_wrongOf 49 = .ok (.iconst 1, 1) := by decide +kernel
theorem dX12_wrongOf_50 : decode cX12_wrongOf 50 = .ok (.iand, 1) := by decide +kernel
theorem dX12_wrongOf_51 : decode cX12_wrongOf 51 = .ok (.iadd, 1) := by decide +kernel
theorem dX12_wrongOf_52 : decode cX12_wrongOf 52 = .ok (.istore_n 3, 1) := by decide +kernel
theorem dX12_wrongOf_53 : decode cX12_wrongOf 53 = .ok (.iinc 6 1, 3) := by decide +kernel
theorem dX12_wrongOf_56 : decode cX12_wrongOf 56 = .ok (.goto (-28), 3) := by decide +kernel
theorem dX12_wrongOf_59 : decode cX12_wrongOf 59 = .ok (.iinc 4 1, 3) := by decide +kernel
theorem dX12_wrongOf_62 : decode cX12_wrongOf 62 = .ok (.goto (-57), 3) := by decide +kernel
theorem dX12_wrongOf_65 : decode cX12_wrongOf 65 = .ok (.iload_n 3, 1) := by decide +kernel
theorem dX12_wrongOf_66 : decode cX12_wrongOf 66 = .ok (.ireturn, 1) := by decide +kernel
theorem dX12_wrong_0 : decode cX12_wrong 0 = .ok (.aload_n 0, 1) := by decide +kernel
theorem dX12_wrong_1 : decode cX12_wrong 1 = .ok (.iload_n 1, 1) := by decide +kernel
theorem dX12_wrong_2 : decode cX12_wrong 2 = .ok (.invokevirtual 243, 3) := by decide +kernel
theorem dX12_wrong_5 : decode cX12_wrong 5 = .ok (.ifCond .eq 10, 3) := by decide +kernel
theorem dX12_wrong_8 : decode cX12_wrong 8 = .ok (.iload_n 2, 1) := by decide +kernel
theorem dX12_wrong_9 : decode cX12_wrong 9 = .ok (.invokestatic 364, 3) := by decide +kernel
theorem dX12_wrong_12 : decode cX12_wrong 12 = .ok (.ifCond .ne 9, 3) := by decide +kernel
theorem dX12_wrong_15 : decode cX12_wrong 15 = .ok (.aload_n 0, 1) := by decide +kernel
theorem dX12_wrong_16 : decode cX12_wrong 16 = .ok (.iconst 1, 1) := by decide +kernel
theorem dX12_wrong_17 : decode cX12_wrong 17 = .ok (.invokevirtual 83, 3) := by decide +kernel
theorem dX12_wrong_20 : decode cX12_wrong 20 = .ok (.ireturn, 1) := by decide +kernel
theorem dX12_wrong_21 : decode cX12_wrong 21 = .ok (.aload_n 0, 1) := by decide +kernel
theorem dX12_wrong_22 : decode cX12_wrong 22 = .ok (.invokevirtual 325, 3) := by decide +kernel
theorem dX12_wrong_25 : decode cX12_wrong 25 = .ok (.aload_n 0, 1) := by decide +kernel
theorem dX12_wrong_26 : decode cX12_wrong 26 = .ok (.aload_n 0, 1) := by decide +kernel
theorem dX12_wrong_27 : decode cX12_wrong 27 = .ok (.iconst 1, 1) := by decide +kernel
theorem dX12_wrong_28 : decode cX12_wrong 28 = .ok (.iload_n 1, 1) := by decide +kernel
theorem dX12_wrong_29 : decode cX12_wrong 29 = .ok (.ishl, 1) := by decide +kernel
theorem dX12_wrong_30 : decode cX12_wrong 30 = .ok (.iload_n 2, 1) := by decide +kernel
theorem dX12_wrong_31 : decode cX12_wrong 31 = .ok (.invokevirtual 367, 3) := by decide +kernel
theorem dX12_wrong_34 : decode cX12_wrong 34 = .ok (.invokevirtual 87, 3) := by decide +kernel
theorem dX12_wrong_37 : decode cX12_wrong 37 = .ok (.ireturn, 1) := by decide +kernel
theorem dX12_holding_0 : decode cX12_holding 0 = .ok (.aload_n 0, 1) := by decide +kernel
theorem dX12_holding_1 : decode cX12_holding 1 = .ok (.iload_n 1, 1) := by decide +kernel
theorem dX12_holding_2 : decode cX12_holding 2 = .ok (.invokevirtual 243, 3) := by decide +kernel
theorem dX12_holding_5 : decode cX12_holding 5 = .ok (.ifCond .eq 10, 3) := by decide +kernel
theorem dX12_holding_8 : decode cX12_holding 8 = .ok (.iload_n 2, 1) := by decide +kernel
theorem dX12_holding_9 : decode cX12_holding 9 = .ok (.invokestatic 364, 3) := by decide +kernel
theorem dX12_holding_12 : decode cX12_holding 12 = .ok (.ifCond .ne 9, 3) := by decide +kernel
theorem dX12_holding_15 : decode cX12_holding 15 = .ok (.aload_n 0, 1) := by decide +kernel
theorem dX12_holding_16 : decode cX12_holding 16 = .ok (.iconst 1, 1) := by decide +kernel
theorem dX12_holding_17 : decode cX12_holding 17 = .ok (.invokevirtual 83, 3) := by decide +kernel
theorem dX12_holding_20 : decode cX12_holding 20 = .ok (.ireturn, 1) := by decide +kernel
theorem dX12_holding_21 : decode cX12_holding 21 = .ok (.iconst 1, 1) := by decide +kernel
theorem dX12_holding_22 : decode cX12_holding 22 = .ok (.aload_n 0, 1) := by decide +kernel
theorem dX12_holding_23 : decode cX12_holding 23 = .ok (.getfield 7, 3) := by decide +kernel
theorem dX12_holding_26 : decode cX12_holding 26 = .ok (.iconst 1, 1) := by decide +kernel
theorem dX12_holding_27 : decode cX12_holding 27 = .ok (.iaload, 1) := by decide +kernel
theorem dX12_holding_28 : decode cX12_holding 28 = .ok (.ishl, 1) := by decide +kernel
theorem dX12_holding_29 : decode cX12_holding 29 = .ok (.iconst 1, 1) := by decide +kernel
theorem dX12_holding_30 : decode cX12_holding 30 = .ok (.isub, 1) := by decide +kernel
theorem dX12_holding_31 : decode cX12_holding 31 = .ok (.iconst 1, 1) := by decide +kernel
theorem dX12_holding_32 : decode cX12_holding 32 = .ok (.iload_n 1, 1) := by decide +kernel
theorem dX12_holding_33 : decode cX12_holding 33 = .ok (.ishl, 1) := by decide +kernel
theorem dX12_holding_34 : decode cX12_holding 34 = .ok (.iconst (-1), 1) := by decide +kernel
theorem dX12_holding_35 : decode cX12_holding 35 = .ok (.ixor, 1) := by decide +kernel
theorem dX12_holding_36 : decode cX12_holding 36 = .ok (.iand, 1) := by decide +kernel
theorem dX12_holding_37 : decode cX12_holding 37 = .ok (.istore_n 3, 1) := by decide +kernel
theorem dX12_holding_38 : decode cX12_holding 38 = .ok (.aload_n 0, 1) := by decide +kernel
theorem dX12_holding_39 : decode cX12_holding 39 = .ok (.invokevirtual 325, 3) := by decide +kernel
theorem dX12_holding_42 : decode cX12_holding 42 = .ok (.aload_n 0, 1) := by decide +kernel
theorem dX12_holding_43 : decode cX12_holding 43 = .ok (.iload_n 3, 1) := by decide +kernel
theorem dX12_holding_44 : decode cX12_holding 44 = .ok (.iload_n 2, 1) := by decide +kernel
theorem dX12_holding_45 : decode cX12_holding 45 = .ok (.invokevirtual 367, 3) := by decide +kernel
theorem dX12_holding_48 : decode cX12_holding 48 = .ok (.istore 4, 2) := by decide +kernel
theorem dX12_holding_50 : decode cX12_holding 50 = .ok (.aload_n 0, 1) := by decide +kernel
theorem dX12_holding_51 : decode cX12_holding 51 = .ok (.invokevirtual 325, 3) := by decide +kernel
theorem dX12_holding_54 : decode cX12_holding 54 = .ok (.aload_n 0, 1) := by decide +kernel
theorem dX12_holding_55 : decode cX12_holding 55 = .ok (.getfield 7, 3) := by decide +kernel
theorem dX12_holding_58 : decode cX12_holding 58 = .ok (.sipush 2455, 3) := by decide +kernel
theorem dX12_holding_61 : decode cX12_holding 61 = .ok (.dup2, 1) := by decide +kernel
theorem dX12_holding_62 : decode cX12_holding 62 = .ok (.iaload, 1) := by decide +kernel
theorem dX12_holding_63 : decode cX12_holding 63 = .ok (.iconst 1, 1) := by decide +kernel
theorem dX12_holding_64 : decode cX12_holding 64 = .ok (.iload_n 1, 1) := by decide +kernel
theorem dX12_holding_65 : decode cX12_holding 65 = .ok (.ishl, 1) := by decide +kernel
theorem dX12_holding_66 : decode cX12_holding 66 = .ok (.ior, 1) := by decide +kernel
theorem dX12_holding_67 : decode cX12_holding 67 = .ok (.iastore, 1) := by decide +kernel
theorem dX12_holding_68 : decode cX12_holding 68 = .ok (.aload_n 0, 1) := by decide +kernel
theorem dX12_holding_69 : decode cX12_holding 69 = .ok (.aload_n 0, 1) := by decide +kernel
theorem dX12_holding_70 : decode cX12_holding 70 = .ok (.iload_n 3, 1) := by decide +kernel
theorem dX12_holding_71 : decode cX12_holding 71 = .ok (.iload_n 2, 1) := by decide +kernel
theorem dX12_holding_72 : decode cX12_holding 72 = .ok (.invokevirtual 367, 3) := by decide +kernel
theorem dX12_holding_75 : decode cX12_holding 75 = .ok (.iload 4, 2) := by decide +kernel
theorem dX12_holding_77 : decode cX12_holding 77 = .ok (.isub, 1) := by decide +kernel
theorem dX12_holding_78 : decode cX12_holding 78 = .ok (.invokevirtual 87, 3) := by decide +kernel
theorem dX12_holding_81 : decode cX12_holding 81 = .ok (.ireturn, 1) := by decide +kernel
theorem dX12_helpers_0 : decode cX12_helpers 0 = .ok (.aload_n 0, 1) := by decide +kernel
theorem dX12_helpers_1 : decode cX12_helpers 1 = .ok (.iload_n 1, 1) := by decide +kernel
theorem dX12_helpers_2 : decode cX12_helpers 2 = .ok (.invokevirtual 243, 3) := by decide +kernel
theorem dX12_helpers_5 : decode cX12_helpers 5 = .ok (.ifCond .ne 9, 3) := by decide +kernel
theorem dX12_helpers_8 : decode cX12_helpers 8 = .ok (.aload_n 0, 1) := by decide +kernel
theorem dX12_helpers_9 : decode cX12_helpers 9 = .ok (.iconst 1, 1) := by decide +kernel
theorem dX12_helpers_10 : decode cX12_helpers 10 = .ok (.invokevirtual 83, 3) := by decide +kernel
theorem dX12_helpers_13 : decode cX12_helpers 13 = .ok (.ireturn, 1) := by decide +kernel
theorem dX12_helpers_14 : decode cX12_helpers 14 = .ok (.aload_n 0, 1) := by decide +kernel
theorem dX12_helpers_15 : decode cX12_helpers 15 = .ok (.invokevirtual 261, 3) := by decide +kernel
theorem dX12_helpers_18 : decode cX12_helpers 18 = .ok (.aload_n 0, 1) := by decide +kernel
theorem dX12_helpers_19 : decode cX12_helpers 19 = .ok (.iload_n 1, 1) := by decide +kernel
theorem dX12_helpers_20 : decode cX12_helpers 20 = .ok (.invokevirtual 258, 3) := by decide +kernel
theorem dX12_helpers_23 : decode cX12_helpers 23 = .ok (.ifCond .eq 10, 3) := by decide +kernel
theorem dX12_helpers_26 : decode cX12_helpers 26 = .ok (.aload_n 0, 1) := by decide +kernel
theorem dX12_helpers_27 : decode cX12_helpers 27 = .ok (.bipush 6, 2) := by decide +kernel
theorem dX12_helpers_29 : decode cX12_helpers 29 = .ok (.invokevirtual 83, 3) := by decide +kernel
theorem dX12_helpers_32 : decode cX12_helpers 32 = .ok (.ireturn, 1) := by decide +kernel
theorem dX12_helpers_33 : decode cX12_helpers 33 = .ok (.aload_n 0, 1) := by decide +kernel
theorem dX12_helpers_34 : decode cX12_helpers 34 = .ok (.iload_n 1, 1) := by decide +kernel
theorem dX12_helpers_35 : decode cX12_helpers 35 = .ok (.aload_n 0, 1) := by decide +kernel
theorem dX12_helpers_36 : decode cX12_helpers 36 = .ok (.iload_n 1, 1) := by decide +kernel
theorem dX12_helpers_37 : decode cX12_helpers 37 = .ok (.invokevirtual 294, 3) := by decide +kernel
theorem dX12_helpers_40 : decode cX12_helpers 40 = .ok (.invokevirtual 297, 3) := by decide +kernel
theorem dX12_helpers_43 : decode cX12_helpers 43 = .ok (.ifCond .ne 10, 3) := by decide +kernel
theorem dX12_helpers_46 : decode cX12_helpers 46 = .ok (.aload_n 0, 1) := by decide +kernel
theorem dX12_helpers_47 : decode cX12_helpers 47 = .ok (.bipush 7, 2) := by decide +kernel
theorem dX12_helpers_49 : decode cX12_helpers 49 = .ok (.invokevirtual 83, 3) := by decide +kernel
theorem dX12_helpers_52 : decode cX12_helpers 52 = .ok (.ireturn, 1) := by decide +kernel
theorem dX12_helpers_53 : decode cX12_helpers 53 = .ok (.iconst 0, 1) := by decide +kernel
theorem dX12_helpers_54 : decode cX12_helpers 54 = .ok (.istore_n 2, 1) := by decide +kernel
theorem dX12_helpers_55 : decode cX12_helpers 55 = .ok (.iconst 0, 1) := by decide +kernel
theorem dX12_helpers_56 : decode cX12_helpers 56 = .ok (.istore_n 3, 1) := by decide +kernel
theorem dX12_helpers_57 : decode cX12_helpers 57 = .ok (.iload_n 3, 1) := by decide +kernel
theorem dX12_helpers_58 : decode cX12_helpers 58 = .ok (.aload_n 0, 1) := by decide +kernel
theorem dX12_helpers_59 : decode cX12_helpers 59 = .ok (.getfield 7, 3) := by decide +kernel
theorem dX12_helpers_62 : decode cX12_helpers 62 = .ok (.iconst 1, 1) := by decide +kernel
theorem dX12_helpers_63 : decode cX12_helpers 63 = .ok (.iaload, 1) := by decide +kernel
theorem dX12_helpers_64 : decode cX12_helpers 64 = .ok (.if_icmp .ge 74, 3) := by decide +kernel
theorem dX12_helpers_67 : decode cX12_helpers 67 = .ok (.iload_n 3, 1) := by decide +kernel
theorem dX12_helpers_68 : decode cX12_helpers 68 = .ok (.iload_n 1, 1) := by decide +kernel
theorem dX12_helpers_69 : decode cX12_helpers 69 = .ok (.if_icmp .eq 63, 3) := by decide +kernel
theorem dX12_helpers_72 : decode cX12_helpers 72 = .ok (.aload_n 0, 1) := by decide +kernel
theorem dX12_helpers_73 : decode cX12_helpers 73 = .ok (.getfield 47, 3) := by decide +kernel
theorem dX12_helpers_76 : decode cX12_helpers 76 = .ok (.iload_n 3, 1) := by decide +kernel
theorem dX12_helpers_77 : decode cX12_helpers 77 = .ok (.iaload, 1) := by decide +kernel
theorem dX12_helpers_78 : decode cX12_helpers 78 = .ok (.ifCond .eq 54, 3) := by decide +kernel
theorem dX12_helpers_81 : decode cX12_helpers 81 = .ok (.aload_n 0, 1) := by decide +kernel
theorem dX12_helpers_82 : decode cX12_helpers 82 = .ok (.iload_n 3, 1) := by decide +kernel
theorem dX12_helpers_83 : decode cX12_helpers 83 = .ok (.invokevirtual 252, 3) := by decide +kernel
theorem dX12_helpers_86 : decode cX12_helpers 86 = .ok (.ifCond .eq 6, 3) := by decide +kernel
theorem dX12_helpers_89 : decode cX12_helpers 89 = .ok (.goto 43, 3) := by decide +kernel
theorem dX12_helpers_92 : decode cX12_helpers 92 = .ok (.iload_n 2, 1) := by decide +kernel
theorem dX12_helpers_93 : decode cX12_helpers 93 = .ok (.aload_n 0, 1) := by decide +kernel
theorem dX12_helpers_94 : decode cX12_helpers 94 = .ok (.iload_n 3, 1) := by decide +kernel
theorem dX12_helpers_95 : decode cX12_helpers 95 = .ok (.aload_n 0, 1) := by decide +kernel
theorem dX12_helpers_96 : decode cX12_helpers 96 = .ok (.iload_n 3, 1) := by decide +kernel
theorem dX12_helpers_97 : decode cX12_helpers 97 = .ok (.aload_n 0, 1) := by decide +kernel
theorem dX12_helpers_98 : decode cX12_helpers 98 = .ok (.getfield 47, 3) := by decide +kernel
theorem dX12_helpers_101 : decode cX12_helpers 101 = .ok (.iload_n 3, 1) := by decide +kernel
theorem dX12_helpers_102 : decode cX12_helpers 102 = .ok (.iaload, 1) := by decide +kernel
theorem dX12_helpers_103 : decode cX12_helpers 103 = .ok (.invokevirtual 279, 3) := by decide +kernel
theorem dX12_helpers_106 : decode cX12_helpers 106 = .ok (.invokevirtual 288, 3) := by decide +kernel
theorem dX12_helpers_109 : decode cX12_helpers 109 = .ok (.aload_n 0, 1) := by decide +kernel
theorem dX12_helpers_110 : decode cX12_helpers 110 = .ok (.iload_n 3, 1) := by decide +kernel
theorem dX12_helpers_111 : decode cX12_helpers 111 = .ok (.aload_n 0, 1) := by decide +kernel
theorem dX12_helpers_112 : decode cX12_helpers 112 = .ok (.iload_n 3, 1) := by decide +kernel
theorem dX12_helpers_113 : decode cX12_helpers 113 = .ok (.iconst 3, 1) := by decide +kernel
theorem dX12_helpers_114 : decode cX12_helpers 114 = .ok (.invokevirtual 249, 3) := by decide +kernel
theorem dX12_helpers_117 : decode cX12_helpers 117 = .ok (.invokevirtual 288, 3) := by decide +kernel
theorem dX12_helpers_120 : decode cX12_helpers 120 = .ok (.if_icmp .ge 9, 3) := by decide +kernel
theorem dX12_helpers_123 : decode cX12_helpers 123 = .ok (.iconst 1, 1) := by decide +kernel
theorem dX12_helpers_124 : decode cX12_helpers 124 = .ok (.iload_n 3, 1) := by decide +kernel
theorem dX12_helpers_125 : decode cX12_helpers 125 = .ok (.ishl, 1) := by decide +kernel
theorem dX12_helpers_126 : decode cX12_helpers 126 = .ok (.goto 4, 3) := by decide +kernel
theorem dX12_helpers_129 : decode cX12_helpers 129 = .ok (.iconst 0, 1) := by decide +kernel
theorem dX12_helpers_130 : decode cX12_helpers 130 = .ok (.ior, 1) := by decide +kernel
theorem dX12_helpers_131 : decode cX12_helpers 131 = .ok (.istore_n 2, 1) := by decide +kernel
theorem dX12_helpers_132 : decode cX12_helpers 132 = .ok (.iinc 3 1, 3) := by decide +kernel
theorem dX12_helpers_135 : decode cX12_helpers 135 = .ok (.goto (-78), 3) := by decide +kernel
theorem dX12_helpers_138 : decode cX12_helpers 138 = .ok (.aload_n 0, 1) := by decide +kernel
theorem dX12_helpers_139 : decode cX12_helpers 139 = .ok (.iload_n 2, 1) := by decide +kernel
theorem dX12_helpers_140 : decode cX12_helpers 140 = .ok (.invokevirtual 87, 3) := by decide +kernel
theorem dX12_helpers_143 : decode cX12_helpers 143 = .ok (.ireturn, 1) := by decide +kernel
theorem dX12_firstToTurn_0 : decode cX12_firstToTurn 0 = .ok (.aload_n 0, 1) := by decide +kernel
theorem dX12_firstToTurn_1 : decode cX12_firstToTurn 1 = .ok (.invokevirtual 325, 3) := by decide +kernel
theorem dX12_firstToTurn_4 : decode cX12_firstToTurn 4 = .ok (.aload_n 0, 1) := by decide +kernel
theorem dX12_firstToTurn_5 : decode cX12_firstToTurn 5 = .ok (.aload_n 0, 1) := by decide +kernel
theorem dX12_firstToTurn_6 : decode cX12_firstToTurn 6 = .ok (.invokevirtual 306, 3) := by decide +kernel
theorem dX12_firstToTurn_9 : decode cX12_firstToTurn 9 = .ok (.putfield 309, 3) := by decide +kernel
theorem dX12_firstToTurn_12 : decode cX12_firstToTurn 12 = .ok (.aload_n 0, 1) := by decide +kernel
theorem dX12_firstToTurn_13 : decode cX12_firstToTurn 13 = .ok (.aload_n 0, 1) := by decide +kernel
theorem dX12_firstToTurn_14 : decode cX12_firstToTurn 14 = .ok (.getfield 291, 3) := by decide +kernel
theorem dX12_firstToTurn_17 : decode cX12_firstToTurn 17 = .ok (.invokevirtual 370, 3) := by decide +kernel
theorem dX12_firstToTurn_20 : decode cX12_firstToTurn 20 = .ok (.ireturn, 1) := by decide +kernel
theorem dX12_heaviest_0 : decode cX12_heaviest 0 = .ok (.aload_n 0, 1) := by decide +kernel
theorem dX12_heaviest_1 : decode cX12_heaviest 1 = .ok (.invokevirtual 261, 3) := by decide +kernel
theorem dX12_heaviest_4 : decode cX12_heaviest 4 = .ok (.iconst (-1), 1) := by decide +kernel
theorem dX12_heaviest_5 : decode cX12_heaviest 5 = .ok (.istore_n 1, 1) := by decide +kernel
theorem dX12_heaviest_6 : decode cX12_heaviest 6 = .ok (.iconst 0, 1) := by decide +kernel
theorem dX12_heaviest_7 : decode cX12_heaviest 7 = .ok (.istore_n 2, 1) := by decide +kernel
theorem dX12_heaviest_8 : decode cX12_heaviest 8 = .ok (.iconst 0, 1) := by decide +kernel
theorem dX12_heaviest_9 : decode cX12_heaviest 9 = .ok (.istore_n 3, 1) := by decide +kernel
theorem dX12_heaviest_10 : decode cX12_heaviest 10 = .ok (.iload_n 3, 1) := by decide +kernel
theorem dX12_heaviest_11 : decode cX12_heaviest 11 = .ok (.aload_n 0, 1) := by decide +kernel
theorem dX12_heaviest_12 : decode cX12_heaviest 12 = .ok (.getfield 7, 3) := by decide +kernel
theorem dX12_heaviest_15 : decode cX12_heaviest 15 = .ok (.iconst 1, 1) := by decide +kernel
theorem dX12_heaviest_16 : decode cX12_heaviest 16 = .ok (.iaload, 1) := by decide +kernel
theorem dX12_heaviest_17 : decode cX12_heaviest 17 = .ok (.if_icmp .ge 58, 3) := by decide +kernel
theorem dX12_heaviest_20 : decode cX12_heaviest 20 = .ok (.iconst (-1), 1) := by decide +kernel
theorem dX12_heaviest_21 : decode cX12_heaviest 21 = .ok (.istore 4, 2) := by decide +kernel
theorem dX12_heaviest_23 : decode cX12_heaviest 23 = .ok (.iload 4, 2) := by decide +kernel
theorem dX12_heaviest_25 : decode cX12_heaviest 25 = .ok (.iconst 2, 1) := by decide +kernel
theorem dX12_heaviest_26 : decode cX12_heaviest 26 = .ok (.if_icmp .ge 43, 3) := by decide +kernel
theorem dX12_heaviest_29 : decode cX12_heaviest 29 = .ok (.aload_n 0, 1) := by decide +kernel
theorem dX12_heaviest_30 : decode cX12_heaviest 30 = .ok (.iload_n 3, 1) := by decide +kernel
theorem dX12_heaviest_31 : decode cX12_heaviest 31 = .ok (.iload 4, 2) := by decide +kernel
theorem dX12_heaviest_33 : decode cX12_heaviest 33 = .ok (.invokevirtual 297, 3) := by decide +kernel
theorem dX12_heaviest_36 : decode cX12_heaviest 36 = .ok (.ifCond .eq 27, 3) := by decide +kernel
theorem dX12_heaviest_39 : decode cX12_heaviest 39 = .ok (.aload_n 0, 1) := by decide +kernel
theorem dX12_heaviest_40 : decode cX12_heaviest 40 = .ok (.invokevirtual 339, 3) := by decide +kernel
theorem dX12_heaviest_43 : decode cX12_heaviest 43 = .ok (.invokestatic 373, 3) := by decide +kernel
theorem dX12_heaviest_46 : decode cX12_heaviest 46 = .ok (.iload_n 2, 1) := by decide +kernel
theorem dX12_heaviest_47 : decode cX12_heaviest 47 = .ok (.if_icmp .gt 6, 3) := by decide +kernel
theorem dX12_heaviest_50 : decode cX12_heaviest 50 = .ok (.goto 13, 3) := by decide +kernel
theorem dX12_heaviest_53 : decode cX12_heaviest 53 = .ok (.aload_n 0, 1) := by decide +kernel
theorem dX12_heaviest_54 : decode cX12_heaviest 54 = .ok (.invokevirtual 339, 3) := by decide +kernel
theorem dX12_heaviest_57 : decode cX12_heaviest 57 = .ok (.invokestatic 373, 3) := by decide +kernel
theorem dX12_heaviest_60 : decode cX12_heaviest 60 = .ok (.istore_n 2, 1) := by decide +kernel
theorem dX12_heaviest_61 : decode cX12_heaviest 61 = .ok (.iload_n 3, 1) := by decide +kernel
theorem dX12_heaviest_62 : decode cX12_heaviest 62 = .ok (.istore_n 1, 1) := by decide +kernel
theorem dX12_heaviest_63 : decode cX12_heaviest 63 = .ok (.iinc 4 2, 3) := by decide +kernel
theorem dX12_heaviest_66 : decode cX12_heaviest 66 = .ok (.goto (-43), 3) := by decide +kernel
theorem dX12_heaviest_69 : decode cX12_heaviest 69 = .ok (.iinc 3 1, 3) := by decide +kernel
theorem dX12_heaviest_72 : decode cX12_heaviest 72 = .ok (.goto (-62), 3) := by decide +kernel
theorem dX12_heaviest_75 : decode cX12_heaviest 75 = .ok (.aload_n 0, 1) := by decide +kernel
theorem dX12_heaviest_76 : decode cX12_heaviest 76 = .ok (.iload_n 1, 1) := by decide +kernel
theorem dX12_heaviest_77 : decode cX12_heaviest 77 = .ok (.invokevirtual 370, 3) := by decide +kernel
theorem dX12_heaviest_80 : decode cX12_heaviest 80 = .ok (.ireturn, 1) := by decide +kernel
theorem dX12_farthest_0 : decode cX12_farthest 0 = .ok (.aload_n 0, 1) := by decide +kernel
theorem dX12_farthest_1 : decode cX12_farthest 1 = .ok (.invokevirtual 261, 3) := by decide +kernel
theorem dX12_farthest_4 : decode cX12_farthest 4 = .ok (.iconst (-1), 1) := by decide +kernel
theorem dX12_farthest_5 : decode cX12_farthest 5 = .ok (.istore_n 1, 1) := by decide +kernel
theorem dX12_farthest_6 : decode cX12_farthest 6 = .ok (.iconst 0, 1) := by decide +kernel
theorem dX12_farthest_7 : decode cX12_farthest 7 = .ok (.istore_n 2, 1) := by decide +kernel
theorem dX12_farthest_8 : decode cX12_farthest 8 = .ok (.iconst 0, 1) := by decide +kernel
theorem dX12_farthest_9 : decode cX12_farthest 9 = .ok (.istore_n 3, 1) := by decide +kernel
theorem dX12_farthest_10 : decode cX12_farthest 10 = .ok (.iload_n 3, 1) := by decide +kernel
theorem dX12_farthest_11 : decode cX12_farthest 11 = .ok (.aload_n 0, 1) := by decide +kernel
theorem dX12_farthest_12 : decode cX12_farthest 12 = .ok (.getfield 7, 3) := by decide +kernel
theorem dX12_farthest_15 : decode cX12_farthest 15 = .ok (.iconst 1, 1) := by decide +kernel
theorem dX12_farthest_16 : decode cX12_farthest 16 = .ok (.iaload, 1) := by decide +kernel
theorem dX12_farthest_17 : decode cX12_farthest 17 = .ok (.if_icmp .ge 48, 3) := by decide +kernel
theorem dX12_farthest_20 : decode cX12_farthest 20 = .ok (.aload_n 0, 1) := by decide +kernel
theorem dX12_farthest_21 : decode cX12_farthest 21 = .ok (.iload_n 3, 1) := by decide +kernel
theorem dX12_farthest_22 : decode cX12_farthest 22 = .ok (.invokevirtual 258, 3) := by decide +kernel
theorem dX12_farthest_25 : decode cX12_farthest 25 = .ok (.ifCond .eq 7, 3) := by decide +kernel
theorem dX12_farthest_28 : decode cX12_farthest 28 = .ok (.iconst 0, 1) := by decide +kernel
theorem dX12_farthest_29 : decode cX12_farthest 29 = .ok (.goto 14, 3) := by decide +kernel
theorem dX12_farthest_32 : decode cX12_farthest 32 = .ok (.aload_n 0, 1) := by decide +kernel
theorem dX12_farthest_33 : decode cX12_farthest 33 = .ok (.iload_n 3, 1) := by decide +kernel
theorem dX12_farthest_34 : decode cX12_farthest 34 = .ok (.aload_n 0, 1) := by decide +kernel
theorem dX12_farthest_35 : decode cX12_farthest 35 = .ok (.iload_n 3, 1) := by decide +kernel
theorem dX12_farthest_36 : decode cX12_farthest 36 = .ok (.iconst 3, 1) := by decide +kernel
theorem dX12_farthest_37 : decode cX12_farthest 37 = .ok (.invokevirtual 249, 3) := by decide +kernel
theorem dX12_farthest_40 : decode cX12_farthest 40 = .ok (.invokevirtual 288, 3) := by decide +kernel
theorem dX12_farthest_43 : decode cX12_farthest 43 = .ok (.istore 4, 2) := by decide +kernel
theorem dX12_farthest_45 : decode cX12_farthest 45 = .ok (.iload 4, 2) := by decide +kernel
theorem dX12_farthest_47 : decode cX12_farthest 47 = .ok (.iload_n 2, 1) := by decide +kernel
theorem dX12_farthest_48 : decode cX12_farthest 48 = .ok (.if_icmp .gt 6, 3) := by decide +kernel
theorem dX12_farthest_51 : decode cX12_farthest 51 = .ok (.goto 8, 3) := by decide +kernel
theorem dX12_farthest_54 : decode cX12_farthest 54 = .ok (.iload 4, 2) := by decide +kernel
theorem dX12_farthest_56 : decode cX12_farthest 56 = .ok (.istore_n 2, 1) := by decide +kernel
theorem dX12_farthest_57 : decode cX12_farthest 57 = .ok (.iload_n 3, 1) := by decide +kernel
theorem dX12_farthest_58 : decode cX12_farthest 58 = .ok (.istore_n 1, 1) := by decide +kernel
theorem dX12_farthest_59 : decode cX12_farthest 59 = .ok (.iinc 3 1, 3) := by decide +kernel
theorem dX12_farthest_62 : decode cX12_farthest 62 = .ok (.goto (-52), 3) := by decide +kernel
theorem dX12_farthest_65 : decode cX12_farthest 65 = .ok (.aload_n 0, 1) := by decide +kernel
theorem dX12_farthest_66 : decode cX12_farthest 66 = .ok (.iload_n 1, 1) := by decide +kernel
theorem dX12_farthest_67 : decode cX12_farthest 67 = .ok (.invokevirtual 370, 3) := by decide +kernel
theorem dX12_farthest_70 : decode cX12_farthest 70 = .ok (.ireturn, 1) := by decide +kernel
theorem dX12_calmed_0 : decode cX12_calmed 0 = .ok (.aload_n 0, 1) := by decide +kernel
theorem dX12_calmed_1 : decode cX12_calmed 1 = .ok (.invokevirtual 325, 3) := by decide +kernel
theorem dX12_calmed_4 : decode cX12_calmed 4 = .ok (.iconst 0, 1) := by decide +kernel
theorem dX12_calmed_5 : decode cX12_calmed 5 = .ok (.istore_n 1, 1) := by decide +kernel
theorem dX12_calmed_6 : decode cX12_calmed 6 = .ok (.iload_n 1, 1) := by decide +kernel
theorem dX12_calmed_7 : decode cX12_calmed 7 = .ok (.sipush 400, 3) := by decide +kernel
theorem dX12_calmed_10 : decode cX12_calmed 10 = .ok (.if_icmp .ge 22, 3) := by decide +kernel
theorem dX12_calmed_13 : decode cX12_calmed 13 = .ok (.aload_n 0, 1) := by decide +kernel
theorem dX12_calmed_14 : decode cX12_calmed 14 = .ok (.invokevirtual 306, 3) := by decide +kernel
theorem dX12_calmed_17 : decode cX12_calmed 17 = .ok (.ifCond .ne 9, 3) := by decide +kernel
theorem dX12_calmed_20 : decode cX12_calmed 20 = .ok (.aload_n 0, 1) := by decide +kernel
theorem dX12_calmed_21 : decode cX12_calmed 21 = .ok (.iload_n 1, 1) := by decide +kernel
theorem dX12_calmed_22 : decode cX12_calmed 22 = .ok (.invokevirtual 87, 3) := by decide +kernel
theorem dX12_calmed_25 : decode cX12_calmed 25 = .ok (.ireturn, 1) := by decide +kernel
theorem dX12_calmed_26 : decode cX12_calmed 26 = .ok (.iinc 1 1, 3) := by decide +kernel
theorem dX12_calmed_29 : decode cX12_calmed 29 = .ok (.goto (-23), 3) := by decide +kernel
theorem dX12_calmed_32 : decode cX12_calmed 32 = .ok (.aload_n 0, 1) := by decide +kernel
theorem dX12_calmed_33 : decode cX12_calmed 33 = .ok (.bipush 6, 2) := by decide +kernel
theorem dX12_calmed_35 : decode cX12_calmed 35 = .ok (.invokevirtual 83, 3) := by decide +kernel
theorem dX12_calmed_38 : decode cX12_calmed 38 = .ok (.ireturn, 1) := by decide +kernel
theorem dX12_teeth_0 : decode cX12_teeth 0 = .ok (.iload_n 1, 1) := by decide +kernel
theorem dX12_teeth_1 : decode cX12_teeth 1 = .ok (.invokestatic 364, 3) := by decide +kernel
theorem dX12_teeth_4 : decode cX12_teeth 4 = .ok (.ifCond .ne 9, 3) := by decide +kernel
theorem dX12_teeth_7 : decode cX12_teeth 7 = .ok (.aload_n 0, 1) := by decide +kernel
theorem dX12_teeth_8 : decode cX12_teeth 8 = .ok (.iconst 1, 1) := by decide +kernel
theorem dX12_teeth_9 : decode cX12_teeth 9 = .ok (.invokevirtual 83, 3) := by decide +kernel
theorem dX12_teeth_12 : decode cX12_teeth 12 = .ok (.ireturn, 1) := by decide +kernel
theorem dX12_teeth_13 : decode cX12_teeth 13 = .ok (.aload_n 0, 1) := by decide +kernel
theorem dX12_teeth_14 : decode cX12_teeth 14 = .ok (.invokevirtual 325, 3) := by decide +kernel
theorem dX12_teeth_17 : decode cX12_teeth 17 = .ok (.aload_n 0, 1) := by decide +kernel
theorem dX12_teeth_18 : decode cX12_teeth 18 = .ok (.iload_n 1, 1) := by decide +kernel
theorem dX12_teeth_19 : decode cX12_teeth 19 = .ok (.invokevirtual 328, 3) := by decide +kernel
theorem dX12_teeth_22 : decode cX12_teeth 22 = .ok (.aload_n 0, 1) := by decide +kernel
theorem dX12_teeth_23 : decode cX12_teeth 23 = .ok (.aload_n 0, 1) := by decide +kernel
theorem dX12_teeth_24 : decode cX12_teeth 24 = .ok (.getfield 282, 3) := by decide +kernel
theorem dX12_teeth_27 : decode cX12_teeth 27 = .ok (.invokevirtual 87, 3) := by decide +kernel
theorem dX12_teeth_30 : decode cX12_teeth 30 = .ok (.ireturn, 1) := by decide +kernel
theorem dX12_blowsAll_0 : decode cX12_blowsAll 0 = .ok (.iconst 0, 1) := by decide +kernel
theorem dX12_blowsAll_1 : decode cX12_blowsAll 1 = .ok (.istore_n 3, 1) := by decide +kernel
theorem dX12_blowsAll_2 : decode cX12_blowsAll 2 = .ok (.iload_n 3, 1) := by decide +kernel
theorem dX12_blowsAll_3 : decode cX12_blowsAll 3 = .ok (.iconst 4, 1) := by decide +kernel
theorem dX12_blowsAll_4 : decode cX12_blowsAll 4 = .ok (.if_icmp .ge 16, 3) := by decide +kernel
theorem dX12_blowsAll_7 : decode cX12_blowsAll 7 = .ok (.aload_n 0, 1) := by decide +kernel
theorem dX12_blowsAll_8 : decode cX12_blowsAll 8 = .ok (.iload_n 3, 1) := by decide +kernel
theorem dX12_blowsAll_9 : decode cX12_blowsAll 9 = .ok (.iload_n 1, 1) := by decide +kernel
theorem dX12_blowsAll_10 : decode cX12_blowsAll 10 = .ok (.iload_n 2, 1) := by decide +kernel
theorem dX12_blowsAll_11 : decode cX12_blowsAll 11 = .ok (.invokevirtual 376, 3) := by decide +kernel
theorem dX12_blowsAll_14 : decode cX12_blowsAll 14 = .ok (.iinc 3 1, 3) := by decide +kernel
theorem dX12_blowsAll_17 : decode cX12_blowsAll 17 = .ok (.goto (-15), 3) := by decide +kernel
theorem dX12_blowsAll_20 : decode cX12_blowsAll 20 = .ok (.return_, 1) := by decide +kernel
theorem dX12_bestWind_0 : decode cX12_bestWind 0 = .ok (.iload_n 1, 1) := by decide +kernel
theorem dX12_bestWind_1 : decode cX12_bestWind 1 = .ok (.i2l, 1) := by decide +kernel
theorem dX12_bestWind_2 : decode cX12_bestWind 2 = .ok (.lconst 1, 1) := by decide +kernel
theorem dX12_bestWind_3 : decode cX12_bestWind 3 = .ok (.ldc2_w 319, 3) := by decide +kernel
theorem dX12_bestWind_6 : decode cX12_bestWind 6 = .ok (.invokestatic 321, 3) := by decide +kernel
theorem dX12_bestWind_9 : decode cX12_bestWind 9 = .ok (.ifCond .eq 10, 3) := by decide +kernel
theorem dX12_bestWind_12 : decode cX12_bestWind 12 = .ok (.iload_n 2, 1) := by decide +kernel
theorem dX12_bestWind_13 : decode cX12_bestWind 13 = .ok (.invokestatic 355, 3) := by decide +kernel
theorem dX12_bestWind_16 : decode cX12_bestWind 16 = .ok (.ifCond .ne 9, 3) := by decide +kernel
theorem dX12_bestWind_19 : decode cX12_bestWind 19 = .ok (.aload_n 0, 1) := by decide +kernel
theorem dX12_bestWind_20 : decode cX12_bestWind 20 = .ok (.iconst 1, 1) := by decide +kernel
theorem dX12_bestWind_21 : decode cX12_bestWind 21 = .ok (.invokevirtual 83, 3) := by decide +kernel
theorem dX12_bestWind_24 : decode cX12_bestWind 24 = .ok (.ireturn, 1) := by decide +kernel
theorem dX12_bestWind_25 : decode cX12_bestWind 25 = .ok (.iconst (-1), 1) := by decide +kernel
theorem dX12_bestWind_26 : decode cX12_bestWind 26 = .ok (.istore_n 3, 1) := by decide +kernel
theorem dX12_bestWind_27 : decode cX12_bestWind 27 = .ok (.iconst (-1), 1) := by decide +kernel
theorem dX12_bestWind_28 : decode cX12_bestWind 28 = .ok (.istore 4, 2) := by decide +kernel
theorem dX12_bestWind_30 : decode cX12_bestWind 30 = .ok (.iconst 0, 1) := by decide +kernel
theorem dX12_bestWind_31 : decode cX12_bestWind 31 = .ok (.istore 5, 2) := by decide +kernel
theorem dX12_bestWind_33 : decode cX12_bestWind 33 = .ok (.iload 5, 2) := by decide +kernel
theorem dX12_bestWind_35 : decode cX12_bestWind 35 = .ok (.bipush 16, 2) := by decide +kernel
theorem dX12_bestWind_37 : decode cX12_bestWind 37 = .ok (.if_icmp .ge 52, 3) := by decide +kernel
theorem dX12_bestWind_40 : decode cX12_bestWind 40 = .ok (.aload_n 0, 1) := by decide +kernel
theorem dX12_bestWind_41 : decode cX12_bestWind 41 = .ok (.invokevirtual 325, 3) := by decide +kernel
theorem dX12_bestWind_44 : decode cX12_bestWind 44 = .ok (.aload_n 0, 1) := by decide +kernel
theorem dX12_bestWind_45 : decode cX12_bestWind 45 = .ok (.iload 5, 2) := by decide +kernel
theorem dX12_bestWind_47 : decode cX12_bestWind 47 = .ok (.iload_n 1, 1) := by decide +kernel
theorem dX12_bestWind_48 : decode cX12_bestWind 48 = .ok (.invokevirtual 380, 3) := by decide +kernel
theorem dX12_bestWind_51 : decode cX12_bestWind 51 = .ok (.aload_n 0, 1) := by decide +kernel
theorem dX12_bestWind_52 : decode cX12_bestWind 52 = .ok (.iload_n 2, 1) := by decide +kernel
theorem dX12_bestWind_53 : decode cX12_bestWind 53 = .ok (.invokevirtual 328, 3) := by decide +kernel
theorem dX12_bestWind_56 : decode cX12_bestWind 56 = .ok (.aload_n 0, 1) := by decide +kernel
theorem dX12_bestWind_57 : decode cX12_bestWind 57 = .ok (.invokevirtual 358, 3) := by decide +kernel
theorem dX12_bestWind_60 : decode cX12_bestWind 60 = .ok (.invokestatic 373, 3) := by decide +kernel
theorem dX12_bestWind_63 : decode cX12_bestWind 63 = .ok (.iload 4, 2) := by decide +kernel
theorem dX12_bestWind_65 : decode cX12_bestWind 65 = .ok (.if_icmp .gt 6, 3) := by decide +kernel
theorem dX12_bestWind_68 : decode cX12_bestWind 68 = .ok (.goto 15, 3) := by decide +kernel
theorem dX12_bestWind_71 : decode cX12_bestWind 71 = .ok (.aload_n 0, 1) := by decide +kernel
theorem dX12_bestWind_72 : decode cX12_bestWind 72 = .ok (.invokevirtual 358, 3) := by decide +kernel
theorem dX12_bestWind_75 : decode cX12_bestWind 75 = .ok (.invokestatic 373, 3) := by decide +kernel
theorem dX12_bestWind_78 : decode cX12_bestWind 78 = .ok (.istore 4, 2) := by decide +kernel
theorem dX12_bestWind_80 : decode cX12_bestWind 80 = .ok (.iload 5, 2) := by decide +kernel
theorem dX12_bestWind_82 : decode cX12_bestWind 82 = .ok (.istore_n 3, 1) := by decide +kernel
theorem dX12_bestWind_83 : decode cX12_bestWind 83 = .ok (.iinc 5 1, 3) := by decide +kernel
theorem dX12_bestWind_86 : decode cX12_bestWind 86 = .ok (.goto (-53), 3) := by decide +kernel
theorem dX12_bestWind_89 : decode cX12_bestWind 89 = .ok (.aload_n 0, 1) := by decide +kernel
theorem dX12_bestWind_90 : decode cX12_bestWind 90 = .ok (.iload_n 3, 1) := by decide +kernel
theorem dX12_bestWind_91 : decode cX12_bestWind 91 = .ok (.invokevirtual 87, 3) := by decide +kernel
theorem dX12_bestWind_94 : decode cX12_bestWind 94 = .ok (.ireturn, 1) := by decide +kernel
theorem dX12_parting_0 : decode cX12_parting 0 = .ok (.iconst 0, 1) := by decide +kernel
theorem dX12_parting_1 : decode cX12_parting 1 = .ok (.istore_n 1, 1) := by decide +kernel
theorem dX12_parting_2 : decode cX12_parting 2 = .ok (.aload_n 0, 1) := by decide +kernel
theorem dX12_parting_3 : decode cX12_parting 3 = .ok (.getfield 7, 3) := by decide +kernel
theorem dX12_parting_6 : decode cX12_parting 6 = .ok (.iconst 4, 1) := by decide +kernel
theorem dX12_parting_7 : decode cX12_parting 7 = .ok (.iaload, 1) := by decide +kernel
theorem dX12_parting_8 : decode cX12_parting 8 = .ok (.istore_n 2, 1) := by decide +kernel
theorem dX12_parting_9 : decode cX12_parting 9 = .ok (.iconst 0, 1) := by decide +kernel
theorem dX12_parting_10 : decode cX12_parting 10 = .ok (.istore_n 3, 1) := by decide +kernel
theorem dX12_parting_11 : decode cX12_parting 11 = .ok (.iload_n 3, 1) := by decide +kernel
theorem dX12_parting_12 : decode cX12_parting 12 = .ok (.aload_n 0, 1) := by decide +kernel
theorem dX12_parting_13 : decode cX12_parting 13 = .ok (.getfield 7, 3) := by decide +kernel
theorem dX12_parting_16 : decode cX12_parting 16 = .ok (.iconst 2, 1) := by decide +kernel
theorem dX12_parting_17 : decode cX12_parting 17 = .ok (.iaload, 1) := by decide +kernel
theorem dX12_parting_18 : decode cX12_parting 18 = .ok (.if_icmp .ge 85, 3) := by decide +kernel
theorem dX12_parting_21 : decode cX12_parting 21 = .ok (.iload_n 2, 1) := by decide +kernel
theorem dX12_parting_22 : decode cX12_parting 22 = .ok (.iload_n 3, 1) := by decide +kernel
theorem dX12_parting_23 : decode cX12_parting 23 = .ok (.ishr, 1) := by decide +kernel
theorem dX12_parting_24 : decode cX12_parting 24 = .ok (.iconst 1, 1) := by decide +kernel
theorem dX12_parting_25 : decode cX12_parting 25 = .ok (.iand, 1) := by decide +kernel
theorem dX12_parting_26 : decode cX12_parting 26 = .ok (.iconst 1, 1) := by decide +kernel
theorem dX12_parting_27 : decode cX12_parting 27 = .ok (.if_icmp .ne 6, 3) := by decide +kernel
theorem dX12_parting_30 : decode cX12_parting 30 = .ok (.goto 67, 3) := by decide +kernel
theorem dX12_parting_33 : decode cX12_parting 33 = .ok (.aload_n 0, 1) := by decide +kernel
theorem dX12_parting_34 : decode cX12_parting 34 = .ok (.getfield 7, 3) := by decide +kernel
theorem dX12_parting_37 : decode cX12_parting 37 = .ok (.iconst 4, 1) := by decide +kernel
theorem dX12_parting_38 : decode cX12_parting 38 = .ok (.iload_n 2, 1) := by decide +kernel
theorem dX12_parting_39 : decode cX12_parting 39 = .ok (.iconst 1, 1) := by decide +kernel
theorem dX12_parting_40 : decode cX12_parting 40 = .ok (.iload_n 3, 1) := by decide +kernel
theorem dX12_parting_41 : decode cX12_parting 41 = .ok (.ishl, 1) := by decide +kernel
theorem dX12_parting_42 : decode cX12_parting 42 = .ok (.ior, 1) := by decide +kernel
theorem dX12_parting_43 : decode cX12_parting 43 = .ok (.iastore, 1) := by decide +kernel
theorem dX12_parting_44 : decode cX12_parting 44 = .ok (.iload_n 1, 1) := by decide +kernel
theorem dX12_parting_45 : decode cX12_parting 45 = .ok (.aload_n 0, 1) := by decide +kernel
theorem dX12_parting_46 : decode cX12_parting 46 = .ok (.aload_n 0, 1) := by decide +kernel
theorem dX12_parting_47 : decode cX12_parting 47 = .ok (.getfield 7, 3) := by decide +kernel
theorem dX12_parting_50 : decode cX12_parting 50 = .ok (.bipush 70, 2) := by decide +kernel
theorem dX12_parting_52 : decode cX12_parting 52 = .ok (.iconst 5, 1) := by decide +kernel
theorem dX12_parting_53 : decode cX12_parting 53 = .ok (.iload_n 3, 1) := by decide +kernel
theorem dX12_parting_54 : decode cX12_parting 54 = .ok (.imul, 1) := by decide +kernel
theorem dX12_parting_55 : decode cX12_parting 55 = .ok (.iadd, 1) := by decide +kernel
theorem dX12_parting_56 : decode cX12_parting 56 = .ok (.iconst 0, 1) := by decide +kernel
theorem dX12_parting_57 : decode cX12_parting 57 = .ok (.iadd, 1) := by decide +kernel
theorem dX12_parting_58 : decode cX12_parting 58 = .ok (.iaload, 1) := by decide +kernel
theorem dX12_parting_59 : decode cX12_parting 59 = .ok (.invokevirtual 348, 3) := by decide +kernel
theorem dX12_parting_62 : decode cX12_parting 62 = .ok (.aload_n 0, 1) := by decide +kernel
theorem dX12_parting_63 : decode cX12_parting 63 = .ok (.getfield 7, 3) := by decide +kernel
theorem dX12_parting_66 : decode cX12_parting 66 = .ok (.bipush 70, 2) := by decide +kernel
theorem dX12_parting_68 : decode cX12_parting 68 = .ok (.iconst 5, 1) := by decide +kernel
theorem dX12_parting_69 : decode cX12_parting 69 = .ok (.iload_n 3, 1) := by decide +kernel
theorem dX12_parting_70 : decode cX12_parting 70 = .ok (.imul, 1) := by decide +kernel
theorem dX12_parting_71 : decode cX12_parting 71 = .ok (.iadd, 1) := by decide +kernel
theorem dX12_parting_72 : decode cX12_parting 72 = .ok (.iconst 1, 1) := by decide +kernel
theorem dX12_parting_73 : decode cX12_parting 73 = .ok (.iadd, 1) := by decide +kernel
theorem dX12_parting_74 : decode cX12_parting 74 = .ok (.iaload, 1) := by decide +kernel
theorem dX12_parting_75 : decode cX12_parting 75 = .ok (.ishr, 1) := by decide +kernel
theorem dX12_parting_76 : decode cX12_parting 76 = .ok (.iconst 1, 1) := by decide +kernel
theorem dX12_parting_77 : decode cX12_parting 77 = .ok (.iand, 1) := by decide +kernel
theorem dX12_parting_78 : decode cX12_parting 78 = .ok (.ifCond .ne 9, 3) := by decide +kernel
theorem dX12_parting_81 : decode cX12_parting 81 = .ok (.iconst 1, 1) := by decide +kernel
theorem dX12_parting_82 : decode cX12_parting 82 = .ok (.iload_n 3, 1) := by decide +kernel
theorem dX12_parting_83 : decode cX12_parting 83 = .ok (.ishl, 1) := by decide +kernel
theorem dX12_parting_84 : decode cX12_parting 84 = .ok (.goto 4, 3) := by decide +kernel
theorem dX12_parting_87 : decode cX12_parting 87 = .ok (.iconst 0, 1) := by decide +kernel
theorem dX12_parting_88 : decode cX12_parting 88 = .ok (.ior, 1) := by decide +kernel
theorem dX12_parting_89 : decode cX12_parting 89 = .ok (.istore_n 1, 1) := by decide +kernel
theorem dX12_parting_90 : decode cX12_parting 90 = .ok (.aload_n 0, 1) := by decide +kernel
theorem dX12_parting_91 : decode cX12_parting 91 = .ok (.getfield 7, 3) := by decide +kernel
theorem dX12_parting_94 : decode cX12_parting 94 = .ok (.iconst 4, 1) := by decide +kernel
theorem dX12_parting_95 : decode cX12_parting 95 = .ok (.iload_n 2, 1) := by decide +kernel
theorem dX12_parting_96 : decode cX12_parting 96 = .ok (.iastore, 1) := by decide +kernel
theorem dX12_parting_97 : decode cX12_parting 97 = .ok (.iinc 3 1, 3) := by decide +kernel
theorem dX12_parting_100 : decode cX12_parting 100 = .ok (.goto (-89), 3) := by decide +kernel
theorem dX12_parting_103 : decode cX12_parting 103 = .ok (.aload_n 0, 1) := by decide +kernel
theorem dX12_parting_104 : decode cX12_parting 104 = .ok (.iload_n 1, 1) := by decide +kernel
theorem dX12_parting_105 : decode cX12_parting 105 = .ok (.invokevirtual 87, 3) := by decide +kernel
theorem dX12_parting_108 : decode cX12_parting 108 = .ok (.ireturn, 1) := by decide +kernel
theorem dX12_rightsBy_0 : decode cX12_rightsBy 0 = .ok (.aload_n 0, 1) := by decide +kernel
theorem dX12_rightsBy_1 : decode cX12_rightsBy 1 = .ok (.invokevirtual 325, 3) := by decide +kernel
theorem dX12_rightsBy_4 : decode cX12_rightsBy 4 = .ok (.aload_n 0, 1) := by decide +kernel
theorem dX12_rightsBy_5 : decode cX12_rightsBy 5 = .ok (.getfield 7, 3) := by decide +kernel
theorem dX12_rightsBy_8 : decode cX12_rightsBy 8 = .ok (.sipush 2454, 3) := by decide +kernel
theorem dX12_rightsBy_11 : decode cX12_rightsBy 11 = .ok (.dup2, 1) := by decide +kernel
theorem dX12_rightsBy_12 : decode cX12_rightsBy 12 = .ok (.iaload, 1) := by decide +kernel
theorem dX12_rightsBy_13 : decode cX12_rightsBy 13 = .ok (.iload_n 2, 1) := by decide +kernel
theorem dX12_rightsBy_14 : decode cX12_rightsBy 14 = .ok (.ior, 1) := by decide +kernel
theorem dX12_rightsBy_15 : decode cX12_rightsBy 15 = .ok (.iastore, 1) := by decide +kernel
theorem dX12_rightsBy_16 : decode cX12_rightsBy 16 = .ok (.aload_n 0, 1) := by decide +kernel
theorem dX12_rightsBy_17 : decode cX12_rightsBy 17 = .ok (.iload_n 1, 1) := by decide +kernel
theorem dX12_rightsBy_18 : decode cX12_rightsBy 18 = .ok (.invokevirtual 328, 3) := by decide +kernel
theorem dX12_rightsBy_21 : decode cX12_rightsBy 21 = .ok (.aload_n 0, 1) := by decide +kernel
theorem dX12_rightsBy_22 : decode cX12_rightsBy 22 = .ok (.invokevirtual 358, 3) := by decide +kernel
theorem dX12_rightsBy_25 : decode cX12_rightsBy 25 = .ok (.invokestatic 373, 3) := by decide +kernel
theorem dX12_rightsBy_28 : decode cX12_rightsBy 28 = .ok (.ireturn, 1) := by decide +kernel
theorem dX12_mending_0 : decode cX12_mending 0 = .ok (.iload_n 1, 1) := by decide +kernel
theorem dX12_mending_1 : decode cX12_mending 1 = .ok (.invokestatic 355, 3) := by decide +kernel
theorem dX12_mending_4 : decode cX12_mending 4 = .ok (.ifCond .ne 9, 3) := by decide +kernel
theorem dX12_mending_7 : decode cX12_mending 7 = .ok (.aload_n 0, 1) := by decide +kernel
theorem dX12_mending_8 : decode cX12_mending 8 = .ok (.iconst 1, 1) := by decide +kernel
theorem dX12_mending_9 : decode cX12_mending 9 = .ok (.invokevirtual 83, 3) := by decide +kernel
theorem dX12_mending_12 : decode cX12_mending 12 = .ok (.ireturn, 1) := by decide +kernel
theorem dX12_mending_13 : decode cX12_mending 13 = .ok (.aload_n 0, 1) := by decide +kernel
theorem dX12_mending_14 : decode cX12_mending 14 = .ok (.iload_n 1, 1) := by decide +kernel
theorem dX12_mending_15 : decode cX12_mending 15 = .ok (.iconst 0, 1) := by decide +kernel
theorem dX12_mending_16 : decode cX12_mending 16 = .ok (.invokevirtual 384, 3) := by decide +kernel
theorem dX12_mending_19 : decode cX12_mending 19 = .ok (.istore_n 2, 1) := by decide +kernel
theorem dX12_mending_20 : decode cX12_mending 20 = .ok (.iconst (-1), 1) := by decide +kernel
theorem dX12_mending_21 : decode cX12_mending 21 = .ok (.istore_n 3, 1) := by decide +kernel
theorem dX12_mending_22 : decode cX12_mending 22 = .ok (.iconst 0, 1) := by decide +kernel
theorem dX12_mending_23 : decode cX12_mending 23 = .ok (.istore 4, 2) := by decide +kernel
theorem dX12_mending_25 : decode cX12_mending 25 = .ok (.iload 4, 2) := by decide +kernel
theorem dX12_mending_27 : decode cX12_mending 27 = .ok (.aload_n 0, 1) := by decide +kernel
theorem dX12_mending_28 : decode cX12_mending 28 = .ok (.getfield 7, 3) := by decide +kernel
theorem dX12_mending_31 : decode cX12_mending 31 = .ok (.iconst 2, 1) := by decide +kernel
theorem dX12_mending_32 : decode cX12_mending 32 = .ok (.iaload, 1) := by decide +kernel
theorem dX12_mending_33 : decode cX12_mending 33 = .ok (.if_icmp .ge 54, 3) := by decide +kernel
theorem dX12_mending_36 : decode cX12_mending 36 = .ok (.aload_n 0, 1) := by decide +kernel
theorem dX12_mending_37 : decode cX12_mending 37 = .ok (.getfield 7, 3) := by decide +kernel
theorem dX12_mending_40 : decode cX12_mending 40 = .ok (.iconst 4, 1) := by decide +kernel
theorem dX12_mending_41 : decode cX12_mending 41 = .ok (.iaload, 1) := by decide +kernel
theorem dX12_mending_42 : decode cX12_mending 42 = .ok (.iload 4, 2) := by decide +kernel
theorem dX12_mending_44 : decode cX12_mending 44 = .ok (.ishr, 1) := by decide +kernel
theorem dX12_mending_45 : decode cX12_mending 45 = .ok (.iconst 1, 1) := by decide +kernel
theorem dX12_mending_46 : decode cX12_mending 46 = .ok (.iand, 1) := by decide +kernel
theorem dX12_mending_47 : decode cX12_mending 47 = .ok (.iconst 1, 1) := by decide +kernel
theorem dX12_mending_48 : decode cX12_mending 48 = .ok (.if_icmp .ne 7, 3) := by decide +kernel
theorem dX12_mending_51 : decode cX12_mending 51 = .ok (.iconst (-1), 1) := by decide +kernel
theorem dX12_mending_52 : decode cX12_mending 52 = .ok (.goto 12, 3) := by decide +kernel
theorem dX12_mending_55 : decode cX12_mending 55 = .ok (.aload_n 0, 1) := by decide +kernel
theorem dX12_mending_56 : decode cX12_mending 56 = .ok (.iload_n 1, 1) := by decide +kernel
theorem dX12_mending_57 : decode cX12_mending 57 = .ok (.iconst 1, 1) := by decide +kernel
theorem dX12_mending_58 : decode cX12_mending 58 = .ok (.iload 4, 2) := by decide +kernel
theorem dX12_mending_60 : decode cX12_mending 60 = .ok (.ishl, 1) := by decide +kernel
theorem dX12_mending_61 : decode cX12_mending 61 = .ok (.invokevirtual 384, 3) := by decide +kernel
theorem dX12_mending_64 : decode cX12_mending 64 = .ok (.istore 5, 2) := by decide +kernel
theorem dX12_mending_66 : decode cX12_mending 66 = .ok (.iload 5, 2) := by decide +kernel
theorem dX12_mending_68 : decode cX12_mending 68 = .ok (.iload_n 2, 1) := by decide +kernel
theorem dX12_mending_69 : decode cX12_mending 69 = .ok (.if_icmp .gt 6, 3) := by decide +kernel
theorem dX12_mending_72 : decode cX12_mending 72 = .ok (.goto 9, 3) := by decide +kernel
theorem dX12_mending_75 : decode cX12_mending 75 = .ok (.iload 5, 2) := by decide +kernel
theorem dX12_mending_77 : decode cX12_mending 77 = .ok (.istore_n 2, 1) := by decide +kernel
theorem dX12_mending_78 : decode cX12_mending 78 = .ok (.iload 4, 2) := by decide +kernel
theorem dX12_mending_80 : decode cX12_mending 80 = .ok (.istore_n 3, 1) := by decide +kernel
theorem dX12_mending_81 : decode cX12_mending 81 = .ok (.iinc 4 1, 3) := by decide +kernel
theorem dX12_mending_84 : decode cX12_mending 84 = .ok (.goto (-59), 3) := by decide +kernel
theorem dX12_mending_87 : decode cX12_mending 87 = .ok (.aload_n 0, 1) := by decide +kernel
theorem dX12_mending_88 : decode cX12_mending 88 = .ok (.iload_n 3, 1) := by decide +kernel
theorem dX12_mending_89 : decode cX12_mending 89 = .ok (.invokevirtual 370, 3) := by decide +kernel
theorem dX12_mending_92 : decode cX12_mending 92 = .ok (.ireturn, 1) := by decide +kernel
theorem dX12_leavingBy_0 : decode cX12_leavingBy 0 = .ok (.iconst 0, 1) := by decide +kernel
theorem dX12_leavingBy_1 : decode cX12_leavingBy 1 = .ok (.istore_n 3, 1) := by decide +kernel
theorem dX12_leavingBy_2 : decode cX12_leavingBy 2 = .ok (.iconst 0, 1) := by decide +kernel
theorem dX12_leavingBy_3 : decode cX12_leavingBy 3 = .ok (.istore 4, 2) := by decide +kernel
theorem dX12_leavingBy_5 : decode cX12_leavingBy 5 = .ok (.iload 4, 2) := by decide +kernel
theorem dX12_leavingBy_7 : decode cX12_leavingBy 7 = .ok (.bipush 16, 2) := by decide +kernel
theorem dX12_leavingBy_9 : decode cX12_leavingBy 9 = .ok (.if_icmp .ge 50, 3) := by decide +kernel
theorem dX12_leavingBy_12 : decode cX12_leavingBy 12 = .ok (.aload_n 0, 1) := by decide +kernel
theorem dX12_leavingBy_13 : decode cX12_leavingBy 13 = .ok (.invokevirtual 325, 3) := by decide +kernel
theorem dX12_leavingBy_16 : decode cX12_leavingBy 16 = .ok (.aload_n 0, 1) := by decide +kernel
theorem dX12_leavingBy_17 : decode cX12_leavingBy 17 = .ok (.getfield 7, 3) := by decide +kernel
theorem dX12_leavingBy_20 : decode cX12_leavingBy 20 = .ok (.sipush 2454, 3) := by decide +kernel
theorem dX12_leavingBy_23 : decode cX12_leavingBy 23 = .ok (.dup2, 1) := by decide +kernel
theorem dX12_leavingBy_24 : decode cX12_leavingBy 24 = .ok (.iaload, 1) := by decide +kernel
theorem dX12_leavingBy_25 : decode cX12_leavingBy 25 = .ok (.iload_n 2, 1) := by decide +kernel
theorem dX12_leavingBy_26 : decode cX12_leavingBy 26 = .ok (.ior, 1) := by decide +kernel
theorem dX12_leavingBy_27 : decode cX12_leavingBy 27 = .ok (.iastore, 1) := by decide +kernel
theorem dX12_leavingBy_28 : decode cX12_leavingBy 28 = .ok (.aload_n 0, 1) := by decide +kernel
theorem dX12_leavingBy_29 : decode cX12_leavingBy 29 = .ok (.iload 4, 2) := by decide +kernel
theorem dX12_leavingBy_31 : decode cX12_leavingBy 31 = .ok (.iload_n 1, 1) := by decide +kernel
theorem dX12_leavingBy_32 : decode cX12_leavingBy 32 = .ok (.invokevirtual 380, 3) := by decide +kernel
theorem dX12_leavingBy_35 : decode cX12_leavingBy 35 = .ok (.iload_n 3, 1) := by decide +kernel
theorem dX12_leavingBy_36 : decode cX12_leavingBy 36 = .ok (.aload_n 0, 1) := by decide +kernel
theorem dX12_leavingBy_37 : decode cX12_leavingBy 37 = .ok (.invokevirtual 306, 3) := by decide +kernel
theorem dX12_leavingBy_40 : decode cX12_leavingBy 40 = .ok (.ifCond .eq 7, 3) := by decide +kernel
theorem dX12_leavingBy_43 : decode cX12_leavingBy 43 = .ok (.iconst 0, 1) := by decide +kernel
theorem dX12_leavingBy_44 : decode cX12_leavingBy 44 = .ok (.goto 7, 3) := by decide +kernel
theorem dX12_leavingBy_47 : decode cX12_leavingBy 47 = .ok (.iconst 1, 1) := by decide +kernel
theorem dX12_leavingBy_48 : decode cX12_leavingBy 48 = .ok (.iload 4, 2) := by decide +kernel
theorem dX12_leavingBy_50 : decode cX12_leavingBy 50 = .ok (.ishl, 1) := by decide +kernel
theorem dX12_leavingBy_51 : decode cX12_leavingBy 51 = .ok (.ior, 1) := by decide +kernel
theorem dX12_leavingBy_52 : decode cX12_leavingBy 52 = .ok (.istore_n 3, 1) := by decide +kernel
theorem dX12_leavingBy_53 : decode cX12_leavingBy 53 = .ok (.iinc 4 1, 3) := by decide +kernel
theorem dX12_leavingBy_56 : decode cX12_leavingBy 56 = .ok (.goto (-51), 3) := by decide +kernel
theorem dX12_leavingBy_59 : decode cX12_leavingBy 59 = .ok (.iload_n 3, 1) := by decide +kernel
theorem dX12_leavingBy_60 : decode cX12_leavingBy 60 = .ok (.ireturn, 1) := by decide +kernel
theorem dX12_bits_0 : decode cX12_bits 0 = .ok (.iconst 0, 1) := by decide +kernel
theorem dX12_bits_1 : decode cX12_bits 1 = .ok (.istore_n 1, 1) := by decide +kernel
theorem dX12_bits_2 : decode cX12_bits 2 = .ok (.iload_n 0, 1) := by decide +kernel
theorem dX12_bits_3 : decode cX12_bits 3 = .ok (.istore_n 2, 1) := by decide +kernel
theorem dX12_bits_4 : decode cX12_bits 4 = .ok (.iload_n 2, 1) := by decide +kernel
theorem dX12_bits_5 : decode cX12_bits 5 = .ok (.ifCond .eq 15, 3) := by decide +kernel
theorem dX12_bits_8 : decode cX12_bits 8 = .ok (.iinc 1 1, 3) := by decide +kernel
theorem dX12_bits_11 : decode cX12_bits 11 = .ok (.iload_n 2, 1) := by decide +kernel
theorem dX12_bits_12 : decode cX12_bits 12 = .ok (.iload_n 2, 1) := by decide +kernel
theorem dX12_bits_13 : decode cX12_bits 13 = .ok (.iconst 1, 1) := by decide +kernel
theorem dX12_bits_14 : decode cX12_bits 14 = .ok (.isub, 1) := by decide +kernel
theorem dX12_bits_15 : decode cX12_bits 15 = .ok (.iand, 1) := by decide +kernel
theorem dX12_bits_16 : decode cX12_bits 16 = .ok (.istore_n 2, 1) := by decide +kernel
theorem dX12_bits_17 : decode cX12_bits 17 = .ok (.goto (-13), 3) := by decide +kernel
theorem dX12_bits_20 : decode cX12_bits 20 = .ok (.iload_n 1, 1) := by decide +kernel
theorem dX12_bits_21 : decode cX12_bits 21 = .ok (.ireturn, 1) := by decide +kernel
theorem dX12_leaving_0 : decode cX12_leaving 0 = .ok (.iload_n 1, 1) := by decide +kernel
theorem dX12_leaving_1 : decode cX12_leaving 1 = .ok (.i2l, 1) := by decide +kernel
theorem dX12_leaving_2 : decode cX12_leaving 2 = .ok (.lconst 1, 1) := by decide +kernel
theorem dX12_leaving_3 : decode cX12_leaving 3 = .ok (.ldc2_w 319, 3) := by decide +kernel
theorem dX12_leaving_6 : decode cX12_leaving 6 = .ok (.invokestatic 321, 3) := by decide +kernel
theorem dX12_leaving_9 : decode cX12_leaving 9 = .ok (.ifCond .eq 16, 3) := by decide +kernel
theorem dX12_leaving_12 : decode cX12_leaving 12 = .ok (.aload_n 0, 1) := by decide +kernel
theorem dX12_leaving_13 : decode cX12_leaving 13 = .ok (.aload_n 0, 1) := by decide +kernel
theorem dX12_leaving_14 : decode cX12_leaving 14 = .ok (.iload_n 1, 1) := by decide +kernel
theorem dX12_leaving_15 : decode cX12_leaving 15 = .ok (.iconst 0, 1) := by decide +kernel
theorem dX12_leaving_16 : decode cX12_leaving 16 = .ok (.invokevirtual 387, 3) := by decide +kernel
theorem dX12_leaving_19 : decode cX12_leaving 19 = .ok (.invokevirtual 87, 3) := by decide +kernel
theorem dX12_leaving_22 : decode cX12_leaving 22 = .ok (.goto 8, 3) := by decide +kernel
theorem dX12_leaving_25 : decode cX12_leaving 25 = .ok (.aload_n 0, 1) := by decide +kernel
theorem dX12_leaving_26 : decode cX12_leaving 26 = .ok (.iconst 1, 1) := by decide +kernel
theorem dX12_leaving_27 : decode cX12_leaving 27 = .ok (.invokevirtual 83, 3) := by decide +kernel
theorem dX12_leaving_30 : decode cX12_leaving 30 = .ok (.ireturn, 1) := by decide +kernel
theorem dX12_knowing_0 : decode cX12_knowing 0 = .ok (.iload_n 1, 1) := by decide +kernel
theorem dX12_knowing_1 : decode cX12_knowing 1 = .ok (.i2l, 1) := by decide +kernel
theorem dX12_knowing_2 : decode cX12_knowing 2 = .ok (.lconst 1, 1) := by decide +kernel
theorem dX12_knowing_3 : decode cX12_knowing 3 = .ok (.ldc2_w 319, 3) := by decide +kernel
theorem dX12_knowing_6 : decode cX12_knowing 6 = .ok (.invokestatic 321, 3) := by decide +kernel
theorem dX12_knowing_9 : decode cX12_knowing 9 = .ok (.ifCond .ne 9, 3) := by decide +kernel
theorem dX12_knowing_12 : decode cX12_knowing 12 = .ok (.aload_n 0, 1) := by decide +kernel
theorem dX12_knowing_13 : decode cX12_knowing 13 = .ok (.iconst 1, 1) := by decide +kernel
theorem dX12_knowing_14 : decode cX12_knowing 14 = .ok (.invokevirtual 83, 3) := by decide +kernel
theorem dX12_knowing_17 : decode cX12_knowing 17 = .ok (.ireturn, 1) := by decide +kernel
theorem dX12_knowing_18 : decode cX12_knowing 18 = .ok (.aload_n 0, 1) := by decide +kernel
theorem dX12_knowing_19 : decode cX12_knowing 19 = .ok (.iload_n 1, 1) := by decide +kernel
theorem dX12_knowing_20 : decode cX12_knowing 20 = .ok (.iconst 0, 1) := by decide +kernel
theorem dX12_knowing_21 : decode cX12_knowing 21 = .ok (.invokevirtual 387, 3) := by decide +kernel
theorem dX12_knowing_24 : decode cX12_knowing 24 = .ok (.invokestatic 373, 3) := by decide +kernel
theorem dX12_knowing_27 : decode cX12_knowing 27 = .ok (.istore_n 2, 1) := by decide +kernel
theorem dX12_knowing_28 : decode cX12_knowing 28 = .ok (.iconst (-1), 1) := by decide +kernel
theorem dX12_knowing_29 : decode cX12_knowing 29 = .ok (.istore_n 3, 1) := by decide +kernel
theorem dX12_knowing_30 : decode cX12_knowing 30 = .ok (.iconst 0, 1) := by decide +kernel
theorem dX12_knowing_31 : decode cX12_knowing 31 = .ok (.istore 4, 2) := by decide +kernel
theorem dX12_knowing_33 : decode cX12_knowing 33 = .ok (.iload 4, 2) := by decide +kernel
theorem dX12_knowing_35 : decode cX12_knowing 35 = .ok (.aload_n 0, 1) := by decide +kernel
theorem dX12_knowing_36 : decode cX12_knowing 36 = .ok (.getfield 7, 3) := by decide +kernel
theorem dX12_knowing_39 : decode cX12_knowing 39 = .ok (.iconst 2, 1) := by decide +kernel
theorem dX12_knowing_40 : decode cX12_knowing 40 = .ok (.iaload, 1) := by decide +kernel
theorem dX12_knowing_41 : decode cX12_knowing 41 = .ok (.if_icmp .ge 56, 3) := by decide +kernel
theorem dX12_knowing_44 : decode cX12_knowing 44 = .ok (.aload_n 0, 1) := by decide +kernel
theorem dX12_knowing_45 : decode cX12_knowing 45 = .ok (.getfield 7, 3) := by decide +kernel
theorem dX12_knowing_48 : decode cX12_knowing 48 = .ok (.iconst 4, 1) := by decide +kernel
theorem dX12_knowing_49 : decode cX12_knowing 49 = .ok (.iaload, 1) := by decide +kernel
theorem dX12_knowing_50 : decode cX12_knowing 50 = .ok (.iload 4, 2) := by decide +kernel
theorem dX12_knowing_52 : decode cX12_knowing 52 = .ok (.ishr, 1) := by decide +kernel
theorem dX12_knowing_53 : decode cX12_knowing 53 = .ok (.iconst 1, 1) := by decide +kernel
theorem dX12_knowing_54 : decode cX12_knowing 54 = .ok (.iand, 1) := by decide +kernel
theorem dX12_knowing_55 : decode cX12_knowing 55 = .ok (.iconst 1, 1) := by decide +kernel
theorem dX12_knowing_56 : decode cX12_knowing 56 = .ok (.if_icmp .ne 6, 3) := by decide +kernel
theorem dX12_knowing_59 : decode cX12_knowing 59 = .ok (.goto 32, 3) := by decide +kernel
theorem dX12_knowing_62 : decode cX12_knowing 62 = .ok (.aload_n 0, 1) := by decide +kernel
theorem dX12_knowing_63 : decode cX12_knowing 63 = .ok (.iload_n 1, 1) := by decide +kernel
theorem dX12_knowing_64 : decode cX12_knowing 64 = .ok (.iconst 1, 1) := by decide +kernel
theorem dX12_knowing_65 : decode cX12_knowing 65 = .ok (.iload 4, 2) := by decide +kernel
theorem dX12_knowing_67 : decode cX12_knowing 67 = .ok (.ishl, 1) := by decide +kernel
theorem dX12_knowing_68 : decode cX12_knowing 68 = .ok (.invokevirtual 387, 3) := by decide +kernel
theorem dX12_knowing_71 : decode cX12_knowing 71 = .ok (.invokestatic 373, 3) := by decide +kernel
theorem dX12_knowing_74 : decode cX12_knowing 74 = .ok (.istore 5, 2) := by decide +kernel
theorem dX12_knowing_76 : decode cX12_knowing 76 = .ok (.iload 5, 2) := by decide +kernel
theorem dX12_knowing_78 : decode cX12_knowing 78 = .ok (.iload_n 2, 1) := by decide +kernel
theorem dX12_knowing_79 : decode cX12_knowing 79 = .ok (.if_icmp .lt 6, 3) := by decide +kernel
theorem dX12_knowing_82 : decode cX12_knowing 82 = .ok (.goto 9, 3) := by decide +kernel
theorem dX12_knowing_85 : decode cX12_knowing 85 = .ok (.iload 5, 2) := by decide +kernel
theorem dX12_knowing_87 : decode cX12_knowing 87 = .ok (.istore_n 2, 1) := by decide +kernel
theorem dX12_knowing_88 : decode cX12_knowing 88 = .ok (.iload 4, 2) := by decide +kernel
theorem dX12_knowing_90 : decode cX12_knowing 90 = .ok (.istore_n 3, 1) := by decide +kernel
theorem dX12_knowing_91 : decode cX12_knowing 91 = .ok (.iinc 4 1, 3) := by decide +kernel
theorem dX12_knowing_94 : decode cX12_knowing 94 = .ok (.goto (-61), 3) := by decide +kernel
theorem dX12_knowing_97 : decode cX12_knowing 97 = .ok (.aload_n 0, 1) := by decide +kernel
theorem dX12_knowing_98 : decode cX12_knowing 98 = .ok (.iload_n 3, 1) := by decide +kernel
theorem dX12_knowing_99 : decode cX12_knowing 99 = .ok (.invokevirtual 370, 3) := by decide +kernel
theorem dX12_knowing_102 : decode cX12_knowing 102 = .ok (.ireturn, 1) := by decide +kernel
theorem dX12_wrongRows_0 : decode cX12_wrongRows 0 = .ok (.iload_n 1, 1) := by decide +kernel
theorem dX12_wrongRows_1 : decode cX12_wrongRows 1 = .ok (.invokestatic 94, 3) := by decide +kernel
theorem dX12_wrongRows_4 : decode cX12_wrongRows 4 = .ok (.ifCond .eq 15, 3) := by decide +kernel
theorem dX12_wrongRows_7 : decode cX12_wrongRows 7 = .ok (.iload_n 2, 1) := by decide +kernel
theorem dX12_wrongRows_8 : decode cX12_wrongRows 8 = .ok (.i2l, 1) := by decide +kernel
theorem dX12_wrongRows_9 : decode cX12_wrongRows 9 = .ok (.lconst 1, 1) := by decide +kernel
theorem dX12_wrongRows_10 : decode cX12_wrongRows 10 = .ok (.ldc2_w 390, 3) := by decide +kernel
theorem dX12_wrongRows_13 : decode cX12_wrongRows 13 = .ok (.invokestatic 321, 3) := by decide +kernel
theorem dX12_wrongRows_16 : decode cX12_wrongRows 16 = .ok (.ifCond .ne 5, 3) := by decide +kernel
theorem dX12_wrongRows_19 : decode cX12_wrongRows 19 = .ok (.iconst 1, 1) := by decide +kernel
theorem dX12_wrongRows_20 : decode cX12_wrongRows 20 = .ok (.ireturn, 1) := by decide +kernel
theorem dX12_wrongRows_21 : decode cX12_wrongRows 21 = .ok (.aload_n 0, 1) := by decide +kernel
theorem dX12_wrongRows_22 : decode cX12_wrongRows 22 = .ok (.getfield 24, 3) := by decide +kernel
theorem dX12_wrongRows_25 : decode cX12_wrongRows 25 = .ok (.iload_n 1, 1) := by decide +kernel
theorem dX12_wrongRows_26 : decode cX12_wrongRows 26 = .ok (.iaload, 1) := by decide +kernel
theorem dX12_wrongRows_27 : decode cX12_wrongRows 27 = .ok (.iconst (-1), 1) := by decide +kernel
theorem dX12_wrongRows_28 : decode cX12_wrongRows 28 = .ok (.if_icmp .ne 5, 3) := by decide +kernel
theorem dX12_wrongRows_31 : decode cX12_wrongRows 31 = .ok (.iconst 2, 1) := by decide +kernel
theorem dX12_wrongRows_32 : decode cX12_wrongRows 32 = .ok (.ireturn, 1) := by decide +kernel
theorem dX12_wrongRows_33 : decode cX12_wrongRows 33 = .ok (.aload_n 0, 1) := by decide +kernel
theorem dX12_wrongRows_34 : decode cX12_wrongRows 34 = .ok (.getfield 24, 3) := by decide +kernel
theorem dX12_wrongRows_37 : decode cX12_wrongRows 37 = .ok (.iload_n 1, 1) := by decide +kernel
theorem dX12_wrongRows_38 : decode cX12_wrongRows 38 = .ok (.iaload, 1) := by decide +kernel
theorem dX12_wrongRows_39 : decode cX12_wrongRows 39 = .ok (.iload_n 2, 1) := by decide +kernel
theorem dX12_wrongRows_40 : decode cX12_wrongRows 40 = .ok (.aload_n 0, 1) := by decide +kernel
theorem dX12_wrongRows_41 : decode cX12_wrongRows 41 = .ok (.getfield 7, 3) := by decide +kernel
theorem dX12_wrongRows_44 : decode cX12_wrongRows 44 = .ok (.iconst 1, 1) := by decide +kernel
theorem dX12_wrongRows_45 : decode cX12_wrongRows 45 = .ok (.iaload, 1) := by decide +kernel
theorem dX12_wrongRows_46 : decode cX12_wrongRows 46 = .ok (.imul, 1) := by decide +kernel
theorem dX12_wrongRows_47 : decode cX12_wrongRows 47 = .ok (.if_icmp .ge 5, 3) := by decide +kernel
theorem dX12_wrongRows_50 : decode cX12_wrongRows 50 = .ok (.iconst 3, 1) := by decide +kernel
theorem dX12_wrongRows_51 : decode cX12_wrongRows 51 = .ok (.ireturn, 1) := by decide +kernel
theorem dX12_wrongRows_52 : decode cX12_wrongRows 52 = .ok (.iconst 0, 1) := by decide +kernel
theorem dX12_wrongRows_53 : decode cX12_wrongRows 53 = .ok (.istore_n 3, 1) := by decide +kernel
theorem dX12_wrongRows_54 : decode cX12_wrongRows 54 = .ok (.iload_n 3, 1) := by decide +kernel
theorem dX12_wrongRows_55 : decode cX12_wrongRows 55 = .ok (.iload_n 2, 1) := by decide +kernel
theorem dX12_wrongRows_56 : decode cX12_wrongRows 56 = .ok (.aload_n 0, 1) := by decide +kernel
theorem dX12_wrongRows_57 : decode cX12_wrongRows 57 = .ok (.getfield 7, 3) := by decide +kernel
theorem dX12_wrongRows_60 : decode cX12_wrongRows 60 = .ok (.iconst 1, 1) := by decide +kernel
theorem dX12_wrongRows_61 : decode cX12_wrongRows 61 = .ok (.iaload, 1) := by decide +kernel
theorem dX12_wrongRows_62 : decode cX12_wrongRows 62 = .ok (.imul, 1) := by decide +kernel
theorem dX12_wrongRows_63 : decode cX12_wrongRows 63 = .ok (.if_icmp .ge 51, 3) := by decide +kernel
theorem dX12_wrongRows_66 : decode cX12_wrongRows 66 = .ok (.aload_n 0, 1) := by decide +kernel
theorem dX12_wrongRows_67 : decode cX12_wrongRows 67 = .ok (.getfield 27, 3) := by decide +kernel
theorem dX12_wrongRows_70 : decode cX12_wrongRows 70 = .ok (.bipush 60, 2) := by decide +kernel
theorem dX12_wrongRows_72 : decode cX12_wrongRows 72 = .ok (.iload_n 1, 1) := by decide +kernel
theorem dX12_wrongRows_73 : decode cX12_wrongRows 73 = .ok (.imul, 1) := by decide +kernel
theorem dX12_wrongRows_74 : decode cX12_wrongRows 74 = .ok (.iload_n 3, 1) := by decide +kernel
theorem dX12_wrongRows_75 : decode cX12_wrongRows 75 = .ok (.iadd, 1) := by decide +kernel
theorem dX12_wrongRows_76 : decode cX12_wrongRows 76 = .ok (.laload, 1) := by decide +kernel
theorem dX12_wrongRows_77 : decode cX12_wrongRows 77 = .ok (.lconst 0, 1) := by decide +kernel
theorem dX12_wrongRows_78 : decode cX12_wrongRows 78 = .ok (.aload_n 0, 1) := by decide +kernel
theorem dX12_wrongRows_79 : decode cX12_wrongRows 79 = .ok (.getfield 7, 3) := by decide +kernel
theorem dX12_wrongRows_82 : decode cX12_wrongRows 82 = .ok (.bipush 20, 2) := by decide +kernel
theorem dX12_wrongRows_84 : decode cX12_wrongRows 84 = .ok (.bipush 6, 2) := by decide +kernel
theorem dX12_wrongRows_86 : decode cX12_wrongRows 86 = .ok (.iload_n 3, 1) := by decide +kernel
theorem dX12_wrongRows_87 : decode cX12_wrongRows 87 = .ok (.aload_n 0, 1) := by decide +kernel
theorem dX12_wrongRows_88 : decode cX12_wrongRows 88 = .ok (.getfield 7, 3) := by decide +kernel
theorem dX12_wrongRows_91 : decode cX12_wrongRows 91 = .ok (.iconst 1, 1) := by decide +kernel
theorem dX12_wrongRows_92 : decode cX12_wrongRows 92 = .ok (.iaload, 1) := by decide +kernel
theorem dX12_wrongRows_93 : decode cX12_wrongRows 93 = .ok (.irem, 1) := by decide +kernel
theorem dX12_wrongRows_94 : decode cX12_wrongRows 94 = .ok (.imul, 1) := by decide +kernel
theorem dX12_wrongRows_95 : decode cX12_wrongRows 95 = .ok (.iadd, 1) := by decide +kernel
theorem dX12_wrongRows_96 : decode cX12_wrongRows 96 = .ok (.iaload, 1) := by decide +kernel
theorem dX12_wrongRows_97 : decode cX12_wrongRows 97 = .ok (.iconst 1, 1) := by decide +kernel
theorem dX12_wrongRows_98 : decode cX12_wrongRows 98 = .ok (.isub, 1) := by decide +kernel
theorem dX12_wrongRows_99 : decode cX12_wrongRows 99 = .ok (.i2l, 1) := by decide +kernel
theorem dX12_wrongRows_100 : decode cX12_wrongRows 100 = .ok (.invokestatic 321, 3) := by decide +kernel
theorem dX12_wrongRows_103 : decode cX12_wrongRows 103 = .ok (.ifCond .ne 5, 3) := by decide +kernel
theorem dX12_wrongRows_106 : decode cX12_wrongRows 106 = .ok (.iconst 5, 1) := by decide +kernel
theorem dX12_wrongRows_107 : decode cX12_wrongRows 107 = .ok (.ireturn, 1) := by decide +kernel
theorem dX12_wrongRows_108 : decode cX12_wrongRows 108 = .ok (.iinc 3 1, 3) := by decide +kernel
theorem dX12_wrongRows_111 : decode cX12_wrongRows 111 = .ok (.goto (-57), 3) := by decide +kernel
theorem dX12_wrongRows_114 : decode cX12_wrongRows 114 = .ok (.iconst 0, 1) := by decide +kernel
theorem dX12_wrongRows_115 : decode cX12_wrongRows 115 = .ok (.ireturn, 1) := by decide +kernel
theorem dX12_isSeen_0 : decode cX12_isSeen 0 = .ok (.aload_n 0, 1) := by decide +kernel
theorem dX12_isSeen_1 : decode cX12_isSeen 1 = .ok (.invokevirtual 325, 3) := by decide +kernel
theorem dX12_isSeen_4 : decode cX12_isSeen 4 = .ok (.aload_n 0, 1) := by decide +kernel
theorem dX12_isSeen_5 : decode cX12_isSeen 5 = .ok (.getfield 7, 3) := by decide +kernel
theorem dX12_isSeen_8 : decode cX12_isSeen 8 = .ok (.sipush 2454, 3) := by decide +kernel
theorem dX12_isSeen_11 : decode cX12_isSeen 11 = .ok (.dup2, 1) := by decide +kernel
theorem dX12_isSeen_12 : decode cX12_isSeen 12 = .ok (.iaload, 1) := by decide +kernel
theorem dX12_isSeen_13 : decode cX12_isSeen 13 = .ok (.iload_n 3, 1) := by decide +kernel
theorem dX12_isSeen_14 : decode cX12_isSeen 14 = .ok (.ior, 1) := by decide +kernel
theorem dX12_isSeen_15 : decode cX12_isSeen 15 = .ok (.iastore, 1) := by decide +kernel
theorem dX12_isSeen_16 : decode cX12_isSeen 16 = .ok (.iconst 0, 1) := by decide +kernel
theorem dX12_isSeen_17 : decode cX12_isSeen 17 = .ok (.istore 4, 2) := by decide +kernel
theorem dX12_isSeen_19 : decode cX12_isSeen 19 = .ok (.iload 4, 2) := by decide +kernel
theorem dX12_isSeen_21 : decode cX12_isSeen 21 = .ok (.iload_n 2, 1) := by decide +kernel
theorem dX12_isSeen_22 : decode cX12_isSeen 22 = .ok (.if_icmp .ge 73, 3) := by decide +kernel
theorem dX12_isSeen_25 : decode cX12_isSeen 25 = .ok (.aload_n 0, 1) := by decide +kernel
theorem dX12_isSeen_26 : decode cX12_isSeen 26 = .ok (.aload_n 0, 1) := by decide +kernel
theorem dX12_isSeen_27 : decode cX12_isSeen 27 = .ok (.invokevirtual 306, 3) := by decide +kernel
theorem dX12_isSeen_30 : decode cX12_isSeen 30 = .ok (.putfield 309, 3) := by decide +kernel
theorem dX12_isSeen_33 : decode cX12_isSeen 33 = .ok (.iconst 0, 1) := by decide +kernel
theorem dX12_isSeen_34 : decode cX12_isSeen 34 = .ok (.istore 5, 2) := by decide +kernel
theorem dX12_isSeen_36 : decode cX12_isSeen 36 = .ok (.iload 5, 2) := by decide +kernel
theorem dX12_isSeen_38 : decode cX12_isSeen 38 = .ok (.aload_n 0, 1) := by decide +kernel
theorem dX12_isSeen_39 : decode cX12_isSeen 39 = .ok (.getfield 7, 3) := by decide +kernel
theorem dX12_isSeen_42 : decode cX12_isSeen 42 = .ok (.iconst 1, 1) := by decide +kernel
theorem dX12_isSeen_43 : decode cX12_isSeen 43 = .ok (.iaload, 1) := by decide +kernel
theorem dX12_isSeen_44 : decode cX12_isSeen 44 = .ok (.if_icmp .ge 45, 3) := by decide +kernel
theorem dX12_isSeen_47 : decode cX12_isSeen 47 = .ok (.aload_n 0, 1) := by decide +kernel
theorem dX12_isSeen_48 : decode cX12_isSeen 48 = .ok (.getfield 27, 3) := by decide +kernel
theorem dX12_isSeen_51 : decode cX12_isSeen 51 = .ok (.bipush 60, 2) := by decide +kernel
theorem dX12_isSeen_53 : decode cX12_isSeen 53 = .ok (.iload_n 1, 1) := by decide +kernel
theorem dX12_isSeen_54 : decode cX12_isSeen 54 = .ok (.imul, 1) := by decide +kernel
theorem dX12_isSeen_55 : decode cX12_isSeen 55 = .ok (.iload 4, 2) := by decide +kernel
theorem dX12_isSeen_57 : decode cX12_isSeen 57 = .ok (.aload_n 0, 1) := by decide +kernel
theorem dX12_isSeen_58 : decode cX12_isSeen 58 = .ok (.getfield 7, 3) := by decide +kernel
theorem dX12_isSeen_61 : decode cX12_isSeen 61 = .ok (.iconst 1, 1) := by decide +kernel
theorem dX12_isSeen_62 : decode cX12_isSeen 62 = .ok (.iaload, 1) := by decide +kernel
theorem dX12_isSeen_63 : decode cX12_isSeen 63 = .ok (.imul, 1) := by decide +kernel
theorem dX12_isSeen_64 : decode cX12_isSeen 64 = .ok (.iadd, 1) := by decide +kernel
theorem dX12_isSeen_65 : decode cX12_isSeen 65 = .ok (.iload 5, 2) := by decide +kernel
theorem dX12_isSeen_67 : decode cX12_isSeen 67 = .ok (.iadd, 1) := by decide +kernel
theorem dX12_isSeen_68 : decode cX12_isSeen 68 = .ok (.laload, 1) := by decide +kernel
theorem dX12_isSeen_69 : decode cX12_isSeen 69 = .ok (.aload_n 0, 1) := by decide +kernel
theorem dX12_isSeen_70 : decode cX12_isSeen 70 = .ok (.iload 5, 2) := by decide +kernel
theorem dX12_isSeen_72 : decode cX12_isSeen 72 = .ok (.iconst 3, 1) := by decide +kernel
theorem dX12_isSeen_73 : decode cX12_isSeen 73 = .ok (.invokevirtual 249, 3) := by decide +kernel
theorem dX12_isSeen_76 : decode cX12_isSeen 76 = .ok (.i2l, 1) := by decide +kernel
theorem dX12_isSeen_77 : decode cX12_isSeen 77 = .ok (.lcmp, 1) := by decide +kernel
theorem dX12_isSeen_78 : decode cX12_isSeen 78 = .ok (.ifCond .eq 5, 3) := by decide +kernel
theorem dX12_isSeen_81 : decode cX12_isSeen 81 = .ok (.iconst 0, 1) := by decide +kernel
theorem dX12_isSeen_82 : decode cX12_isSeen 82 = .ok (.ireturn, 1) := by decide +kernel
theorem dX12_isSeen_83 : decode cX12_isSeen 83 = .ok (.iinc 5 1, 3) := by decide +kernel
theorem dX12_isSeen_86 : decode cX12_isSeen 86 = .ok (.goto (-50), 3) := by decide +kernel
theorem dX12_isSeen_89 : decode cX12_isSeen 89 = .ok (.iinc 4 1, 3) := by decide +kernel
theorem dX12_isSeen_92 : decode cX12_isSeen 92 = .ok (.goto (-73), 3) := by decide +kernel
theorem dX12_isSeen_95 : decode cX12_isSeen 95 = .ok (.iconst 1, 1) := by decide +kernel
theorem dX12_isSeen_96 : decode cX12_isSeen 96 = .ok (.ireturn, 1) := by decide +kernel
theorem dX12_whole_0 : decode cX12_whole 0 = .ok (.aload_n 0, 1) := by decide +kernel
theorem dX12_whole_1 : decode cX12_whole 1 = .ok (.iload_n 1, 1) := by decide +kernel
theorem dX12_whole_2 : decode cX12_whole 2 = .ok (.iload_n 2, 1) := by decide +kernel
theorem dX12_whole_3 : decode cX12_whole 3 = .ok (.invokevirtual 392, 3) := by decide +kernel
theorem dX12_whole_6 : decode cX12_whole 6 = .ok (.istore_n 3, 1) := by decide +kernel
theorem dX12_whole_7 : decode cX12_whole 7 = .ok (.iload_n 3, 1) := by decide +kernel
theorem dX12_whole_8 : decode cX12_whole 8 = .ok (.ifCond .le 11, 3) := by decide +kernel
theorem dX12_whole_11 : decode cX12_whole 11 = .ok (.aload_n 0, 1) := by decide +kernel
theorem dX12_whole_12 : decode cX12_whole 12 = .ok (.iload_n 3, 1) := by decide +kernel
theorem dX12_whole_13 : decode cX12_whole 13 = .ok (.invokevirtual 83, 3) := by decide +kernel
theorem dX12_whole_16 : decode cX12_whole 16 = .ok (.goto 22, 3) := by decide +kernel
theorem dX12_whole_19 : decode cX12_whole 19 = .ok (.aload_n 0, 1) := by decide +kernel
theorem dX12_whole_20 : decode cX12_whole 20 = .ok (.aload_n 0, 1) := by decide +kernel
theorem dX12_whole_21 : decode cX12_whole 21 = .ok (.iload_n 1, 1) := by decide +kernel
theorem dX12_whole_22 : decode cX12_whole 22 = .ok (.iload_n 2, 1) := by decide +kernel
theorem dX12_whole_23 : decode cX12_whole 23 = .ok (.iconst 0, 1) := by decide +kernel
theorem dX12_whole_24 : decode cX12_whole 24 = .ok (.invokevirtual 395, 3) := by decide +kernel
theorem dX12_whole_27 : decode cX12_whole 27 = .ok (.ifCond .eq 7, 3) := by decide +kernel
theorem dX12_whole_30 : decode cX12_whole 30 = .ok (.iconst 1, 1) := by decide +kernel
theorem dX12_whole_31 : decode cX12_whole 31 = .ok (.goto 4, 3) := by decide +kernel
theorem dX12_whole_34 : decode cX12_whole 34 = .ok (.iconst 0, 1) := by decide +kernel
theorem dX12_whole_35 : decode cX12_whole 35 = .ok (.invokevirtual 87, 3) := by decide +kernel
theorem dX12_whole_38 : decode cX12_whole 38 = .ok (.ireturn, 1) := by decide +kernel
theorem dX12_broken_0 : decode cX12_broken 0 = .ok (.aload_n 0, 1) := by decide +kernel
theorem dX12_broken_1 : decode cX12_broken 1 = .ok (.iload_n 1, 1) := by decide +kernel
theorem dX12_broken_2 : decode cX12_broken 2 = .ok (.iload_n 2, 1) := by decide +kernel
theorem dX12_broken_3 : decode cX12_broken 3 = .ok (.invokevirtual 392, 3) := by decide +kernel
theorem dX12_broken_6 : decode cX12_broken 6 = .ok (.istore_n 3, 1) := by decide +kernel
theorem dX12_broken_7 : decode cX12_broken 7 = .ok (.iload_n 3, 1) := by decide +kernel
theorem dX12_broken_8 : decode cX12_broken 8 = .ok (.ifCond .le 9, 3) := by decide +kernel
theorem dX12_broken_11 : decode cX12_broken 11 = .ok (.aload_n 0, 1) := by decide +kernel
theorem dX12_broken_12 : decode cX12_broken 12 = .ok (.iload_n 3, 1) := by decide +kernel
theorem dX12_broken_13 : decode cX12_broken 13 = .ok (.invokevirtual 83, 3) := by decide +kernel
theorem dX12_broken_16 : decode cX12_broken 16 = .ok (.ireturn, 1) := by decide +kernel
theorem dX12_broken_17 : decode cX12_broken 17 = .ok (.iconst 0, 1) := by decide +kernel
theorem dX12_broken_18 : decode cX12_broken 18 = .ok (.istore 4, 2) := by decide +kernel
theorem dX12_broken_20 : decode cX12_broken 20 = .ok (.iconst 0, 1) := by decide +kernel
theorem dX12_broken_21 : decode cX12_broken 21 = .ok (.istore 5, 2) := by decide +kernel
theorem dX12_broken_23 : decode cX12_broken 23 = .ok (.iload 5, 2) := by decide +kernel
theorem dX12_broken_25 : decode cX12_broken 25 = .ok (.aload_n 0, 1) := by decide +kernel
theorem dX12_broken_26 : decode cX12_broken 26 = .ok (.getfield 7, 3) := by decide +kernel
theorem dX12_broken_29 : decode cX12_broken 29 = .ok (.iconst 2, 1) := by decide +kernel
theorem dX12_broken_30 : decode cX12_broken 30 = .ok (.iaload, 1) := by decide +kernel
theorem dX12_broken_31 : decode cX12_broken 31 = .ok (.if_icmp .ge 49, 3) := by decide +kernel
theorem dX12_broken_34 : decode cX12_broken 34 = .ok (.iload 4, 2) := by decide +kernel
theorem dX12_broken_36 : decode cX12_broken 36 = .ok (.aload_n 0, 1) := by decide +kernel
theorem dX12_broken_37 : decode cX12_broken 37 = .ok (.getfield 7, 3) := by decide +kernel
theorem dX12_broken_40 : decode cX12_broken 40 = .ok (.iconst 4, 1) := by decide +kernel
theorem dX12_broken_41 : decode cX12_broken 41 = .ok (.iaload, 1) := by decide +kernel
theorem dX12_broken_42 : decode cX12_broken 42 = .ok (.iload 5, 2) := by decide +kernel
theorem dX12_broken_44 : decode cX12_broken 44 = .ok (.ishr, 1) := by decide +kernel
theorem dX12_broken_45 : decode cX12_broken 45 = .ok (.iconst 1, 1) := by decide +kernel
theorem dX12_broken_46 : decode cX12_broken 46 = .ok (.iand, 1) := by decide +kernel
theorem dX12_broken_47 : decode cX12_broken 47 = .ok (.ifCond .ne 23, 3) := by decide +kernel
theorem dX12_broken_50 : decode cX12_broken 50 = .ok (.aload_n 0, 1) := by decide +kernel
theorem dX12_broken_51 : decode cX12_broken 51 = .ok (.iload_n 1, 1) := by decide +kernel
theorem dX12_broken_52 : decode cX12_broken 52 = .ok (.iload_n 2, 1) := by decide +kernel
theorem dX12_broken_53 : decode cX12_broken 53 = .ok (.iconst 1, 1) := by decide +kernel
theorem dX12_broken_54 : decode cX12_broken 54 = .ok (.iload 5, 2) := by decide +kernel
theorem dX12_broken_56 : decode cX12_broken 56 = .ok (.ishl, 1) := by decide +kernel
theorem dX12_broken_57 : decode cX12_broken 57 = .ok (.invokevirtual 395, 3) := by decide +kernel
theorem dX12_broken_60 : decode cX12_broken 60 = .ok (.ifCond .eq 10, 3) := by decide +kernel
theorem dX12_broken_63 : decode cX12_broken 63 = .ok (.iconst 1, 1) := by decide +kernel
theorem dX12_broken_64 : decode cX12_broken 64 = .ok (.iload 5, 2) := by decide +kernel
theorem dX12_broken_66 : decode cX12_broken 66 = .ok (.ishl, 1) := by decide +kernel
theorem dX12_broken_67 : decode cX12_broken 67 = .ok (.goto 4, 3) := by decide +kernel
theorem dX12_broken_70 : decode cX12_broken 70 = .ok (.iconst 0, 1) := by decide +kernel
theorem dX12_broken_71 : decode cX12_broken 71 = .ok (.ior, 1) := by decide +kernel
theorem dX12_broken_72 : decode cX12_broken 72 = .ok (.istore 4, 2) := by decide +kernel
theorem dX12_broken_74 : decode cX12_broken 74 = .ok (.iinc 5 1, 3) := by decide +kernel
theorem dX12_broken_77 : decode cX12_broken 77 = .ok (.goto (-54), 3) := by decide +kernel
theorem dX12_broken_80 : decode cX12_broken 80 = .ok (.aload_n 0, 1) := by decide +kernel
theorem dX12_broken_81 : decode cX12_broken 81 = .ok (.iload 4, 2) := by decide +kernel
theorem dX12_broken_83 : decode cX12_broken 83 = .ok (.invokevirtual 87, 3) := by decide +kernel
theorem dX12_broken_86 : decode cX12_broken 86 = .ok (.ireturn, 1) := by decide +kernel
theorem dX12_draw_0 : decode cX12_draw 0 = .ok (.aload_n 0, 1) := by decide +kernel
theorem dX12_draw_1 : decode cX12_draw 1 = .ok (.aload_n 0, 1) := by decide +kernel
theorem dX12_draw_2 : decode cX12_draw 2 = .ok (.getfield 398, 3) := by decide +kernel
theorem dX12_draw_5 : decode cX12_draw 5 = .ok (.sipush 2683, 3) := by decide +kernel
theorem dX12_draw_8 : decode cX12_draw 8 = .ok (.imul, 1) := by decide +kernel
theorem dX12_draw_9 : decode cX12_draw 9 = .ok (.sipush 11587, 3) := by decide +kernel
theorem dX12_draw_12 : decode cX12_draw 12 = .ok (.iadd, 1) := by decide +kernel
theorem dX12_draw_13 : decode cX12_draw 13 = .ok (.ldc_w 401, 3) := by decide +kernel
theorem dX12_draw_16 : decode cX12_draw 16 = .ok (.irem, 1) := by decide +kernel
theorem dX12_draw_17 : decode cX12_draw 17 = .ok (.putfield 398, 3) := by decide +kernel
theorem dX12_draw_20 : decode cX12_draw 20 = .ok (.aload_n 0, 1) := by decide +kernel
theorem dX12_draw_21 : decode cX12_draw 21 = .ok (.getfield 398, 3) := by decide +kernel
theorem dX12_draw_24 : decode cX12_draw 24 = .ok (.bipush 8, 2) := by decide +kernel
theorem dX12_draw_26 : decode cX12_draw 26 = .ok (.idiv, 1) := by decide +kernel
theorem dX12_draw_27 : decode cX12_draw 27 = .ok (.bipush 16, 2) := by decide +kernel
theorem dX12_draw_29 : decode cX12_draw 29 = .ok (.irem, 1) := by decide +kernel
theorem dX12_draw_30 : decode cX12_draw 30 = .ok (.ireturn, 1) := by decide +kernel
theorem dX12_blows_0 : decode cX12_blows 0 = .ok (.aload_n 0, 1) := by decide +kernel
theorem dX12_blows_1 : decode cX12_blows 1 = .ok (.getfield 7, 3) := by decide +kernel
theorem dX12_blows_4 : decode cX12_blows 4 = .ok (.sipush 2460, 3) := by decide +kernel
theorem dX12_blows_7 : decode cX12_blows 7 = .ok (.iconst 2, 1) := by decide +kernel
theorem dX12_blows_8 : decode cX12_blows 8 = .ok (.iload_n 1, 1) := by decide +kernel
theorem dX12_blows_9 : decode cX12_blows 9 = .ok (.imul, 1) := by decide +kernel
theorem dX12_blows_10 : decode cX12_blows 10 = .ok (.iadd, 1) := by decide +kernel
theorem dX12_blows_11 : decode cX12_blows 11 = .ok (.iload_n 2, 1) := by decide +kernel
theorem dX12_blows_12 : decode cX12_blows 12 = .ok (.iastore, 1) := by decide +kernel
theorem dX12_blows_13 : decode cX12_blows 13 = .ok (.aload_n 0, 1) := by decide +kernel
theorem dX12_blows_14 : decode cX12_blows 14 = .ok (.getfield 7, 3) := by decide +kernel
theorem dX12_blows_17 : decode cX12_blows 17 = .ok (.sipush 2460, 3) := by decide +kernel
theorem dX12_blows_20 : decode cX12_blows 20 = .ok (.iconst 2, 1) := by decide +kernel
theorem dX12_blows_21 : decode cX12_blows 21 = .ok (.iload_n 1, 1) := by decide +kernel
theorem dX12_blows_22 : decode cX12_blows 22 = .ok (.imul, 1) := by decide +kernel
theorem dX12_blows_23 : decode cX12_blows 23 = .ok (.iadd, 1) := by decide +kernel
theorem dX12_blows_24 : decode cX12_blows 24 = .ok (.iconst 1, 1) := by decide +kernel
theorem dX12_blows_25 : decode cX12_blows 25 = .ok (.iadd, 1) := by decide +kernel
theorem dX12_blows_26 : decode cX12_blows 26 = .ok (.iload_n 3, 1) := by decide +kernel
theorem dX12_blows_27 : decode cX12_blows 27 = .ok (.iastore, 1) := by decide +kernel
theorem dX12_blows_28 : decode cX12_blows 28 = .ok (.return_, 1) := by decide +kernel
theorem dX12_does_0 : decode cX12_does 0 = .ok (.aload_n 0, 1) := by decide +kernel
theorem dX12_does_1 : decode cX12_does 1 = .ok (.getfield 7, 3) := by decide +kernel
theorem dX12_does_4 : decode cX12_does 4 = .ok (.iload_n 1, 1) := by decide +kernel
theorem dX12_does_5 : decode cX12_does 5 = .ok (.iconst 1, 1) := by decide +kernel
theorem dX12_does_6 : decode cX12_does 6 = .ok (.iadd, 1) := by decide +kernel
theorem dX12_does_7 : decode cX12_does 7 = .ok (.iaload, 1) := by decide +kernel
theorem dX12_does_8 : decode cX12_does 8 = .ok (.istore_n 2, 1) := by decide +kernel
theorem dX12_does_9 : decode cX12_does 9 = .ok (.aload_n 0, 1) := by decide +kernel
theorem dX12_does_10 : decode cX12_does 10 = .ok (.getfield 7, 3) := by decide +kernel
theorem dX12_does_13 : decode cX12_does 13 = .ok (.iload_n 1, 1) := by decide +kernel
theorem dX12_does_14 : decode cX12_does 14 = .ok (.iaload, 1) := by decide +kernel
theorem dX12_does_15 : decode cX12_does 15 = .ok (.tableswitch 258 10 17 #[45, 77, 108, 126, 151, 178, 203, 230], 45) := by decide +kernel
theorem dX12_does_60 : decode cX12_does 60 = .ok (.aload_n 0, 1) := by decide +kernel
theorem dX12_does_61 : decode cX12_does 61 = .ok (.iload_n 2, 1) := by decide +kernel
theorem dX12_does_62 : decode cX12_does 62 = .ok (.invokevirtual 313, 3) := by decide +kernel
theorem dX12_does_65 : decode cX12_does 65 = .ok (.ifCond .eq 208, 3) := by decide +kernel
theorem dX12_does_68 : decode cX12_does 68 = .ok (.aload_n 0, 1) := by decide +kernel
theorem dX12_does_69 : decode cX12_does 69 = .ok (.iload_n 2, 1) := by decide +kernel
theorem dX12_does_70 : decode cX12_does 70 = .ok (.aload_n 0, 1) := by decide +kernel
theorem dX12_does_71 : decode cX12_does 71 = .ok (.getfield 7, 3) := by decide +kernel
theorem dX12_does_74 : decode cX12_does 74 = .ok (.iload_n 1, 1) := by decide +kernel
theorem dX12_does_75 : decode cX12_does 75 = .ok (.iconst 2, 1) := by decide +kernel
theorem dX12_does_76 : decode cX12_does 76 = .ok (.iadd, 1) := by decide +kernel
theorem dX12_does_77 : decode cX12_does 77 = .ok (.iaload, 1) := by decide +kernel
theorem dX12_does_78 : decode cX12_does 78 = .ok (.aload_n 0, 1) := by decide +kernel
theorem dX12_does_79 : decode cX12_does 79 = .ok (.getfield 7, 3) := by decide +kernel
theorem dX12_does_82 : decode cX12_does 82 = .ok (.iload_n 1, 1) := by decide +kernel
theorem dX12_does_83 : decode cX12_does 83 = .ok (.iconst 3, 1) := by decide +kernel
theorem dX12_does_84 : decode cX12_does 84 = .ok (.iadd, 1) := by decide +kernel
theorem dX12_does_85 : decode cX12_does 85 = .ok (.iaload, 1) := by decide +kernel
theorem dX12_does_86 : decode cX12_does 86 = .ok (.invokevirtual 376, 3) := by decide +kernel
theorem dX12_does_89 : decode cX12_does 89 = .ok (.goto 184, 3) := by decide +kernel
theorem dX12_does_92 : decode cX12_does 92 = .ok (.iconst 0, 1) := by decide +kernel
theorem dX12_does_93 : decode cX12_does 93 = .ok (.istore_n 3, 1) := by decide +kernel
theorem dX12_does_94 : decode cX12_does 94 = .ok (.iload_n 3, 1) := by decide +kernel
theorem dX12_does_95 : decode cX12_does 95 = .ok (.aload_n 0, 1) := by decide +kernel
theorem dX12_does_96 : decode cX12_does 96 = .ok (.getfield 7, 3) := by decide +kernel
theorem dX12_does_99 : decode cX12_does 99 = .ok (.iconst 0, 1) := by decide +kernel
theorem dX12_does_100 : decode cX12_does 100 = .ok (.iaload, 1) := by decide +kernel
theorem dX12_does_101 : decode cX12_does 101 = .ok (.if_icmp .ge 19, 3) := by decide +kernel
theorem dX12_does_104 : decode cX12_does 104 = .ok (.aload_n 0, 1) := by decide +kernel
theorem dX12_does_105 : decode cX12_does 105 = .ok (.iload_n 3, 1) := by decide +kernel
theorem dX12_does_106 : decode cX12_does 106 = .ok (.aload_n 0, 1) := by decide +kernel
theorem dX12_does_107 : decode cX12_does 107 = .ok (.invokevirtual 402, 3) := by decide +kernel
theorem dX12_does_110 : decode cX12_does 110 = .ok (.iload_n 2, 1) := by decide +kernel
theorem dX12_does_111 : decode cX12_does 111 = .ok (.invokevirtual 376, 3) := by decide +kernel
theorem dX12_does_114 : decode cX12_does 114 = .ok (.iinc 3 1, 3) := by decide +kernel
theorem dX12_does_117 : decode cX12_does 117 = .ok (.goto (-23), 3) := by decide +kernel
theorem dX12_does_120 : decode cX12_does 120 = .ok (.goto 153, 3) := by decide +kernel
theorem dX12_does_123 : decode cX12_does 123 = .ok (.aload_n 0, 1) := by decide +kernel
theorem dX12_does_124 : decode cX12_does 124 = .ok (.iload_n 2, 1) := by decide +kernel
theorem dX12_does_125 : decode cX12_does 125 = .ok (.invokevirtual 328, 3) := by decide +kernel
theorem dX12_does_128 : decode cX12_does 128 = .ok (.aload_n 0, 1) := by decide +kernel
theorem dX12_does_129 : decode cX12_does 129 = .ok (.dup, 1) := by decide +kernel
theorem dX12_does_130 : decode cX12_does 130 = .ok (.getfield 405, 3) := by decide +kernel
theorem dX12_does_133 : decode cX12_does 133 = .ok (.iload_n 2, 1) := by decide +kernel
theorem dX12_does_134 : decode cX12_does 134 = .ok (.iadd, 1) := by decide +kernel
theorem dX12_does_135 : decode cX12_does 135 = .ok (.putfield 405, 3) := by decide +kernel
theorem dX12_does_138 : decode cX12_does 138 = .ok (.goto 135, 3) := by decide +kernel
theorem dX12_does_141 : decode cX12_does 141 = .ok (.aload_n 0, 1) := by decide +kernel
theorem dX12_does_142 : decode cX12_does 142 = .ok (.iload_n 2, 1) := by decide +kernel
theorem dX12_does_143 : decode cX12_does 143 = .ok (.invokevirtual 246, 3) := by decide +kernel
theorem dX12_does_146 : decode cX12_does 146 = .ok (.ifCond .eq 127, 3) := by decide +kernel
theorem dX12_does_149 : decode cX12_does 149 = .ok (.aload_n 0, 1) := by decide +kernel
theorem dX12_does_150 : decode cX12_does 150 = .ok (.getfield 7, 3) := by decide +kernel
theorem dX12_does_153 : decode cX12_does 153 = .ok (.sipush 2454, 3) := by decide +kernel
theorem dX12_does_156 : decode cX12_does 156 = .ok (.dup2, 1) := by decide +kernel
theorem dX12_does_157 : decode cX12_does 157 = .ok (.iaload, 1) := by decide +kernel
theorem dX12_does_158 : decode cX12_does 158 = .ok (.iconst 1, 1) := by decide +kernel
theorem dX12_does_159 : decode cX12_does 159 = .ok (.iload_n 2, 1) := by decide +kernel
theorem dX12_does_160 : decode cX12_does 160 = .ok (.ishl, 1) := by decide +kernel
theorem dX12_does_161 : decode cX12_does 161 = .ok (.ior, 1) := by decide +kernel
theorem dX12_does_162 : decode cX12_does 162 = .ok (.iastore, 1) := by decide +kernel
theorem dX12_does_163 : decode cX12_does 163 = .ok (.goto 110, 3) := by decide +kernel
theorem dX12_does_166 : decode cX12_does 166 = .ok (.aload_n 0, 1) := by decide +kernel
theorem dX12_does_167 : decode cX12_does 167 = .ok (.iload_n 2, 1) := by decide +kernel
theorem dX12_does_168 : decode cX12_does 168 = .ok (.invokevirtual 246, 3) := by decide +kernel
theorem dX12_does_171 : decode cX12_does 171 = .ok (.ifCond .eq 102, 3) := by decide +kernel
theorem dX12_does_174 : decode cX12_does 174 = .ok (.aload_n 0, 1) := by decide +kernel
theorem dX12_does_175 : decode cX12_does 175 = .ok (.getfield 7, 3) := by decide +kernel
theorem dX12_does_178 : decode cX12_does 178 = .ok (.sipush 2454, 3) := by decide +kernel
theorem dX12_does_181 : decode cX12_does 181 = .ok (.dup2, 1) := by decide +kernel
theorem dX12_does_182 : decode cX12_does 182 = .ok (.iaload, 1) := by decide +kernel
theorem dX12_does_183 : decode cX12_does 183 = .ok (.iconst 1, 1) := by decide +kernel
theorem dX12_does_184 : decode cX12_does 184 = .ok (.iload_n 2, 1) := by decide +kernel
theorem dX12_does_185 : decode cX12_does 185 = .ok (.ishl, 1) := by decide +kernel
theorem dX12_does_186 : decode cX12_does 186 = .ok (.iconst (-1), 1) := by decide +kernel
theorem dX12_does_187 : decode cX12_does 187 = .ok (.ixor, 1) := by decide +kernel
theorem dX12_does_188 : decode cX12_does 188 = .ok (.iand, 1) := by decide +kernel
theorem dX12_does_189 : decode cX12_does 189 = .ok (.iastore, 1) := by decide +kernel
theorem dX12_does_190 : decode cX12_does 190 = .ok (.goto 83, 3) := by decide +kernel
theorem dX12_does_193 : decode cX12_does 193 = .ok (.aload_n 0, 1) := by decide +kernel
theorem dX12_does_194 : decode cX12_does 194 = .ok (.iload_n 2, 1) := by decide +kernel
theorem dX12_does_195 : decode cX12_does 195 = .ok (.invokevirtual 243, 3) := by decide +kernel
theorem dX12_does_198 : decode cX12_does 198 = .ok (.ifCond .eq 75, 3) := by decide +kernel
theorem dX12_does_201 : decode cX12_does 201 = .ok (.aload_n 0, 1) := by decide +kernel
theorem dX12_does_202 : decode cX12_does 202 = .ok (.getfield 7, 3) := by decide +kernel
theorem dX12_does_205 : decode cX12_does 205 = .ok (.sipush 2455, 3) := by decide +kernel
theorem dX12_does_208 : decode cX12_does 208 = .ok (.dup2, 1) := by decide +kernel
theorem dX12_does_209 : decode cX12_does 209 = .ok (.iaload, 1) := by decide +kernel
theorem dX12_does_210 : decode cX12_does 210 = .ok (.iconst 1, 1) := by decide +kernel
theorem dX12_does_211 : decode cX12_does 211 = .ok (.iload_n 2, 1) := by decide +kernel
theorem dX12_does_212 : decode cX12_does 212 = .ok (.ishl, 1) := by decide +kernel
theorem dX12_does_213 : decode cX12_does 213 = .ok (.ior, 1) := by decide +kernel
theorem dX12_does_214 : decode cX12_does 214 = .ok (.iastore, 1) := by decide +kernel
theorem dX12_does_215 : decode cX12_does 215 = .ok (.goto 58, 3) := by decide +kernel
theorem dX12_does_218 : decode cX12_does 218 = .ok (.aload_n 0, 1) := by decide +kernel
theorem dX12_does_219 : decode cX12_does 219 = .ok (.iload_n 2, 1) := by decide +kernel
theorem dX12_does_220 : decode cX12_does 220 = .ok (.invokevirtual 243, 3) := by decide +kernel
theorem dX12_does_223 : decode cX12_does 223 = .ok (.ifCond .eq 50, 3) := by decide +kernel
theorem dX12_does_226 : decode cX12_does 226 = .ok (.aload_n 0, 1) := by decide +kernel
theorem dX12_does_227 : decode cX12_does 227 = .ok (.getfield 7, 3) := by decide +kernel
theorem dX12_does_230 : decode cX12_does 230 = .ok (.sipush 2455, 3) := by decide +kernel
theorem dX12_does_233 : decode cX12_does 233 = .ok (.dup2, 1) := by decide +kernel
theorem dX12_does_234 : decode cX12_does 234 = .ok (.iaload, 1) := by decide +kernel
theorem dX12_does_235 : decode cX12_does 235 = .ok (.iconst 1, 1) := by decide +kernel
theorem dX12_does_236 : decode cX12_does 236 = .ok (.iload_n 2, 1) := by decide +kernel
theorem dX12_does_237 : decode cX12_does 237 = .ok (.ishl, 1) := by decide +kernel
theorem dX12_does_238 : decode cX12_does 238 = .ok (.iconst (-1), 1) := by decide +kernel
theorem dX12_does_239 : decode cX12_does 239 = .ok (.ixor, 1) := by decide +kernel
theorem dX12_does_240 : decode cX12_does 240 = .ok (.iand, 1) := by decide +kernel
theorem dX12_does_241 : decode cX12_does 241 = .ok (.iastore, 1) := by decide +kernel
theorem dX12_does_242 : decode cX12_does 242 = .ok (.goto 31, 3) := by decide +kernel
theorem dX12_does_245 : decode cX12_does 245 = .ok (.aload_n 0, 1) := by decide +kernel
theorem dX12_does_246 : decode cX12_does 246 = .ok (.iload_n 2, 1) := by decide +kernel
theorem dX12_does_247 : decode cX12_does 247 = .ok (.invokevirtual 243, 3) := by decide +kernel
theorem dX12_does_250 : decode cX12_does 250 = .ok (.ifCond .eq 23, 3) := by decide +kernel
theorem dX12_does_253 : decode cX12_does 253 = .ok (.aload_n 0, 1) := by decide +kernel
theorem dX12_does_254 : decode cX12_does 254 = .ok (.aload_n 0, 1) := by decide +kernel
theorem dX12_does_255 : decode cX12_does 255 = .ok (.iload_n 2, 1) := by decide +kernel
theorem dX12_does_256 : decode cX12_does 256 = .ok (.aload_n 0, 1) := by decide +kernel
theorem dX12_does_257 : decode cX12_does 257 = .ok (.getfield 7, 3) := by decide +kernel
theorem dX12_does_260 : decode cX12_does 260 = .ok (.iload_n 1, 1) := by decide +kernel
theorem dX12_does_261 : decode cX12_does 261 = .ok (.iconst 2, 1) := by decide +kernel
theorem dX12_does_262 : decode cX12_does 262 = .ok (.iadd, 1) := by decide +kernel
theorem dX12_does_263 : decode cX12_does 263 = .ok (.iaload, 1) := by decide +kernel
theorem dX12_does_264 : decode cX12_does 264 = .ok (.invokevirtual 336, 3) := by decide +kernel
theorem dX12_does_267 : decode cX12_does 267 = .ok (.putfield 408, 3) := by decide +kernel
theorem dX12_does_270 : decode cX12_does 270 = .ok (.goto 3, 3) := by decide +kernel
theorem dX12_does_273 : decode cX12_does 273 = .ok (.return_, 1) := by decide +kernel
theorem dX12_holdsNow_0 : decode cX12_holdsNow 0 = .ok (.aload_n 0, 1) := by decide +kernel
theorem dX12_holdsNow_1 : decode cX12_holdsNow 1 = .ok (.getfield 7, 3) := by decide +kernel
theorem dX12_holdsNow_4 : decode cX12_holdsNow 4 = .ok (.iload_n 1, 1) := by decide +kernel
theorem dX12_holdsNow_5 : decode cX12_holdsNow 5 = .ok (.iconst 1, 1) := by decide +kernel
theorem dX12_holdsNow_6 : decode cX12_holdsNow 6 = .ok (.iadd, 1) := by decide +kernel
theorem dX12_holdsNow_7 : decode cX12_holdsNow 7 = .ok (.iaload, 1) := by decide +kernel
theorem dX12_holdsNow_8 : decode cX12_holdsNow 8 = .ok (.istore_n 2, 1) := by decide +kernel
theorem dX12_holdsNow_9 : decode cX12_holdsNow 9 = .ok (.aload_n 0, 1) := by decide +kernel
theorem dX12_holdsNow_10 : decode cX12_holdsNow 10 = .ok (.iload_n 2, 1) := by decide +kernel
theorem dX12_holdsNow_11 : decode cX12_holdsNow 11 = .ok (.invokevirtual 243, 3) := by decide +kernel
theorem dX12_holdsNow_14 : decode cX12_holdsNow 14 = .ok (.ifCond .ne 5, 3) := by decide +kernel
theorem dX12_holdsNow_17 : decode cX12_holdsNow 17 = .ok (.iconst 0, 1) := by decide +kernel
theorem dX12_holdsNow_18 : decode cX12_holdsNow 18 = .ok (.ireturn, 1) := by decide +kernel
theorem dX12_holdsNow_19 : decode cX12_holdsNow 19 = .ok (.aload_n 0, 1) := by decide +kernel
theorem dX12_holdsNow_20 : decode cX12_holdsNow 20 = .ok (.getfield 7, 3) := by decide +kernel
theorem dX12_holdsNow_23 : decode cX12_holdsNow 23 = .ok (.iload_n 1, 1) := by decide +kernel
theorem dX12_holdsNow_24 : decode cX12_holdsNow 24 = .ok (.iaload, 1) := by decide +kernel
theorem dX12_holdsNow_25 : decode cX12_holdsNow 25 = .ok (.sipush 1819, 3) := by decide +kernel
theorem dX12_holdsNow_28 : decode cX12_holdsNow 28 = .ok (.if_icmp .ne 9, 3) := by decide +kernel
theorem dX12_holdsNow_31 : decode cX12_holdsNow 31 = .ok (.aload_n 0, 1) := by decide +kernel
theorem dX12_holdsNow_32 : decode cX12_holdsNow 32 = .ok (.iload_n 2, 1) := by decide +kernel
theorem dX12_holdsNow_33 : decode cX12_holdsNow 33 = .ok (.invokevirtual 258, 3) := by decide +kernel
theorem dX12_holdsNow_36 : decode cX12_holdsNow 36 = .ok (.ireturn, 1) := by decide +kernel
theorem dX12_holdsNow_37 : decode cX12_holdsNow 37 = .ok (.aload_n 0, 1) := by decide +kernel
theorem dX12_holdsNow_38 : decode cX12_holdsNow 38 = .ok (.iload_n 2, 1) := by decide +kernel
theorem dX12_holdsNow_39 : decode cX12_holdsNow 39 = .ok (.iconst 3, 1) := by decide +kernel
theorem dX12_holdsNow_40 : decode cX12_holdsNow 40 = .ok (.invokevirtual 249, 3) := by decide +kernel
theorem dX12_holdsNow_43 : decode cX12_holdsNow 43 = .ok (.istore_n 3, 1) := by decide +kernel
theorem dX12_holdsNow_44 : decode cX12_holdsNow 44 = .ok (.aload_n 0, 1) := by decide +kernel
theorem dX12_holdsNow_45 : decode cX12_holdsNow 45 = .ok (.getfield 7, 3) := by decide +kernel
theorem dX12_holdsNow_48 : decode cX12_holdsNow 48 = .ok (.iload_n 1, 1) := by decide +kernel
theorem dX12_holdsNow_49 : decode cX12_holdsNow 49 = .ok (.iconst 5, 1) := by decide +kernel
theorem dX12_holdsNow_50 : decode cX12_holdsNow 50 = .ok (.iadd, 1) := by decide +kernel
theorem dX12_holdsNow_51 : decode cX12_holdsNow 51 = .ok (.iaload, 1) := by decide +kernel
theorem dX12_holdsNow_52 : decode cX12_holdsNow 52 = .ok (.bipush 60, 2) := by decide +kernel
theorem dX12_holdsNow_54 : decode cX12_holdsNow 54 = .ok (.if_icmp .ne 23, 3) := by decide +kernel
theorem dX12_holdsNow_57 : decode cX12_holdsNow 57 = .ok (.iload_n 3, 1) := by decide +kernel
theorem dX12_holdsNow_58 : decode cX12_holdsNow 58 = .ok (.aload_n 0, 1) := by decide +kernel
theorem dX12_holdsNow_59 : decode cX12_holdsNow 59 = .ok (.getfield 7, 3) := by decide +kernel
theorem dX12_holdsNow_62 : decode cX12_holdsNow 62 = .ok (.iload_n 1, 1) := by decide +kernel
theorem dX12_holdsNow_63 : decode cX12_holdsNow 63 = .ok (.iconst 2, 1) := by decide +kernel
theorem dX12_holdsNow_64 : decode cX12_holdsNow 64 = .ok (.iadd, 1) := by decide +kernel
theorem dX12_holdsNow_65 : decode cX12_holdsNow 65 = .ok (.iaload, 1) := by decide +kernel
theorem dX12_holdsNow_66 : decode cX12_holdsNow 66 = .ok (.if_icmp .ge 7, 3) := by decide +kernel
theorem dX12_holdsNow_69 : decode cX12_holdsNow 69 = .ok (.iconst 1, 1) := by decide +kernel
theorem dX12_holdsNow_70 : decode cX12_holdsNow 70 = .ok (.goto 57, 3) := by decide +kernel
theorem dX12_holdsNow_73 : decode cX12_holdsNow 73 = .ok (.iconst 0, 1) := by decide +kernel
theorem dX12_holdsNow_74 : decode cX12_holdsNow 74 = .ok (.goto 53, 3) := by decide +kernel
theorem dX12_holdsNow_77 : decode cX12_holdsNow 77 = .ok (.aload_n 0, 1) := by decide +kernel
theorem dX12_holdsNow_78 : decode cX12_holdsNow 78 = .ok (.getfield 7, 3) := by decide +kernel
theorem dX12_holdsNow_81 : decode cX12_holdsNow 81 = .ok (.iload_n 1, 1) := by decide +kernel
theorem dX12_holdsNow_82 : decode cX12_holdsNow 82 = .ok (.iconst 5, 1) := by decide +kernel
theorem dX12_holdsNow_83 : decode cX12_holdsNow 83 = .ok (.iadd, 1) := by decide +kernel
theorem dX12_holdsNow_84 : decode cX12_holdsNow 84 = .ok (.iaload, 1) := by decide +kernel
theorem dX12_holdsNow_85 : decode cX12_holdsNow 85 = .ok (.bipush 62, 2) := by decide +kernel
theorem dX12_holdsNow_87 : decode cX12_holdsNow 87 = .ok (.if_icmp .ne 23, 3) := by decide +kernel
theorem dX12_holdsNow_90 : decode cX12_holdsNow 90 = .ok (.iload_n 3, 1) := by decide +kernel
theorem dX12_holdsNow_91 : decode cX12_holdsNow 91 = .ok (.aload_n 0, 1) := by decide +kernel
theorem dX12_holdsNow_92 : decode cX12_holdsNow 92 = .ok (.getfield 7, 3) := by decide +kernel
theorem dX12_holdsNow_95 : decode cX12_holdsNow 95 = .ok (.iload_n 1, 1) := by decide +kernel
theorem dX12_holdsNow_96 : decode cX12_holdsNow 96 = .ok (.iconst 2, 1) := by decide +kernel
theorem dX12_holdsNow_97 : decode cX12_holdsNow 97 = .ok (.iadd, 1) := by decide +kernel
theorem dX12_holdsNow_98 : decode cX12_holdsNow 98 = .ok (.iaload, 1) := by decide +kernel
theorem dX12_holdsNow_99 : decode cX12_holdsNow 99 = .ok (.if_icmp .le 7, 3) := by decide +kernel
theorem dX12_holdsNow_102 : decode cX12_holdsNow 102 = .ok (.iconst 1, 1) := by decide +kernel
theorem dX12_holdsNow_103 : decode cX12_holdsNow 103 = .ok (.goto 24, 3) := by decide +kernel
theorem dX12_holdsNow_106 : decode cX12_holdsNow 106 = .ok (.iconst 0, 1) := by decide +kernel
theorem dX12_holdsNow_107 : decode cX12_holdsNow 107 = .ok (.goto 20, 3) := by decide +kernel
theorem dX12_holdsNow_110 : decode cX12_holdsNow 110 = .ok (.iload_n 3, 1) := by decide +kernel
theorem dX12_holdsNow_111 : decode cX12_holdsNow 111 = .ok (.aload_n 0, 1) := by decide +kernel
theorem dX12_holdsNow_112 : decode cX12_holdsNow 112 = .ok (.getfield 7, 3) := by decide +kernel
theorem dX12_holdsNow_115 : decode cX12_holdsNow 115 = .ok (.iload_n 1, 1) := by decide +kernel
theorem dX12_holdsNow_116 : decode cX12_holdsNow 116 = .ok (.iconst 2, 1) := by decide +kernel
theorem dX12_holdsNow_117 : decode cX12_holdsNow 117 = .ok (.iadd, 1) := by decide +kernel
theorem dX12_holdsNow_118 : decode cX12_holdsNow 118 = .ok (.iaload, 1) := by decide +kernel
theorem dX12_holdsNow_119 : decode cX12_holdsNow 119 = .ok (.if_icmp .ne 7, 3) := by decide +kernel
theorem dX12_holdsNow_122 : decode cX12_holdsNow 122 = .ok (.iconst 1, 1) := by decide +kernel
theorem dX12_holdsNow_123 : decode cX12_holdsNow 123 = .ok (.goto 4, 3) := by decide +kernel
theorem dX12_holdsNow_126 : decode cX12_holdsNow 126 = .ok (.iconst 0, 1) := by decide +kernel
theorem dX12_holdsNow_127 : decode cX12_holdsNow 127 = .ok (.ireturn, 1) := by decide +kernel
theorem dX12_behindEnds_0 : decode cX12_behindEnds 0 = .ok (.iload_n 1, 1) := by decide +kernel
theorem dX12_behindEnds_1 : decode cX12_behindEnds 1 = .ok (.istore_n 2, 1) := by decide +kernel
theorem dX12_behindEnds_2 : decode cX12_behindEnds 2 = .ok (.iload_n 2, 1) := by decide +kernel
theorem dX12_behindEnds_3 : decode cX12_behindEnds 3 = .ok (.aload_n 0, 1) := by decide +kernel
theorem dX12_behindEnds_4 : decode cX12_behindEnds 4 = .ok (.getfield 7, 3) := by decide +kernel
theorem dX12_behindEnds_7 : decode cX12_behindEnds 7 = .ok (.bipush 6, 2) := by decide +kernel
theorem dX12_behindEnds_9 : decode cX12_behindEnds 9 = .ok (.iaload, 1) := by decide +kernel
theorem dX12_behindEnds_10 : decode cX12_behindEnds 10 = .ok (.if_icmp .ge 105, 3) := by decide +kernel
theorem dX12_behindEnds_13 : decode cX12_behindEnds 13 = .ok (.aload_n 0, 1) := by decide +kernel
theorem dX12_behindEnds_14 : decode cX12_behindEnds 14 = .ok (.getfield 7, 3) := by decide +kernel
theorem dX12_behindEnds_17 : decode cX12_behindEnds 17 = .ok (.bipush 120, 2) := by decide +kernel
theorem dX12_behindEnds_19 : decode cX12_behindEnds 19 = .ok (.bipush 6, 2) := by decide +kernel
theorem dX12_behindEnds_21 : decode cX12_behindEnds 21 = .ok (.iload_n 2, 1) := by decide +kernel
theorem dX12_behindEnds_22 : decode cX12_behindEnds 22 = .ok (.imul, 1) := by decide +kernel
theorem dX12_behindEnds_23 : decode cX12_behindEnds 23 = .ok (.iadd, 1) := by decide +kernel
theorem dX12_behindEnds_24 : decode cX12_behindEnds 24 = .ok (.iaload, 1) := by decide +kernel
theorem dX12_behindEnds_25 : decode cX12_behindEnds 25 = .ok (.bipush 21, 2) := by decide +kernel
theorem dX12_behindEnds_27 : decode cX12_behindEnds 27 = .ok (.if_icmp .ne 88, 3) := by decide +kernel
theorem dX12_behindEnds_30 : decode cX12_behindEnds 30 = .ok (.aload_n 0, 1) := by decide +kernel
theorem dX12_behindEnds_31 : decode cX12_behindEnds 31 = .ok (.getfield 7, 3) := by decide +kernel
theorem dX12_behindEnds_34 : decode cX12_behindEnds 34 = .ok (.bipush 120, 2) := by decide +kernel
theorem dX12_behindEnds_36 : decode cX12_behindEnds 36 = .ok (.bipush 6, 2) := by decide +kernel
theorem dX12_behindEnds_38 : decode cX12_behindEnds 38 = .ok (.iload_n 2, 1) := by decide +kernel
theorem dX12_behindEnds_39 : decode cX12_behindEnds 39 = .ok (.imul, 1) := by decide +kernel
theorem dX12_behindEnds_40 : decode cX12_behindEnds 40 = .ok (.iadd, 1) := by decide +kernel
theorem dX12_behindEnds_41 : decode cX12_behindEnds 41 = .ok (.iconst 4, 1) := by decide +kernel
theorem dX12_behindEnds_42 : decode cX12_behindEnds 42 = .ok (.iadd, 1) := by decide +kernel
theorem dX12_behindEnds_43 : decode cX12_behindEnds 43 = .ok (.iaload, 1) := by decide +kernel
theorem dX12_behindEnds_44 : decode cX12_behindEnds 44 = .ok (.istore_n 3, 1) := by decide +kernel
theorem dX12_behindEnds_45 : decode cX12_behindEnds 45 = .ok (.aload_n 0, 1) := by decide +kernel
theorem dX12_behindEnds_46 : decode cX12_behindEnds 46 = .ok (.getfield 7, 3) := by decide +kernel
theorem dX12_behindEnds_49 : decode cX12_behindEnds 49 = .ok (.bipush 120, 2) := by decide +kernel
theorem dX12_behindEnds_51 : decode cX12_behindEnds 51 = .ok (.bipush 6, 2) := by decide +kernel
theorem dX12_behindEnds_53 : decode cX12_behindEnds 53 = .ok (.iload_n 3, 1) := by decide +kernel
theorem dX12_behindEnds_54 : decode cX12_behindEnds 54 = .ok (.imul, 1) := by decide +kernel
theorem dX12_behindEnds_55 : decode cX12_behindEnds 55 = .ok (.iadd, 1) := by decide +kernel
theorem dX12_behindEnds_56 : decode cX12_behindEnds 56 = .ok (.iaload, 1) := by decide +kernel
theorem dX12_behindEnds_57 : decode cX12_behindEnds 57 = .ok (.bipush 20, 2) := by decide +kernel
theorem dX12_behindEnds_59 : decode cX12_behindEnds 59 = .ok (.if_icmp .ne 16, 3) := by decide +kernel
theorem dX12_behindEnds_62 : decode cX12_behindEnds 62 = .ok (.aload_n 0, 1) := by decide +kernel
theorem dX12_behindEnds_63 : decode cX12_behindEnds 63 = .ok (.getfield 65, 3) := by decide +kernel
theorem dX12_behindEnds_66 : decode cX12_behindEnds 66 = .ok (.iload_n 3, 1) := by decide +kernel
theorem dX12_behindEnds_67 : decode cX12_behindEnds 67 = .ok (.iaload, 1) := by decide +kernel
theorem dX12_behindEnds_68 : decode cX12_behindEnds 68 = .ok (.ifCond .le 7, 3) := by decide +kernel
theorem dX12_behindEnds_71 : decode cX12_behindEnds 71 = .ok (.iconst 1, 1) := by decide +kernel
theorem dX12_behindEnds_72 : decode cX12_behindEnds 72 = .ok (.goto 4, 3) := by decide +kernel
theorem dX12_behindEnds_75 : decode cX12_behindEnds 75 = .ok (.iconst 0, 1) := by decide +kernel
theorem dX12_behindEnds_76 : decode cX12_behindEnds 76 = .ok (.istore 4, 2) := by decide +kernel
theorem dX12_behindEnds_78 : decode cX12_behindEnds 78 = .ok (.aload_n 0, 1) := by decide +kernel
theorem dX12_behindEnds_79 : decode cX12_behindEnds 79 = .ok (.getfield 65, 3) := by decide +kernel
theorem dX12_behindEnds_82 : decode cX12_behindEnds 82 = .ok (.iload_n 3, 1) := by decide +kernel
theorem dX12_behindEnds_83 : decode cX12_behindEnds 83 = .ok (.dup2, 1) := by decide +kernel
theorem dX12_behindEnds_84 : decode cX12_behindEnds 84 = .ok (.iaload, 1) := by decide +kernel
theorem dX12_behindEnds_85 : decode cX12_behindEnds 85 = .ok (.iload 4, 2) := by decide +kernel
theorem dX12_behindEnds_87 : decode cX12_behindEnds 87 = .ok (.ifCond .eq 7, 3) := by decide +kernel
theorem dX12_behindEnds_90 : decode cX12_behindEnds 90 = .ok (.iconst 1, 1) := by decide +kernel
theorem dX12_behindEnds_91 : decode cX12_behindEnds 91 = .ok (.goto 4, 3) := by decide +kernel
theorem dX12_behindEnds_94 : decode cX12_behindEnds 94 = .ok (.iconst 0, 1) := by decide +kernel
theorem dX12_behindEnds_95 : decode cX12_behindEnds 95 = .ok (.isub, 1) := by decide +kernel
theorem dX12_behindEnds_96 : decode cX12_behindEnds 96 = .ok (.iastore, 1) := by decide +kernel
theorem dX12_behindEnds_97 : decode cX12_behindEnds 97 = .ok (.iload 4, 2) := by decide +kernel
theorem dX12_behindEnds_99 : decode cX12_behindEnds 99 = .ok (.ifCond .eq 9, 3) := by decide +kernel
theorem dX12_behindEnds_102 : decode cX12_behindEnds 102 = .ok (.iload_n 3, 1) := by decide +kernel
theorem dX12_behindEnds_103 : decode cX12_behindEnds 103 = .ok (.iconst 1, 1) := by decide +kernel
theorem dX12_behindEnds_104 : decode cX12_behindEnds 104 = .ok (.iadd, 1) := by decide +kernel
theorem dX12_behindEnds_105 : decode cX12_behindEnds 105 = .ok (.goto 6, 3) := by decide +kernel
theorem dX12_behindEnds_108 : decode cX12_behindEnds 108 = .ok (.iload_n 2, 1) := by decide +kernel
theorem dX12_behindEnds_109 : decode cX12_behindEnds 109 = .ok (.iconst 1, 1) := by decide +kernel
theorem dX12_behindEnds_110 : decode cX12_behindEnds 110 = .ok (.iadd, 1) := by decide +kernel
theorem dX12_behindEnds_111 : decode cX12_behindEnds 111 = .ok (.istore_n 2, 1) := by decide +kernel
theorem dX12_behindEnds_112 : decode cX12_behindEnds 112 = .ok (.goto (-110), 3) := by decide +kernel
theorem dX12_behindEnds_115 : decode cX12_behindEnds 115 = .ok (.iload_n 2, 1) := by decide +kernel
theorem dX12_behindEnds_116 : decode cX12_behindEnds 116 = .ok (.ireturn, 1) := by decide +kernel
theorem dX12_runs_0 : decode cX12_runs 0 = .ok (.aload_n 0, 1) := by decide +kernel
theorem dX12_runs_1 : decode cX12_runs 1 = .ok (.invokevirtual 325, 3) := by decide +kernel
theorem dX12_runs_4 : decode cX12_runs 4 = .ok (.aload_n 0, 1) := by decide +kernel
theorem dX12_runs_5 : decode cX12_runs 5 = .ok (.iload_n 1, 1) := by decide +kernel
theorem dX12_runs_6 : decode cX12_runs 6 = .ok (.putfield 398, 3) := by decide +kernel
theorem dX12_runs_9 : decode cX12_runs 9 = .ok (.aload_n 0, 1) := by decide +kernel
theorem dX12_runs_10 : decode cX12_runs 10 = .ok (.iconst 0, 1) := by decide +kernel
theorem dX12_runs_11 : decode cX12_runs 11 = .ok (.putfield 411, 3) := by decide +kernel
theorem dX12_runs_14 : decode cX12_runs 14 = .ok (.aload_n 0, 1) := by decide +kernel
theorem dX12_runs_15 : decode cX12_runs 15 = .ok (.iconst 0, 1) := by decide +kernel
theorem dX12_runs_16 : decode cX12_runs 16 = .ok (.putfield 405, 3) := by decide +kernel
theorem dX12_runs_19 : decode cX12_runs 19 = .ok (.aload_n 0, 1) := by decide +kernel
theorem dX12_runs_20 : decode cX12_runs 20 = .ok (.iconst 0, 1) := by decide +kernel
theorem dX12_runs_21 : decode cX12_runs 21 = .ok (.putfield 414, 3) := by decide +kernel
theorem dX12_runs_24 : decode cX12_runs 24 = .ok (.iconst 0, 1) := by decide +kernel
theorem dX12_runs_25 : decode cX12_runs 25 = .ok (.istore_n 2, 1) := by decide +kernel
theorem dX12_runs_26 : decode cX12_runs 26 = .ok (.iload_n 2, 1) := by decide +kernel
theorem dX12_runs_27 : decode cX12_runs 27 = .ok (.aload_n 0, 1) := by decide +kernel
theorem dX12_runs_28 : decode cX12_runs 28 = .ok (.getfield 7, 3) := by decide +kernel
theorem dX12_runs_31 : decode cX12_runs 31 = .ok (.bipush 6, 2) := by decide +kernel
theorem dX12_runs_33 : decode cX12_runs 33 = .ok (.iaload, 1) := by decide +kernel
theorem dX12_runs_34 : decode cX12_runs 34 = .ok (.if_icmp .ge 125, 3) := by decide +kernel
theorem dX12_runs_37 : decode cX12_runs 37 = .ok (.aload_n 0, 1) := by decide +kernel
theorem dX12_runs_38 : decode cX12_runs 38 = .ok (.getfield 411, 3) := by decide +kernel
theorem dX12_runs_41 : decode cX12_runs 41 = .ok (.sipush 400, 3) := by decide +kernel
theorem dX12_runs_44 : decode cX12_runs 44 = .ok (.if_icmp .ne 9, 3) := by decide +kernel
theorem dX12_runs_47 : decode cX12_runs 47 = .ok (.aload_n 0, 1) := by decide +kernel
theorem dX12_runs_48 : decode cX12_runs 48 = .ok (.iconst 1, 1) := by decide +kernel
theorem dX12_runs_49 : decode cX12_runs 49 = .ok (.putfield 414, 3) := by decide +kernel
theorem dX12_runs_52 : decode cX12_runs 52 = .ok (.return_, 1) := by decide +kernel
theorem dX12_runs_53 : decode cX12_runs 53 = .ok (.bipush 120, 2) := by decide +kernel
theorem dX12_runs_55 : decode cX12_runs 55 = .ok (.bipush 6, 2) := by decide +kernel
theorem dX12_runs_57 : decode cX12_runs 57 = .ok (.iload_n 2, 1) := by decide +kernel
theorem dX12_runs_58 : decode cX12_runs 58 = .ok (.imul, 1) := by decide +kernel
theorem dX12_runs_59 : decode cX12_runs 59 = .ok (.iadd, 1) := by decide +kernel
theorem dX12_runs_60 : decode cX12_runs 60 = .ok (.istore_n 3, 1) := by decide +kernel
theorem dX12_runs_61 : decode cX12_runs 61 = .ok (.aload_n 0, 1) := by decide +kernel
theorem dX12_runs_62 : decode cX12_runs 62 = .ok (.dup, 1) := by decide +kernel
theorem dX12_runs_63 : decode cX12_runs 63 = .ok (.getfield 411, 3) := by decide +kernel
theorem dX12_runs_66 : decode cX12_runs 66 = .ok (.iconst 1, 1) := by decide +kernel
theorem dX12_runs_67 : decode cX12_runs 67 = .ok (.iadd, 1) := by decide +kernel
theorem dX12_runs_68 : decode cX12_runs 68 = .ok (.putfield 411, 3) := by decide +kernel
theorem dX12_runs_71 : decode cX12_runs 71 = .ok (.aload_n 0, 1) := by decide +kernel
theorem dX12_runs_72 : decode cX12_runs 72 = .ok (.getfield 7, 3) := by decide +kernel
theorem dX12_runs_75 : decode cX12_runs 75 = .ok (.iload_n 3, 1) := by decide +kernel
theorem dX12_runs_76 : decode cX12_runs 76 = .ok (.iaload, 1) := by decide +kernel
theorem dX12_runs_77 : decode cX12_runs 77 = .ok (.bipush 22, 2) := by decide +kernel
theorem dX12_runs_79 : decode cX12_runs 79 = .ok (.if_icmp .ne 4, 3) := by decide +kernel
theorem dX12_runs_82 : decode cX12_runs 82 = .ok (.return_, 1) := by decide +kernel
theorem dX12_runs_83 : decode cX12_runs 83 = .ok (.aload_n 0, 1) := by decide +kernel
theorem dX12_runs_84 : decode cX12_runs 84 = .ok (.iload_n 3, 1) := by decide +kernel
theorem dX12_runs_85 : decode cX12_runs 85 = .ok (.invokevirtual 417, 3) := by decide +kernel
theorem dX12_runs_88 : decode cX12_runs 88 = .ok (.aload_n 0, 1) := by decide +kernel
theorem dX12_runs_89 : decode cX12_runs 89 = .ok (.getfield 7, 3) := by decide +kernel
theorem dX12_runs_92 : decode cX12_runs 92 = .ok (.iload_n 3, 1) := by decide +kernel
theorem dX12_runs_93 : decode cX12_runs 93 = .ok (.iaload, 1) := by decide +kernel
theorem dX12_runs_94 : decode cX12_runs 94 = .ok (.bipush 20, 2) := by decide +kernel
theorem dX12_runs_96 : decode cX12_runs 96 = .ok (.if_icmp .ne 19, 3) := by decide +kernel
theorem dX12_runs_99 : decode cX12_runs 99 = .ok (.aload_n 0, 1) := by decide +kernel
theorem dX12_runs_100 : decode cX12_runs 100 = .ok (.getfield 65, 3) := by decide +kernel
theorem dX12_runs_103 : decode cX12_runs 103 = .ok (.iload_n 2, 1) := by decide +kernel
theorem dX12_runs_104 : decode cX12_runs 104 = .ok (.aload_n 0, 1) := by decide +kernel
theorem dX12_runs_105 : decode cX12_runs 105 = .ok (.getfield 7, 3) := by decide +kernel
theorem dX12_runs_108 : decode cX12_runs 108 = .ok (.iload_n 3, 1) := by decide +kernel
theorem dX12_runs_109 : decode cX12_runs 109 = .ok (.iconst 1, 1) := by decide +kernel
theorem dX12_runs_110 : decode cX12_runs 110 = .ok (.iadd, 1) := by decide +kernel
theorem dX12_runs_111 : decode cX12_runs 111 = .ok (.iaload, 1) := by decide +kernel
theorem dX12_runs_112 : decode cX12_runs 112 = .ok (.iconst 1, 1) := by decide +kernel
theorem dX12_runs_113 : decode cX12_runs 113 = .ok (.isub, 1) := by decide +kernel
theorem dX12_runs_114 : decode cX12_runs 114 = .ok (.iastore, 1) := by decide +kernel
theorem dX12_runs_115 : decode cX12_runs 115 = .ok (.aload_n 0, 1) := by decide +kernel
theorem dX12_runs_116 : decode cX12_runs 116 = .ok (.aload_n 0, 1) := by decide +kernel
theorem dX12_runs_117 : decode cX12_runs 117 = .ok (.getfield 7, 3) := by decide +kernel
theorem dX12_runs_120 : decode cX12_runs 120 = .ok (.iload_n 3, 1) := by decide +kernel
theorem dX12_runs_121 : decode cX12_runs 121 = .ok (.iaload, 1) := by decide +kernel
theorem dX12_runs_122 : decode cX12_runs 122 = .ok (.sipush 1800, 3) := by decide +kernel
theorem dX12_runs_125 : decode cX12_runs 125 = .ok (.if_icmp .lt 24, 3) := by decide +kernel
theorem dX12_runs_128 : decode cX12_runs 128 = .ok (.aload_n 0, 1) := by decide +kernel
theorem dX12_runs_129 : decode cX12_runs 129 = .ok (.iload_n 3, 1) := by decide +kernel
theorem dX12_runs_130 : decode cX12_runs 130 = .ok (.invokevirtual 420, 3) := by decide +kernel
theorem dX12_runs_133 : decode cX12_runs 133 = .ok (.ifCond .ne 16, 3) := by decide +kernel
theorem dX12_runs_136 : decode cX12_runs 136 = .ok (.aload_n 0, 1) := by decide +kernel
theorem dX12_runs_137 : decode cX12_runs 137 = .ok (.getfield 7, 3) := by decide +kernel
theorem dX12_runs_140 : decode cX12_runs 140 = .ok (.iload_n 3, 1) := by decide +kernel
theorem dX12_runs_141 : decode cX12_runs 141 = .ok (.iconst 4, 1) := by decide +kernel
theorem dX12_runs_142 : decode cX12_runs 142 = .ok (.iadd, 1) := by decide +kernel
theorem dX12_runs_143 : decode cX12_runs 143 = .ok (.iaload, 1) := by decide +kernel
theorem dX12_runs_144 : decode cX12_runs 144 = .ok (.iconst 1, 1) := by decide +kernel
theorem dX12_runs_145 : decode cX12_runs 145 = .ok (.iadd, 1) := by decide +kernel
theorem dX12_runs_146 : decode cX12_runs 146 = .ok (.goto 6, 3) := by decide +kernel
theorem dX12_runs_149 : decode cX12_runs 149 = .ok (.iload_n 2, 1) := by decide +kernel
theorem dX12_runs_150 : decode cX12_runs 150 = .ok (.iconst 1, 1) := by decide +kernel
theorem dX12_runs_151 : decode cX12_runs 151 = .ok (.iadd, 1) := by decide +kernel
theorem dX12_runs_152 : decode cX12_runs 152 = .ok (.invokevirtual 423, 3) := by decide +kernel
theorem dX12_runs_155 : decode cX12_runs 155 = .ok (.istore_n 2, 1) := by decide +kernel
theorem dX12_runs_156 : decode cX12_runs 156 = .ok (.goto (-130), 3) := by decide +kernel
theorem dX12_runs_159 : decode cX12_runs 159 = .ok (.return_, 1) := by decide +kernel
theorem dX12_run_0 : decode cX12_run 0 = .ok (.iload_n 1, 1) := by decide +kernel
theorem dX12_run_1 : decode cX12_run 1 = .ok (.i2l, 1) := by decide +kernel
theorem dX12_run_2 : decode cX12_run 2 = .ok (.lconst 0, 1) := by decide +kernel
theorem dX12_run_3 : decode cX12_run 3 = .ok (.ldc2_w 426, 3) := by decide +kernel
theorem dX12_run_6 : decode cX12_run 6 = .ok (.invokestatic 321, 3) := by decide +kernel
theorem dX12_run_9 : decode cX12_run 9 = .ok (.ifCond .ne 9, 3) := by decide +kernel
theorem dX12_run_12 : decode cX12_run 12 = .ok (.aload_n 0, 1) := by decide +kernel
theorem dX12_run_13 : decode cX12_run 13 = .ok (.iconst 1, 1) := by decide +kernel
theorem dX12_run_14 : decode cX12_run 14 = .ok (.invokevirtual 83, 3) := by decide +kernel
theorem dX12_run_17 : decode cX12_run 17 = .ok (.ireturn, 1) := by decide +kernel
theorem dX12_run_18 : decode cX12_run 18 = .ok (.aload_n 0, 1) := by decide +kernel
theorem dX12_run_19 : decode cX12_run 19 = .ok (.getfield 7, 3) := by decide +kernel
theorem dX12_run_22 : decode cX12_run 22 = .ok (.bipush 6, 2) := by decide +kernel
theorem dX12_run_24 : decode cX12_run 24 = .ok (.iaload, 1) := by decide +kernel
theorem dX12_run_25 : decode cX12_run 25 = .ok (.iconst (-1), 1) := by decide +kernel
theorem dX12_run_26 : decode cX12_run 26 = .ok (.if_icmp .ne 10, 3) := by decide +kernel
theorem dX12_run_29 : decode cX12_run 29 = .ok (.aload_n 0, 1) := by decide +kernel
theorem dX12_run_30 : decode cX12_run 30 = .ok (.bipush 6, 2) := by decide +kernel
theorem dX12_run_32 : decode cX12_run 32 = .ok (.invokevirtual 83, 3) := by decide +kernel
theorem dX12_run_35 : decode cX12_run 35 = .ok (.ireturn, 1) := by decide +kernel
theorem dX12_run_36 : decode cX12_run 36 = .ok (.aload_n 0, 1) := by decide +kernel
theorem dX12_run_37 : decode cX12_run 37 = .ok (.iload_n 1, 1) := by decide +kernel
theorem dX12_run_38 : decode cX12_run 38 = .ok (.invokevirtual 428, 3) := by decide +kernel
theorem dX12_run_41 : decode cX12_run 41 = .ok (.aload_n 0, 1) := by decide +kernel
theorem dX12_run_42 : decode cX12_run 42 = .ok (.getfield 68, 3) := by decide +kernel
theorem dX12_run_45 : decode cX12_run 45 = .ok (.iconst 0, 1) := by decide +kernel
theorem dX12_run_46 : decode cX12_run 46 = .ok (.aload_n 0, 1) := by decide +kernel
theorem dX12_run_47 : decode cX12_run 47 = .ok (.getfield 405, 3) := by decide +kernel
theorem dX12_run_50 : decode cX12_run 50 = .ok (.iastore, 1) := by decide +kernel
theorem dX12_run_51 : decode cX12_run 51 = .ok (.aload_n 0, 1) := by decide +kernel
theorem dX12_run_52 : decode cX12_run 52 = .ok (.getfield 68, 3) := by decide +kernel
theorem dX12_run_55 : decode cX12_run 55 = .ok (.iconst 1, 1) := by decide +kernel
theorem dX12_run_56 : decode cX12_run 56 = .ok (.aload_n 0, 1) := by decide +kernel
theorem dX12_run_57 : decode cX12_run 57 = .ok (.getfield 282, 3) := by decide +kernel
theorem dX12_run_60 : decode cX12_run 60 = .ok (.iastore, 1) := by decide +kernel
theorem dX12_run_61 : decode cX12_run 61 = .ok (.aload_n 0, 1) := by decide +kernel
theorem dX12_run_62 : decode cX12_run 62 = .ok (.getfield 68, 3) := by decide +kernel
theorem dX12_run_65 : decode cX12_run 65 = .ok (.iconst 2, 1) := by decide +kernel
theorem dX12_run_66 : decode cX12_run 66 = .ok (.aload_n 0, 1) := by decide +kernel
theorem dX12_run_67 : decode cX12_run 67 = .ok (.getfield 285, 3) := by decide +kernel
theorem dX12_run_70 : decode cX12_run 70 = .ok (.iastore, 1) := by decide +kernel
theorem dX12_run_71 : decode cX12_run 71 = .ok (.aload_n 0, 1) := by decide +kernel
theorem dX12_run_72 : decode cX12_run 72 = .ok (.getfield 68, 3) := by decide +kernel
theorem dX12_run_75 : decode cX12_run 75 = .ok (.iconst 3, 1) := by decide +kernel
theorem dX12_run_76 : decode cX12_run 76 = .ok (.aload_n 0, 1) := by decide +kernel
theorem dX12_run_77 : decode cX12_run 77 = .ok (.invokevirtual 358, 3) := by decide +kernel
theorem dX12_run_80 : decode cX12_run 80 = .ok (.iastore, 1) := by decide +kernel
theorem dX12_run_81 : decode cX12_run 81 = .ok (.aload_n 0, 1) := by decide +kernel
theorem dX12_run_82 : decode cX12_run 82 = .ok (.getfield 68, 3) := by decide +kernel
theorem dX12_run_85 : decode cX12_run 85 = .ok (.iconst 4, 1) := by decide +kernel
theorem dX12_run_86 : decode cX12_run 86 = .ok (.aload_n 0, 1) := by decide +kernel
theorem dX12_run_87 : decode cX12_run 87 = .ok (.getfield 414, 3) := by decide +kernel
theorem dX12_run_90 : decode cX12_run 90 = .ok (.iastore, 1) := by decide +kernel
theorem dX12_run_91 : decode cX12_run 91 = .ok (.aload_n 0, 1) := by decide +kernel
theorem dX12_run_92 : decode cX12_run 92 = .ok (.aload_n 0, 1) := by decide +kernel
theorem dX12_run_93 : decode cX12_run 93 = .ok (.getfield 7, 3) := by decide +kernel
theorem dX12_run_96 : decode cX12_run 96 = .ok (.iconst 1, 1) := by decide +kernel
theorem dX12_run_97 : decode cX12_run 97 = .ok (.iaload, 1) := by decide +kernel
theorem dX12_run_98 : decode cX12_run 98 = .ok (.putfield 74, 3) := by decide +kernel
theorem dX12_run_101 : decode cX12_run 101 = .ok (.iconst 0, 1) := by decide +kernel
theorem dX12_run_102 : decode cX12_run 102 = .ok (.istore_n 2, 1) := by decide +kernel
theorem dX12_run_103 : decode cX12_run 103 = .ok (.iload_n 2, 1) := by decide +kernel
theorem dX12_run_104 : decode cX12_run 104 = .ok (.bipush 8, 2) := by decide +kernel
theorem dX12_run_106 : decode cX12_run 106 = .ok (.if_icmp .ge 21, 3) := by decide +kernel
theorem dX12_run_109 : decode cX12_run 109 = .ok (.aload_n 0, 1) := by decide +kernel
theorem dX12_run_110 : decode cX12_run 110 = .ok (.getfield 71, 3) := by decide +kernel
theorem dX12_run_113 : decode cX12_run 113 = .ok (.iload_n 2, 1) := by decide +kernel
theorem dX12_run_114 : decode cX12_run 114 = .ok (.aload_n 0, 1) := by decide +kernel
theorem dX12_run_115 : decode cX12_run 115 = .ok (.iload_n 2, 1) := by decide +kernel
theorem dX12_run_116 : decode cX12_run 116 = .ok (.iconst 3, 1) := by decide +kernel
theorem dX12_run_117 : decode cX12_run 117 = .ok (.invokevirtual 249, 3) := by decide +kernel
theorem dX12_run_120 : decode cX12_run 120 = .ok (.iastore, 1) := by decide +kernel
theorem dX12_run_121 : decode cX12_run 121 = .ok (.iinc 2 1, 3) := by decide +kernel
theorem dX12_run_124 : decode cX12_run 124 = .ok (.goto (-21), 3) := by decide +kernel
theorem dX12_run_127 : decode cX12_run 127 = .ok (.aload_n 0, 1) := by decide +kernel
theorem dX12_run_128 : decode cX12_run 128 = .ok (.aload_n 0, 1) := by decide +kernel
theorem dX12_run_129 : decode cX12_run 129 = .ok (.getfield 411, 3) := by decide +kernel
theorem dX12_run_132 : decode cX12_run 132 = .ok (.invokevirtual 87, 3) := by decide +kernel
theorem dX12_run_135 : decode cX12_run 135 = .ok (.ireturn, 1) := by decide +kernel
theorem dX12_ran_0 : decode cX12_ran 0 = .ok (.iload_n 1, 1) := by decide +kernel
theorem dX12_ran_1 : decode cX12_ran 1 = .ok (.ifCond .lt 8, 3) := by decide +kernel
theorem dX12_ran_4 : decode cX12_ran 4 = .ok (.iload_n 1, 1) := by decide +kernel
theorem dX12_ran_5 : decode cX12_ran 5 = .ok (.iconst 4, 1) := by decide +kernel
theorem dX12_ran_6 : decode cX12_ran 6 = .ok (.if_icmp .le 11, 3) := by decide +kernel
theorem dX12_ran_9 : decode cX12_ran 9 = .ok (.aload_n 0, 1) := by decide +kernel
theorem dX12_ran_10 : decode cX12_ran 10 = .ok (.iconst 1, 1) := by decide +kernel
theorem dX12_ran_11 : decode cX12_ran 11 = .ok (.invokevirtual 83, 3) := by decide +kernel
theorem dX12_ran_14 : decode cX12_ran 14 = .ok (.goto 30, 3) := by decide +kernel
theorem dX12_ran_17 : decode cX12_ran 17 = .ok (.aload_n 0, 1) := by decide +kernel
theorem dX12_ran_18 : decode cX12_ran 18 = .ok (.getfield 74, 3) := by decide +kernel
theorem dX12_ran_21 : decode cX12_ran 21 = .ok (.iconst (-1), 1) := by decide +kernel
theorem dX12_ran_22 : decode cX12_ran 22 = .ok (.if_icmp .ne 12, 3) := by decide +kernel
theorem dX12_ran_25 : decode cX12_ran 25 = .ok (.aload_n 0, 1) := by decide +kernel
theorem dX12_ran_26 : decode cX12_ran 26 = .ok (.bipush 6, 2) := by decide +kernel
theorem dX12_ran_28 : decode cX12_ran 28 = .ok (.invokevirtual 83, 3) := by decide +kernel
theorem dX12_ran_31 : decode cX12_ran 31 = .ok (.goto 13, 3) := by decide +kernel
theorem dX12_ran_34 : decode cX12_ran 34 = .ok (.aload_n 0, 1) := by decide +kernel
theorem dX12_ran_35 : decode cX12_ran 35 = .ok (.aload_n 0, 1) := by decide +kernel
theorem dX12_ran_36 : decode cX12_ran 36 = .ok (.getfield 68, 3) := by decide +kernel
theorem dX12_ran_39 : decode cX12_ran 39 = .ok (.iload_n 1, 1) := by decide +kernel
theorem dX12_ran_40 : decode cX12_ran 40 = .ok (.iaload, 1) := by decide +kernel
theorem dX12_ran_41 : decode cX12_ran 41 = .ok (.invokevirtual 87, 3) := by decide +kernel
theorem dX12_ran_44 : decode cX12_ran 44 = .ok (.ireturn, 1) := by decide +kernel
theorem dX12_ranTo_0 : decode cX12_ranTo 0 = .ok (.iload_n 1, 1) := by decide +kernel
theorem dX12_ranTo_1 : decode cX12_ranTo 1 = .ok (.ifCond .lt 9, 3) := by decide +kernel
theorem dX12_ranTo_4 : decode cX12_ranTo 4 = .ok (.iload_n 1, 1) := by decide +kernel
theorem dX12_ranTo_5 : decode cX12_ranTo 5 = .ok (.bipush 8, 2) := by decide +kernel
theorem dX12_ranTo_7 : decode cX12_ranTo 7 = .ok (.if_icmp .lt 11, 3) := by decide +kernel
theorem dX12_ranTo_10 : decode cX12_ranTo 10 = .ok (.aload_n 0, 1) := by decide +kernel
theorem dX12_ranTo_11 : decode cX12_ranTo 11 = .ok (.iconst 1, 1) := by decide +kernel
theorem dX12_ranTo_12 : decode cX12_ranTo 12 = .ok (.invokevirtual 83, 3) := by decide +kernel
theorem dX12_ranTo_15 : decode cX12_ranTo 15 = .ok (.goto 30, 3) := by decide +kernel
theorem dX12_ranTo_18 : decode cX12_ranTo 18 = .ok (.iload_n 1, 1) := by decide +kernel
theorem dX12_ranTo_19 : decode cX12_ranTo 19 = .ok (.aload_n 0, 1) := by decide +kernel
theorem dX12_ranTo_20 : decode cX12_ranTo 20 = .ok (.getfield 74, 3) := by decide +kernel
theorem dX12_ranTo_23 : decode cX12_ranTo 23 = .ok (.if_icmp .lt 12, 3) := by decide +kernel
theorem dX12_ranTo_26 : decode cX12_ranTo 26 = .ok (.aload_n 0, 1) := by decide +kernel
theorem dX12_ranTo_27 : decode cX12_ranTo 27 = .ok (.bipush 6, 2) := by decide +kernel
theorem dX12_ranTo_29 : decode cX12_ranTo 29 = .ok (.invokevirtual 83, 3) := by decide +kernel
theorem dX12_ranTo_32 : decode cX12_ranTo 32 = .ok (.goto 13, 3) := by decide +kernel
theorem dX12_ranTo_35 : decode cX12_ranTo 35 = .ok (.aload_n 0, 1) := by decide +kernel
theorem dX12_ranTo_36 : decode cX12_ranTo 36 = .ok (.aload_n 0, 1) := by decide +kernel
theorem dX12_ranTo_37 : decode cX12_ranTo 37 = .ok (.getfield 71, 3) := by decide +kernel
theorem dX12_ranTo_40 : decode cX12_ranTo 40 = .ok (.iload_n 1, 1) := by decide +kernel
theorem dX12_ranTo_41 : decode cX12_ranTo 41 = .ok (.iaload, 1) := by decide +kernel
theorem dX12_ranTo_42 : decode cX12_ranTo 42 = .ok (.invokevirtual 87, 3) := by decide +kernel
theorem dX12_ranTo_45 : decode cX12_ranTo 45 = .ok (.ireturn, 1) := by decide +kernel
theorem dX12_odds_0 : decode cX12_odds 0 = .ok (.aload_n 0, 1) := by decide +kernel
theorem dX12_odds_1 : decode cX12_odds 1 = .ok (.iload_n 1, 1) := by decide +kernel
theorem dX12_odds_2 : decode cX12_odds 2 = .ok (.invokevirtual 243, 3) := by decide +kernel
theorem dX12_odds_5 : decode cX12_odds 5 = .ok (.ifCond .eq 38, 3) := by decide +kernel
theorem dX12_odds_8 : decode cX12_odds 8 = .ok (.iload_n 2, 1) := by decide +kernel
theorem dX12_odds_9 : decode cX12_odds 9 = .ok (.i2l, 1) := by decide +kernel
theorem dX12_odds_10 : decode cX12_odds 10 = .ok (.lconst 0, 1) := by decide +kernel
theorem dX12_odds_11 : decode cX12_odds 11 = .ok (.ldc2_w 426, 3) := by decide +kernel
theorem dX12_odds_14 : decode cX12_odds 14 = .ok (.invokestatic 321, 3) := by decide +kernel
theorem dX12_odds_17 : decode cX12_odds 17 = .ok (.ifCond .eq 26, 3) := by decide +kernel
theorem dX12_odds_20 : decode cX12_odds 20 = .ok (.iload_n 3, 1) := by decide +kernel
theorem dX12_odds_21 : decode cX12_odds 21 = .ok (.i2l, 1) := by decide +kernel
theorem dX12_odds_22 : decode cX12_odds 22 = .ok (.lconst 1, 1) := by decide +kernel
theorem dX12_odds_23 : decode cX12_odds 23 = .ok (.ldc2_w 431, 3) := by decide +kernel
theorem dX12_odds_26 : decode cX12_odds 26 = .ok (.invokestatic 321, 3) := by decide +kernel
theorem dX12_odds_29 : decode cX12_odds 29 = .ok (.ifCond .eq 14, 3) := by decide +kernel
theorem dX12_odds_32 : decode cX12_odds 32 = .ok (.iload_n 2, 1) := by decide +kernel
theorem dX12_odds_33 : decode cX12_odds 33 = .ok (.iload_n 3, 1) := by decide +kernel
theorem dX12_odds_34 : decode cX12_odds 34 = .ok (.iadd, 1) := by decide +kernel
theorem dX12_odds_35 : decode cX12_odds 35 = .ok (.iconst 1, 1) := by decide +kernel
theorem dX12_odds_36 : decode cX12_odds 36 = .ok (.isub, 1) := by decide +kernel
theorem dX12_odds_37 : decode cX12_odds 37 = .ok (.sipush 9999, 3) := by decide +kernel
theorem dX12_odds_40 : decode cX12_odds 40 = .ok (.if_icmp .le 9, 3) := by decide +kernel
theorem dX12_odds_43 : decode cX12_odds 43 = .ok (.aload_n 0, 1) := by decide +kernel
theorem dX12_odds_44 : decode cX12_odds 44 = .ok (.iconst 1, 1) := by decide +kernel
theorem dX12_odds_45 : decode cX12_odds 45 = .ok (.invokevirtual 90, 3) := by decide +kernel
theorem dX12_odds_48 : decode cX12_odds 48 = .ok (.ireturn, 1) := by decide +kernel
theorem dX12_odds_49 : decode cX12_odds 49 = .ok (.aload_n 0, 1) := by decide +kernel
theorem dX12_odds_50 : decode cX12_odds 50 = .ok (.getfield 7, 3) := by decide +kernel
theorem dX12_odds_53 : decode cX12_odds 53 = .ok (.bipush 6, 2) := by decide +kernel
theorem dX12_odds_55 : decode cX12_odds 55 = .ok (.iaload, 1) := by decide +kernel
theorem dX12_odds_56 : decode cX12_odds 56 = .ok (.iconst (-1), 1) := by decide +kernel
theorem dX12_odds_57 : decode cX12_odds 57 = .ok (.if_icmp .ne 10, 3) := by decide +kernel
theorem dX12_odds_60 : decode cX12_odds 60 = .ok (.aload_n 0, 1) := by decide +kernel
theorem dX12_odds_61 : decode cX12_odds 61 = .ok (.bipush 6, 2) := by decide +kernel
theorem dX12_odds_63 : decode cX12_odds 63 = .ok (.invokevirtual 90, 3) := by decide +kernel
theorem dX12_odds_66 : decode cX12_odds 66 = .ok (.ireturn, 1) := by decide +kernel
theorem dX12_odds_67 : decode cX12_odds 67 = .ok (.iconst 0, 1) := by decide +kernel
theorem dX12_odds_68 : decode cX12_odds 68 = .ok (.istore 4, 2) := by decide +kernel
theorem dX12_odds_70 : decode cX12_odds 70 = .ok (.iconst 0, 1) := by decide +kernel
theorem dX12_odds_71 : decode cX12_odds 71 = .ok (.istore 5, 2) := by decide +kernel
theorem dX12_odds_73 : decode cX12_odds 73 = .ok (.iload 5, 2) := by decide +kernel
theorem dX12_odds_75 : decode cX12_odds 75 = .ok (.iload_n 3, 1) := by decide +kernel
theorem dX12_odds_76 : decode cX12_odds 76 = .ok (.if_icmp .ge 35, 3) := by decide +kernel
theorem dX12_odds_79 : decode cX12_odds 79 = .ok (.aload_n 0, 1) := by decide +kernel
theorem dX12_odds_80 : decode cX12_odds 80 = .ok (.iload_n 2, 1) := by decide +kernel
theorem dX12_odds_81 : decode cX12_odds 81 = .ok (.iload 5, 2) := by decide +kernel
theorem dX12_odds_83 : decode cX12_odds 83 = .ok (.iadd, 1) := by decide +kernel
theorem dX12_odds_84 : decode cX12_odds 84 = .ok (.invokevirtual 428, 3) := by decide +kernel
theorem dX12_odds_87 : decode cX12_odds 87 = .ok (.iload 4, 2) := by decide +kernel
theorem dX12_odds_89 : decode cX12_odds 89 = .ok (.aload_n 0, 1) := by decide +kernel
theorem dX12_odds_90 : decode cX12_odds 90 = .ok (.iload_n 1, 1) := by decide +kernel
theorem dX12_odds_91 : decode cX12_odds 91 = .ok (.invokevirtual 258, 3) := by decide +kernel
theorem dX12_odds_94 : decode cX12_odds 94 = .ok (.ifCond .eq 7, 3) := by decide +kernel
theorem dX12_odds_97 : decode cX12_odds 97 = .ok (.iconst 1, 1) := by decide +kernel
theorem dX12_odds_98 : decode cX12_odds 98 = .ok (.goto 4, 3) := by decide +kernel
theorem dX12_odds_101 : decode cX12_odds 101 = .ok (.iconst 0, 1) := by decide +kernel
theorem dX12_odds_102 : decode cX12_odds 102 = .ok (.iadd, 1) := by decide +kernel
theorem dX12_odds_103 : decode cX12_odds 103 = .ok (.istore 4, 2) := by decide +kernel
theorem dX12_odds_105 : decode cX12_odds 105 = .ok (.iinc 5 1, 3) := by decide +kernel
theorem dX12_odds_108 : decode cX12_odds 108 = .ok (.goto (-35), 3) := by decide +kernel
theorem dX12_odds_111 : decode cX12_odds 111 = .ok (.aload_n 0, 1) := by decide +kernel
theorem dX12_odds_112 : decode cX12_odds 112 = .ok (.iload 4, 2) := by decide +kernel
theorem dX12_odds_114 : decode cX12_odds 114 = .ok (.i2l, 1) := by decide +kernel
theorem dX12_odds_115 : decode cX12_odds 115 = .ok (.iload_n 3, 1) := by decide +kernel
theorem dX12_odds_116 : decode cX12_odds 116 = .ok (.i2l, 1) := by decide +kernel
theorem dX12_odds_117 : decode cX12_odds 117 = .ok (.invokevirtual 351, 3) := by decide +kernel
theorem dX12_odds_120 : decode cX12_odds 120 = .ok (.ireturn, 1) := by decide +kernel
theorem dX12_copies_0 : decode cX12_copies 0 = .ok (.iconst 0, 1) := by decide +kernel
theorem dX12_copies_1 : decode cX12_copies 1 = .ok (.istore_n 3, 1) := by decide +kernel
theorem dX12_copies_2 : decode cX12_copies 2 = .ok (.iload_n 3, 1) := by decide +kernel
theorem dX12_copies_3 : decode cX12_copies 3 = .ok (.sipush 490, 3) := by decide +kernel
theorem dX12_copies_6 : decode cX12_copies 6 = .ok (.if_icmp .ge 33, 3) := by decide +kernel
theorem dX12_copies_9 : decode cX12_copies 9 = .ok (.aload_n 0, 1) := by decide +kernel
theorem dX12_copies_10 : decode cX12_copies 10 = .ok (.getfield 7, 3) := by decide +kernel
theorem dX12_copies_13 : decode cX12_copies 13 = .ok (.sipush 490, 3) := by decide +kernel
theorem dX12_copies_16 : decode cX12_copies 16 = .ok (.iload_n 2, 1) := by decide +kernel
theorem dX12_copies_17 : decode cX12_copies 17 = .ok (.imul, 1) := by decide +kernel
theorem dX12_copies_18 : decode cX12_copies 18 = .ok (.iload_n 3, 1) := by decide +kernel
theorem dX12_copies_19 : decode cX12_copies 19 = .ok (.iadd, 1) := by decide +kernel
theorem dX12_copies_20 : decode cX12_copies 20 = .ok (.aload_n 0, 1) := by decide +kernel
theorem dX12_copies_21 : decode cX12_copies 21 = .ok (.getfield 7, 3) := by decide +kernel
theorem dX12_copies_24 : decode cX12_copies 24 = .ok (.sipush 490, 3) := by decide +kernel
theorem dX12_copies_27 : decode cX12_copies 27 = .ok (.iload_n 1, 1) := by decide +kernel
theorem dX12_copies_28 : decode cX12_copies 28 = .ok (.imul, 1) := by decide +kernel
theorem dX12_copies_29 : decode cX12_copies 29 = .ok (.iload_n 3, 1) := by decide +kernel
theorem dX12_copies_30 : decode cX12_copies 30 = .ok (.iadd, 1) := by decide +kernel
theorem dX12_copies_31 : decode cX12_copies 31 = .ok (.iaload, 1) := by decide +kernel
theorem dX12_copies_32 : decode cX12_copies 32 = .ok (.iastore, 1) := by decide +kernel
theorem dX12_copies_33 : decode cX12_copies 33 = .ok (.iinc 3 1, 3) := by decide +kernel
theorem dX12_copies_36 : decode cX12_copies 36 = .ok (.goto (-34), 3) := by decide +kernel
theorem dX12_copies_39 : decode cX12_copies 39 = .ok (.iconst 0, 1) := by decide +kernel
theorem dX12_copies_40 : decode cX12_copies 40 = .ok (.istore_n 3, 1) := by decide +kernel
theorem dX12_copies_41 : decode cX12_copies 41 = .ok (.iload_n 3, 1) := by decide +kernel
theorem dX12_copies_42 : decode cX12_copies 42 = .ok (.bipush 22, 2) := by decide +kernel
theorem dX12_copies_44 : decode cX12_copies 44 = .ok (.if_icmp .ge 31, 3) := by decide +kernel
theorem dX12_copies_47 : decode cX12_copies 47 = .ok (.aload_n 0, 1) := by decide +kernel
theorem dX12_copies_48 : decode cX12_copies 48 = .ok (.getfield 13, 3) := by decide +kernel
theorem dX12_copies_51 : decode cX12_copies 51 = .ok (.bipush 22, 2) := by decide +kernel
theorem dX12_copies_53 : decode cX12_copies 53 = .ok (.iload_n 2, 1) := by decide +kernel
theorem dX12_copies_54 : decode cX12_copies 54 = .ok (.imul, 1) := by decide +kernel
theorem dX12_copies_55 : decode cX12_copies 55 = .ok (.iload_n 3, 1) := by decide +kernel
theorem dX12_copies_56 : decode cX12_copies 56 = .ok (.iadd, 1) := by decide +kernel
theorem dX12_copies_57 : decode cX12_copies 57 = .ok (.aload_n 0, 1) := by decide +kernel
theorem dX12_copies_58 : decode cX12_copies 58 = .ok (.getfield 13, 3) := by decide +kernel
theorem dX12_copies_61 : decode cX12_copies 61 = .ok (.bipush 22, 2) := by decide +kernel
theorem dX12_copies_63 : decode cX12_copies 63 = .ok (.iload_n 1, 1) := by decide +kernel
theorem dX12_copies_64 : decode cX12_copies 64 = .ok (.imul, 1) := by decide +kernel
theorem dX12_copies_65 : decode cX12_copies 65 = .ok (.iload_n 3, 1) := by decide +kernel
theorem dX12_copies_66 : decode cX12_copies 66 = .ok (.iadd, 1) := by decide +kernel
theorem dX12_copies_67 : decode cX12_copies 67 = .ok (.laload, 1) := by decide +kernel
theorem dX12_copies_68 : decode cX12_copies 68 = .ok (.lastore, 1) := by decide +kernel
theorem dX12_copies_69 : decode cX12_copies 69 = .ok (.iinc 3 1, 3) := by decide +kernel
theorem dX12_copies_72 : decode cX12_copies 72 = .ok (.goto (-31), 3) := by decide +kernel
theorem dX12_copies_75 : decode cX12_copies 75 = .ok (.return_, 1) := by decide +kernel
theorem dX12_mark_0 : decode cX12_mark 0 = .ok (.aload_n 0, 1) := by decide +kernel
theorem dX12_mark_1 : decode cX12_mark 1 = .ok (.getfield 433, 3) := by decide +kernel
theorem dX12_mark_4 : decode cX12_mark 4 = .ok (.iconst 3, 1) := by decide +kernel
theorem dX12_mark_5 : decode cX12_mark 5 = .ok (.if_icmp .ne 9, 3) := by decide +kernel
theorem dX12_mark_8 : decode cX12_mark 8 = .ok (.aload_n 0, 1) := by decide +kernel
theorem dX12_mark_9 : decode cX12_mark 9 = .ok (.iconst 4, 1) := by decide +kernel
theorem dX12_mark_10 : decode cX12_mark 10 = .ok (.invokevirtual 83, 3) := by decide +kernel
theorem dX12_mark_13 : decode cX12_mark 13 = .ok (.ireturn, 1) := by decide +kernel
theorem dX12_mark_14 : decode cX12_mark 14 = .ok (.aload_n 0, 1) := by decide +kernel
theorem dX12_mark_15 : decode cX12_mark 15 = .ok (.dup, 1) := by decide +kernel
theorem dX12_mark_16 : decode cX12_mark 16 = .ok (.getfield 433, 3) := by decide +kernel
theorem dX12_mark_19 : decode cX12_mark 19 = .ok (.iconst 1, 1) := by decide +kernel
theorem dX12_mark_20 : decode cX12_mark 20 = .ok (.iadd, 1) := by decide +kernel
theorem dX12_mark_21 : decode cX12_mark 21 = .ok (.putfield 433, 3) := by decide +kernel
theorem dX12_mark_24 : decode cX12_mark 24 = .ok (.aload_n 0, 1) := by decide +kernel
theorem dX12_mark_25 : decode cX12_mark 25 = .ok (.iconst 0, 1) := by decide +kernel
theorem dX12_mark_26 : decode cX12_mark 26 = .ok (.aload_n 0, 1) := by decide +kernel
theorem dX12_mark_27 : decode cX12_mark 27 = .ok (.getfield 433, 3) := by decide +kernel
theorem dX12_mark_30 : decode cX12_mark 30 = .ok (.invokevirtual 436, 3) := by decide +kernel
theorem dX12_mark_33 : decode cX12_mark 33 = .ok (.aload_n 0, 1) := by decide +kernel
theorem dX12_mark_34 : decode cX12_mark 34 = .ok (.aload_n 0, 1) := by decide +kernel
theorem dX12_mark_35 : decode cX12_mark 35 = .ok (.getfield 433, 3) := by decide +kernel
theorem dX12_mark_38 : decode cX12_mark 38 = .ok (.invokevirtual 87, 3) := by decide +kernel
theorem dX12_mark_41 : decode cX12_mark 41 = .ok (.ireturn, 1) := by decide +kernel
theorem dX12_back_0 : decode cX12_back 0 = .ok (.aload_n 0, 1) := by decide +kernel
theorem dX12_back_1 : decode cX12_back 1 = .ok (.getfield 433, 3) := by decide +kernel
theorem dX12_back_4 : decode cX12_back 4 = .ok (.ifCond .ne 10, 3) := by decide +kernel
theorem dX12_back_7 : decode cX12_back 7 = .ok (.aload_n 0, 1) := by decide +kernel
theorem dX12_back_8 : decode cX12_back 8 = .ok (.bipush 6, 2) := by decide +kernel
theorem dX12_back_10 : decode cX12_back 10 = .ok (.invokevirtual 83, 3) := by decide +kernel
theorem dX12_back_13 : decode cX12_back 13 = .ok (.ireturn, 1) := by decide +kernel
theorem dX12_back_14 : decode cX12_back 14 = .ok (.aload_n 0, 1) := by decide +kernel
theorem dX12_back_15 : decode cX12_back 15 = .ok (.aload_n 0, 1) := by decide +kernel
theorem dX12_back_16 : decode cX12_back 16 = .ok (.getfield 433, 3) := by decide +kernel
theorem dX12_back_19 : decode cX12_back 19 = .ok (.iconst 0, 1) := by decide +kernel
theorem dX12_back_20 : decode cX12_back 20 = .ok (.invokevirtual 436, 3) := by decide +kernel
theorem dX12_back_23 : decode cX12_back 23 = .ok (.aload_n 0, 1) := by decide +kernel
theorem dX12_back_24 : decode cX12_back 24 = .ok (.dup, 1) := by decide +kernel
theorem dX12_back_25 : decode cX12_back 25 = .ok (.getfield 433, 3) := by decide +kernel
theorem dX12_back_28 : decode cX12_back 28 = .ok (.iconst 1, 1) := by decide +kernel
theorem dX12_back_29 : decode cX12_back 29 = .ok (.isub, 1) := by decide +kernel
theorem dX12_back_30 : decode cX12_back 30 = .ok (.putfield 433, 3) := by decide +kernel
theorem dX12_back_33 : decode cX12_back 33 = .ok (.aload_n 0, 1) := by decide +kernel
theorem dX12_back_34 : decode cX12_back 34 = .ok (.aload_n 0, 1) := by decide +kernel
theorem dX12_back_35 : decode cX12_back 35 = .ok (.getfield 433, 3) := by decide +kernel
theorem dX12_back_38 : decode cX12_back 38 = .ok (.invokevirtual 87, 3) := by decide +kernel
theorem dX12_back_41 : decode cX12_back 41 = .ok (.ireturn, 1) := by decide +kernel
